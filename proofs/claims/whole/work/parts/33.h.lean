/-! More methods as functions, printed by a program. -/
set_option maxRecDepth 20000 in
theorem E194 : pgMm 194 = some (⟨"DictionaryHouseModel", "type", "(I)I"⟩, prog_14_method_9_code, 2, (some .int), []) := rfl
theorem D194_0 : pgDecT 194 0 = some (.aload_n 0, 1) := by decide +kernel
theorem D194_1 : pgDecT 194 1 = some (.iload_n 1, 1) := by decide +kernel
theorem D194_2 : pgDecT 194 2 = some (.iconst (-1), 1) := by decide +kernel
theorem D194_3 : pgDecT 194 3 = some (.if_icmp .eq 11, 3) := by decide +kernel
theorem D194_14 : pgDecT 194 14 = some (.aload_n 0, 1) := by decide +kernel
theorem D194_15 : pgDecT 194 15 = some (.getfield 196, 3) := by decide +kernel
theorem F194_196 : pgFf 194 196 = some (12, 5, 0) := by decide +kernel
theorem D194_18 : pgDecT 194 18 = some (.bipush 6, 2) := by decide +kernel
theorem D194_20 : pgDecT 194 20 = some (.if_icmp .ne 7, 3) := by decide +kernel
theorem D194_27 : pgDecT 194 27 = some (.iconst 0, 1) := by decide +kernel
theorem D194_28 : pgDecT 194 28 = some (.goto 4, 3) := by decide +kernel
theorem D194_32 : pgDecT 194 32 = some (.putfield 182, 3) := by decide +kernel
theorem F194_182 : pgFf 194 182 = some (12, 0, 0) := by decide +kernel
theorem D194_35 : pgDecT 194 35 = some (.aload_n 0, 1) := by decide +kernel
theorem D194_36 : pgDecT 194 36 = some (.getfield 182, 3) := by decide +kernel
theorem D194_39 : pgDecT 194 39 = some (.ifCond .eq 5, 3) := by decide +kernel
theorem D194_44 : pgDecT 194 44 = some (.aload_n 0, 1) := by decide +kernel
theorem D194_45 : pgDecT 194 45 = some (.getfield 19, 3) := by decide +kernel
theorem F194_19 : pgFf 194 19 = some (12, 6, 3) := by decide +kernel
theorem D194_48 : pgDecT 194 48 = some (.aload_n 0, 1) := by decide +kernel
theorem D194_49 : pgDecT 194 49 = some (.getfield 196, 3) := by decide +kernel
theorem D194_52 : pgDecT 194 52 = some (.iload_n 1, 1) := by decide +kernel
theorem D194_53 : pgDecT 194 53 = some (.iastore, 1) := by decide +kernel
theorem D194_54 : pgDecT 194 54 = some (.aload_n 0, 1) := by decide +kernel
theorem D194_55 : pgDecT 194 55 = some (.dup, 1) := by decide +kernel
theorem D194_56 : pgDecT 194 56 = some (.getfield 196, 3) := by decide +kernel
theorem D194_59 : pgDecT 194 59 = some (.iconst 1, 1) := by decide +kernel
theorem D194_60 : pgDecT 194 60 = some (.iadd, 1) := by decide +kernel
theorem D194_61 : pgDecT 194 61 = some (.putfield 196, 3) := by decide +kernel
theorem D194_64 : pgDecT 194 64 = some (.aload_n 0, 1) := by decide +kernel
theorem D194_65 : pgDecT 194 65 = some (.getfield 196, 3) := by decide +kernel
theorem D194_68 : pgDecT 194 68 = some (.iconst 1, 1) := by decide +kernel
theorem D194_69 : pgDecT 194 69 = some (.isub, 1) := by decide +kernel
theorem D194_70 : pgDecT 194 70 = some (.ireturn, 1) := by decide +kernel
theorem D194_23 : pgDecT 194 23 = some (.iconst 2, 1) := by decide +kernel
theorem D194_24 : pgDecT 194 24 = some (.goto 8, 3) := by decide +kernel
theorem D194_42 : pgDecT 194 42 = some (.iconst 0, 1) := by decide +kernel
theorem D194_43 : pgDecT 194 43 = some (.ireturn, 1) := by decide +kernel
theorem D194_6 : pgDecT 194 6 = some (.aload_n 0, 1) := by decide +kernel
theorem D194_7 : pgDecT 194 7 = some (.iload_n 1, 1) := by decide +kernel
theorem D194_8 : pgDecT 194 8 = some (.invokevirtual 199, 3) := by decide +kernel
theorem I194_199 : pgIi 194 199 = some (195, 1, 12) := by decide +kernel
theorem D194_11 : pgDecT 194 11 = some (.ifCond .eq 20, 3) := by decide +kernel
theorem D194_31 : pgDecT 194 31 = some (.iconst 1, 1) := by decide +kernel
/-! 194: DictionaryHouseModel.type (I)I -/
def f194 (M : Mm) (x1 : Int) : Option (Int × Mm) := if x1 = (-1) then (if ¬ (M 53 5) = 6 then (if 0 ≤ (M 53 5) ∧ (M 53 5) < 6 then (if rg ((M 53 5) + 1) then (if rg (((M 53 5) + 1) - 1) then (some ((((M 53 5) + 1) - 1), (up (up (up M 53 0 0) 57 (Int.toNat (M 53 5)) x1) 53 5 ((M 53 5) + 1)))) else none) else none) else none) else (some (0, (up M 53 0 2)))) else (f195 M x1).bind (fun q15 => if q15 = 0 then (some (0, (up M 53 0 1))) else (if ¬ (M 53 5) = 6 then (if 0 ≤ (M 53 5) ∧ (M 53 5) < 6 then (if rg ((M 53 5) + 1) then (if rg (((M 53 5) + 1) - 1) then (some ((((M 53 5) + 1) - 1), (up (up (up M 53 0 0) 57 (Int.toNat (M 53 5)) x1) 53 5 ((M 53 5) + 1)))) else none) else none) else none) else (some (0, (up M 53 0 2)))))
theorem c194 {L : Nat} {xs : Nat → Int32} {h : mvH} {M : Mm} {x1 : Int} {v : Int} {M' : Mm} (R : rp h M) (rx1 : rg x1) (hs : f194 M x1 = some (v, M')) : evx L xs 2 194 0 [(0, .inr (.inr (.inl (some 53)))), (1, .inl (iz x1))] [] h (.inl (some (.inl v)), 0) M' := by
  unfold f194 at hs
  refine evx_F E194 D194_0 rfl rfl ?_
  refine evx_F E194 D194_1 rfl rfl ?_
  refine evx_F E194 D194_2 rfl rfl ?_
  by_cases cb1 : x1 = (-1)
  · rw [if_pos cb1] at hs
    refine evx_F E194 D194_3 rfl (ifT (c2_eq_T rx1 (by decide) cb1)) ?_
    refine evx_F E194 D194_14 rfl rfl ?_
    refine evx_gfi (k := 5) E194 D194_15 F194_196 H53 rfl R ?_
    refine evx_k (k := 6) E194 D194_18 rfl (by decide) ?_
    by_cases cb2 : ¬ (M 53 5) = 6
    · rw [if_pos cb2] at hs
      refine evx_F E194 D194_20 rfl (ifT (c2_ne_T (R.1 53 5) (by decide) cb2)) ?_
      refine evx_F E194 D194_27 rfl rfl ?_
      refine evx_F E194 D194_28 rfl rfl ?_
      refine evx_pfi (k := 0) E194 D194_32 F194_182 H53 rfl R (by decide) rfl ?_
      intro h3 R4
      refine evx_F E194 D194_35 rfl rfl ?_
      refine evx_gfi (k := 0) E194 D194_36 F194_182 H53 rfl R4 ?_
      show evx _ _ _ _ _ _ (.inl (iz 0) :: _) _ _ _
      refine evx_F E194 D194_39 rfl rfl ?_
      refine evx_F E194 D194_44 rfl rfl ?_
      refine evx_gfr E194 D194_45 F194_19 H53 rfl R4 ?_
      refine evx_F E194 D194_48 rfl rfl ?_
      refine evx_gfi (k := 5) E194 D194_49 F194_196 H53 rfl R4 ?_
      show evx _ _ _ _ _ _ (.inl (iz (M 53 5)) :: _) _ _ _
      refine evx_F E194 D194_52 rfl rfl ?_
      obtain ⟨k5, hs⟩ := ck hs
      refine evx_ias E194 D194_53 H57 (by decide) R4 k5 rx1 ?_
      intro h6 R7
      refine evx_F E194 D194_54 rfl rfl ?_
      refine evx_F E194 D194_55 rfl rfl ?_
      refine evx_gfi (k := 5) E194 D194_56 F194_196 H53 rfl R7 ?_
      show evx _ _ _ _ _ _ (.inl (iz (M 53 5)) :: _) _ _ _
      refine evx_F E194 D194_59 rfl rfl ?_
      refine evx_add E194 D194_60 ?_
      obtain ⟨k8, hs⟩ := ck hs
      refine evx_pfi (k := 5) E194 D194_61 F194_196 H53 rfl R7 k8 rfl ?_
      intro h9 R10
      refine evx_F E194 D194_64 rfl rfl ?_
      refine evx_gfi (k := 5) E194 D194_65 F194_196 H53 rfl R10 ?_
      show evx _ _ _ _ _ _ (.inl (iz ((M 53 5) + 1)) :: _) _ _ _
      refine evx_F E194 D194_68 rfl rfl ?_
      refine evx_sub E194 D194_69 ?_
      obtain ⟨k11, hs⟩ := ck hs
      cases hs
      exact evx_ret E194 D194_70 rfl (fun d => rfl) rfl (show rg _ from k11) R10
    · rw [if_neg cb2] at hs
      refine evx_F E194 D194_20 rfl (ifF (c2_ne_F (R.1 53 5) (by decide) (by omega))) ?_
      refine evx_F E194 D194_23 rfl rfl ?_
      refine evx_F E194 D194_24 rfl rfl ?_
      refine evx_pfi (k := 0) E194 D194_32 F194_182 H53 rfl R (by decide) rfl ?_
      intro h12 R13
      refine evx_F E194 D194_35 rfl rfl ?_
      refine evx_gfi (k := 0) E194 D194_36 F194_182 H53 rfl R13 ?_
      show evx _ _ _ _ _ _ (.inl (iz 2) :: _) _ _ _
      refine evx_F E194 D194_39 rfl rfl ?_
      refine evx_F E194 D194_42 rfl rfl ?_
      cases hs
      exact evx_ret E194 D194_43 rfl (fun d => rfl) rfl (show rg _ from (by decide)) R13
  · rw [if_neg cb1] at hs
    refine evx_F E194 D194_3 rfl (ifF (c2_eq_F rx1 (by decide) (by omega))) ?_
    refine evx_F E194 D194_6 rfl rfl ?_
    refine evx_F E194 D194_7 rfl rfl ?_
    obtain ⟨q15, e14, hs⟩ := Option.bind_eq_some_iff.mp hs
    refine evx_cv (D := 1) E194 D194_8 I194_199 rfl rfl H53 ⟨Nat.le_of_ble_eq_true rfl, Nat.le_of_ble_eq_true rfl⟩ ⟨rfl, Nat.le_of_ble_eq_true rfl⟩ rfl R (evx_up (Nat.le_of_ble_eq_true rfl) (c195 R rx1 e14)) ?_
    intro h16 R17 w18
    have w18 : rg q15 := w18
    show evx _ _ _ _ _ _ (.inl (iz q15) :: _) _ _ _
    by_cases cb19 : q15 = 0
    · rw [if_pos cb19] at hs
      refine evx_F E194 D194_11 rfl (ifT (c1_eq_T w18 cb19)) ?_
      refine evx_F E194 D194_31 rfl rfl ?_
      refine evx_pfi (k := 0) E194 D194_32 F194_182 H53 rfl R17 (by decide) rfl ?_
      intro h20 R21
      refine evx_F E194 D194_35 rfl rfl ?_
      refine evx_gfi (k := 0) E194 D194_36 F194_182 H53 rfl R21 ?_
      show evx _ _ _ _ _ _ (.inl (iz 1) :: _) _ _ _
      refine evx_F E194 D194_39 rfl rfl ?_
      refine evx_F E194 D194_42 rfl rfl ?_
      cases hs
      exact evx_ret E194 D194_43 rfl (fun d => rfl) rfl (show rg _ from (by decide)) R21
    · rw [if_neg cb19] at hs
      refine evx_F E194 D194_11 rfl (ifF (c1_eq_F w18 (by omega))) ?_
      refine evx_F E194 D194_14 rfl rfl ?_
      refine evx_gfi (k := 5) E194 D194_15 F194_196 H53 rfl R17 ?_
      refine evx_k (k := 6) E194 D194_18 rfl (by decide) ?_
      by_cases cb22 : ¬ (M 53 5) = 6
      · rw [if_pos cb22] at hs
        refine evx_F E194 D194_20 rfl (ifT (c2_ne_T (R17.1 53 5) (by decide) cb22)) ?_
        refine evx_F E194 D194_27 rfl rfl ?_
        refine evx_F E194 D194_28 rfl rfl ?_
        refine evx_pfi (k := 0) E194 D194_32 F194_182 H53 rfl R17 (by decide) rfl ?_
        intro h23 R24
        refine evx_F E194 D194_35 rfl rfl ?_
        refine evx_gfi (k := 0) E194 D194_36 F194_182 H53 rfl R24 ?_
        show evx _ _ _ _ _ _ (.inl (iz 0) :: _) _ _ _
        refine evx_F E194 D194_39 rfl rfl ?_
        refine evx_F E194 D194_44 rfl rfl ?_
        refine evx_gfr E194 D194_45 F194_19 H53 rfl R24 ?_
        refine evx_F E194 D194_48 rfl rfl ?_
        refine evx_gfi (k := 5) E194 D194_49 F194_196 H53 rfl R24 ?_
        show evx _ _ _ _ _ _ (.inl (iz (M 53 5)) :: _) _ _ _
        refine evx_F E194 D194_52 rfl rfl ?_
        obtain ⟨k25, hs⟩ := ck hs
        refine evx_ias E194 D194_53 H57 (by decide) R24 k25 rx1 ?_
        intro h26 R27
        refine evx_F E194 D194_54 rfl rfl ?_
        refine evx_F E194 D194_55 rfl rfl ?_
        refine evx_gfi (k := 5) E194 D194_56 F194_196 H53 rfl R27 ?_
        show evx _ _ _ _ _ _ (.inl (iz (M 53 5)) :: _) _ _ _
        refine evx_F E194 D194_59 rfl rfl ?_
        refine evx_add E194 D194_60 ?_
        obtain ⟨k28, hs⟩ := ck hs
        refine evx_pfi (k := 5) E194 D194_61 F194_196 H53 rfl R27 k28 rfl ?_
        intro h29 R30
        refine evx_F E194 D194_64 rfl rfl ?_
        refine evx_gfi (k := 5) E194 D194_65 F194_196 H53 rfl R30 ?_
        show evx _ _ _ _ _ _ (.inl (iz ((M 53 5) + 1)) :: _) _ _ _
        refine evx_F E194 D194_68 rfl rfl ?_
        refine evx_sub E194 D194_69 ?_
        obtain ⟨k31, hs⟩ := ck hs
        cases hs
        exact evx_ret E194 D194_70 rfl (fun d => rfl) rfl (show rg _ from k31) R30
      · rw [if_neg cb22] at hs
        refine evx_F E194 D194_20 rfl (ifF (c2_ne_F (R17.1 53 5) (by decide) (by omega))) ?_
        refine evx_F E194 D194_23 rfl rfl ?_
        refine evx_F E194 D194_24 rfl rfl ?_
        refine evx_pfi (k := 0) E194 D194_32 F194_182 H53 rfl R17 (by decide) rfl ?_
        intro h32 R33
        refine evx_F E194 D194_35 rfl rfl ?_
        refine evx_gfi (k := 0) E194 D194_36 F194_182 H53 rfl R33 ?_
        show evx _ _ _ _ _ _ (.inl (iz 2) :: _) _ _ _
        refine evx_F E194 D194_39 rfl rfl ?_
        refine evx_F E194 D194_42 rfl rfl ?_
        cases hs
        exact evx_ret E194 D194_43 rfl (fun d => rfl) rfl (show rg _ from (by decide)) R33
set_option maxRecDepth 20000 in
theorem E196 : pgMm 196 = some (⟨"DictionaryHouseModel", "method", "(II)I"⟩, prog_14_method_12_code, 4, (some .int), []) := rfl
theorem D196_0 : pgDecT 196 0 = some (.aload_n 0, 1) := by decide +kernel
theorem D196_1 : pgDecT 196 1 = some (.iload_n 1, 1) := by decide +kernel
theorem D196_2 : pgDecT 196 2 = some (.invokevirtual 199, 3) := by decide +kernel
theorem I196_199 : pgIi 196 199 = some (195, 1, 12) := by decide +kernel
theorem D196_5 : pgDecT 196 5 = some (.ifCond .eq 24, 3) := by decide +kernel
theorem D196_29 : pgDecT 196 29 = some (.iconst 0, 1) := by decide +kernel
theorem D196_30 : pgDecT 196 30 = some (.istore_n 3, 1) := by decide +kernel
theorem D196_31 : pgDecT 196 31 = some (.aload_n 0, 1) := by decide +kernel
theorem D196_32 : pgDecT 196 32 = some (.iload_n 3, 1) := by decide +kernel
theorem D196_33 : pgDecT 196 33 = some (.ifCond .ne 7, 3) := by decide +kernel
theorem D196_36 : pgDecT 196 36 = some (.iconst 1, 1) := by decide +kernel
theorem D196_37 : pgDecT 196 37 = some (.goto 26, 3) := by decide +kernel
theorem D196_63 : pgDecT 196 63 = some (.putfield 182, 3) := by decide +kernel
theorem F196_182 : pgFf 196 182 = some (12, 0, 0) := by decide +kernel
theorem D196_66 : pgDecT 196 66 = some (.aload_n 0, 1) := by decide +kernel
theorem D196_67 : pgDecT 196 67 = some (.getfield 182, 3) := by decide +kernel
theorem D196_70 : pgDecT 196 70 = some (.ifCond .eq 5, 3) := by decide +kernel
theorem D196_73 : pgDecT 196 73 = some (.iconst 0, 1) := by decide +kernel
theorem D196_74 : pgDecT 196 74 = some (.ireturn, 1) := by decide +kernel
theorem D196_8 : pgDecT 196 8 = some (.aload_n 0, 1) := by decide +kernel
theorem D196_9 : pgDecT 196 9 = some (.iload_n 2, 1) := by decide +kernel
theorem D196_10 : pgDecT 196 10 = some (.invokevirtual 189, 3) := by decide +kernel
theorem I196_189 : pgIi 196 189 = some (190, 1, 12) := by decide +kernel
theorem D196_13 : pgDecT 196 13 = some (.ifCond .eq 16, 3) := by decide +kernel
theorem D196_16 : pgDecT 196 16 = some (.aload_n 0, 1) := by decide +kernel
theorem D196_17 : pgDecT 196 17 = some (.iload_n 2, 1) := by decide +kernel
theorem D196_18 : pgDecT 196 18 = some (.invokevirtual 202, 3) := by decide +kernel
theorem I196_202 : pgIi 196 202 = some (197, 1, 12) := by decide +kernel
theorem D196_21 : pgDecT 196 21 = some (.iconst 1, 1) := by decide +kernel
theorem D196_22 : pgDecT 196 22 = some (.if_icmp .ne 7, 3) := by decide +kernel
theorem D196_25 : pgDecT 196 25 = some (.iconst 1, 1) := by decide +kernel
theorem D196_26 : pgDecT 196 26 = some (.goto 4, 3) := by decide +kernel
theorem D196_40 : pgDecT 196 40 = some (.aload_n 0, 1) := by decide +kernel
theorem D196_41 : pgDecT 196 41 = some (.getfield 22, 3) := by decide +kernel
theorem F196_22 : pgFf 196 22 = some (12, 7, 3) := by decide +kernel
theorem D196_44 : pgDecT 196 44 = some (.iload_n 1, 1) := by decide +kernel
theorem D196_45 : pgDecT 196 45 = some (.iaload, 1) := by decide +kernel
theorem D196_46 : pgDecT 196 46 = some (.iconst 3, 1) := by decide +kernel
theorem D196_47 : pgDecT 196 47 = some (.if_icmp .eq 11, 3) := by decide +kernel
theorem D196_58 : pgDecT 196 58 = some (.iconst 2, 1) := by decide +kernel
theorem D196_59 : pgDecT 196 59 = some (.goto 4, 3) := by decide +kernel
theorem D196_50 : pgDecT 196 50 = some (.aload_n 0, 1) := by decide +kernel
theorem D196_51 : pgDecT 196 51 = some (.iload_n 1, 1) := by decide +kernel
theorem D196_52 : pgDecT 196 52 = some (.invokevirtual 206, 3) := by decide +kernel
theorem I196_206 : pgIi 196 206 = some (198, 1, 12) := by decide +kernel
theorem D196_55 : pgDecT 196 55 = some (.ifCond .eq 7, 3) := by decide +kernel
theorem D196_62 : pgDecT 196 62 = some (.iconst 0, 1) := by decide +kernel
theorem D196_75 : pgDecT 196 75 = some (.aload_n 0, 1) := by decide +kernel
theorem D196_76 : pgDecT 196 76 = some (.getfield 25, 3) := by decide +kernel
theorem F196_25 : pgFf 196 25 = some (12, 8, 3) := by decide +kernel
theorem D196_79 : pgDecT 196 79 = some (.iconst 3, 1) := by decide +kernel
theorem D196_80 : pgDecT 196 80 = some (.iload_n 1, 1) := by decide +kernel
theorem D196_81 : pgDecT 196 81 = some (.imul, 1) := by decide +kernel
theorem D196_82 : pgDecT 196 82 = some (.aload_n 0, 1) := by decide +kernel
theorem D196_83 : pgDecT 196 83 = some (.getfield 22, 3) := by decide +kernel
theorem D196_86 : pgDecT 196 86 = some (.iload_n 1, 1) := by decide +kernel
theorem D196_87 : pgDecT 196 87 = some (.iaload, 1) := by decide +kernel
theorem D196_88 : pgDecT 196 88 = some (.iadd, 1) := by decide +kernel
theorem D196_89 : pgDecT 196 89 = some (.iload_n 2, 1) := by decide +kernel
theorem D196_90 : pgDecT 196 90 = some (.iastore, 1) := by decide +kernel
theorem D196_91 : pgDecT 196 91 = some (.aload_n 0, 1) := by decide +kernel
theorem D196_92 : pgDecT 196 92 = some (.getfield 22, 3) := by decide +kernel
theorem D196_95 : pgDecT 196 95 = some (.iload_n 1, 1) := by decide +kernel
theorem D196_96 : pgDecT 196 96 = some (.dup2, 1) := by decide +kernel
theorem D196_97 : pgDecT 196 97 = some (.iaload, 1) := by decide +kernel
theorem D196_98 : pgDecT 196 98 = some (.iconst 1, 1) := by decide +kernel
theorem D196_99 : pgDecT 196 99 = some (.iadd, 1) := by decide +kernel
theorem D196_100 : pgDecT 196 100 = some (.iastore, 1) := by decide +kernel
theorem D196_101 : pgDecT 196 101 = some (.aload_n 0, 1) := by decide +kernel
theorem D196_102 : pgDecT 196 102 = some (.getfield 22, 3) := by decide +kernel
theorem D196_105 : pgDecT 196 105 = some (.iload_n 1, 1) := by decide +kernel
theorem D196_106 : pgDecT 196 106 = some (.iaload, 1) := by decide +kernel
theorem D196_107 : pgDecT 196 107 = some (.iconst 1, 1) := by decide +kernel
theorem D196_108 : pgDecT 196 108 = some (.isub, 1) := by decide +kernel
theorem D196_109 : pgDecT 196 109 = some (.ireturn, 1) := by decide +kernel
/-! 196: DictionaryHouseModel.method (II)I -/
def f196 (M : Mm) (x1 : Int) (x2 : Int) : Option (Int × Mm) := (f195 M x1).bind (fun q2 => if q2 = 0 then (some (0, (up M 53 0 1))) else (f190 M x2).bind (fun q10 => if q10 = 0 then (some (0, (up M 53 0 1))) else (f197 M x2).bind (fun zq18 => if ¬ zq18.1 = 1 then (some (0, (up zq18.2 53 0 1))) else (if 0 ≤ x1 ∧ x1 < 6 then (if (zq18.2 58 (Int.toNat x1)) = 3 then (some (0, (up zq18.2 53 0 2))) else (f198 zq18.2 x1).bind (fun q31 => if q31 = 0 then (if 0 ≤ (((3 : Int) * x1) + (zq18.2 58 (Int.toNat x1))) ∧ (((3 : Int) * x1) + (zq18.2 58 (Int.toNat x1))) < 18 then (if rg ((zq18.2 58 (Int.toNat x1)) + 1) then (if rg (((up (up (up zq18.2 53 0 0) 59 (Int.toNat (((3 : Int) * x1) + (zq18.2 58 (Int.toNat x1)))) x2) 58 (Int.toNat x1) ((zq18.2 58 (Int.toNat x1)) + 1)) 58 (Int.toNat x1)) - 1) then (some ((((up (up (up zq18.2 53 0 0) 59 (Int.toNat (((3 : Int) * x1) + (zq18.2 58 (Int.toNat x1)))) x2) 58 (Int.toNat x1) ((zq18.2 58 (Int.toNat x1)) + 1)) 58 (Int.toNat x1)) - 1), (up (up (up zq18.2 53 0 0) 59 (Int.toNat (((3 : Int) * x1) + (zq18.2 58 (Int.toNat x1)))) x2) 58 (Int.toNat x1) ((zq18.2 58 (Int.toNat x1)) + 1)))) else none) else none) else none) else (some (0, (up zq18.2 53 0 2))))) else none))))
theorem c196 {L : Nat} {xs : Nat → Int32} {h : mvH} {M : Mm} {x1 x2 : Int} {v : Int} {M' : Mm} (R : rp h M) (rx1 : rg x1) (rx2 : rg x2) (hs : f196 M x1 x2 = some (v, M')) : evx L xs 2 196 0 [(0, .inr (.inr (.inl (some 53)))), (1, .inl (iz x1)), (2, .inl (iz x2))] [] h (.inl (some (.inl v)), 0) M' := by
  unfold f196 at hs
  refine evx_F E196 D196_0 rfl rfl ?_
  refine evx_F E196 D196_1 rfl rfl ?_
  obtain ⟨q2, e1, hs⟩ := Option.bind_eq_some_iff.mp hs
  refine evx_cv (D := 1) E196 D196_2 I196_199 rfl rfl H53 ⟨Nat.le_of_ble_eq_true rfl, Nat.le_of_ble_eq_true rfl⟩ ⟨rfl, Nat.le_of_ble_eq_true rfl⟩ rfl R (evx_up (Nat.le_of_ble_eq_true rfl) (c195 R rx1 e1)) ?_
  intro h3 R4 w5
  have w5 : rg q2 := w5
  show evx _ _ _ _ _ _ (.inl (iz q2) :: _) _ _ _
  by_cases cb6 : q2 = 0
  · rw [if_pos cb6] at hs
    refine evx_F E196 D196_5 rfl (ifT (c1_eq_T w5 cb6)) ?_
    refine evx_F E196 D196_29 rfl rfl ?_
    refine evx_F E196 D196_30 rfl rfl ?_
    refine evx_F E196 D196_31 rfl rfl ?_
    refine evx_F E196 D196_32 rfl rfl ?_
    refine evx_F E196 D196_33 rfl rfl ?_
    refine evx_F E196 D196_36 rfl rfl ?_
    refine evx_F E196 D196_37 rfl rfl ?_
    refine evx_pfi (k := 0) E196 D196_63 F196_182 H53 rfl R4 (by decide) rfl ?_
    intro h7 R8
    refine evx_F E196 D196_66 rfl rfl ?_
    refine evx_gfi (k := 0) E196 D196_67 F196_182 H53 rfl R8 ?_
    show evx _ _ _ _ _ _ (.inl (iz 1) :: _) _ _ _
    refine evx_F E196 D196_70 rfl rfl ?_
    refine evx_F E196 D196_73 rfl rfl ?_
    cases hs
    exact evx_ret E196 D196_74 rfl (fun d => rfl) rfl (show rg _ from (by decide)) R8
  · rw [if_neg cb6] at hs
    refine evx_F E196 D196_5 rfl (ifF (c1_eq_F w5 (by omega))) ?_
    refine evx_F E196 D196_8 rfl rfl ?_
    refine evx_F E196 D196_9 rfl rfl ?_
    obtain ⟨q10, e9, hs⟩ := Option.bind_eq_some_iff.mp hs
    refine evx_cv (D := 1) E196 D196_10 I196_189 rfl rfl H53 ⟨Nat.le_of_ble_eq_true rfl, Nat.le_of_ble_eq_true rfl⟩ ⟨rfl, Nat.le_of_ble_eq_true rfl⟩ rfl R4 (evx_up (Nat.le_of_ble_eq_true rfl) (c190 R4 rx2 e9)) ?_
    intro h11 R12 w13
    have w13 : rg q10 := w13
    show evx _ _ _ _ _ _ (.inl (iz q10) :: _) _ _ _
    by_cases cb14 : q10 = 0
    · rw [if_pos cb14] at hs
      refine evx_F E196 D196_13 rfl (ifT (c1_eq_T w13 cb14)) ?_
      refine evx_F E196 D196_29 rfl rfl ?_
      refine evx_F E196 D196_30 rfl rfl ?_
      refine evx_F E196 D196_31 rfl rfl ?_
      refine evx_F E196 D196_32 rfl rfl ?_
      refine evx_F E196 D196_33 rfl rfl ?_
      refine evx_F E196 D196_36 rfl rfl ?_
      refine evx_F E196 D196_37 rfl rfl ?_
      refine evx_pfi (k := 0) E196 D196_63 F196_182 H53 rfl R12 (by decide) rfl ?_
      intro h15 R16
      refine evx_F E196 D196_66 rfl rfl ?_
      refine evx_gfi (k := 0) E196 D196_67 F196_182 H53 rfl R16 ?_
      show evx _ _ _ _ _ _ (.inl (iz 1) :: _) _ _ _
      refine evx_F E196 D196_70 rfl rfl ?_
      refine evx_F E196 D196_73 rfl rfl ?_
      cases hs
      exact evx_ret E196 D196_74 rfl (fun d => rfl) rfl (show rg _ from (by decide)) R16
    · rw [if_neg cb14] at hs
      refine evx_F E196 D196_13 rfl (ifF (c1_eq_F w13 (by omega))) ?_
      refine evx_F E196 D196_16 rfl rfl ?_
      refine evx_F E196 D196_17 rfl rfl ?_
      obtain ⟨⟨q18, M22⟩, e17, hs⟩ := Option.bind_eq_some_iff.mp hs
      dsimp only at hs
      refine evx_cv (D := 1) E196 D196_18 I196_202 rfl rfl H53 ⟨Nat.le_of_ble_eq_true rfl, Nat.le_of_ble_eq_true rfl⟩ ⟨rfl, Nat.le_of_ble_eq_true rfl⟩ rfl R12 (evx_up (Nat.le_of_ble_eq_true rfl) (c197 R12 rx2 e17)) ?_
      intro h19 R20 w21
      have w21 : rg q18 := w21
      show evx _ _ _ _ _ _ (.inl (iz q18) :: _) _ _ _
      refine evx_F E196 D196_21 rfl rfl ?_
      by_cases cb23 : ¬ q18 = 1
      · rw [if_pos cb23] at hs
        refine evx_F E196 D196_22 rfl (ifT (c2_ne_T w21 (by decide) cb23)) ?_
        refine evx_F E196 D196_29 rfl rfl ?_
        refine evx_F E196 D196_30 rfl rfl ?_
        refine evx_F E196 D196_31 rfl rfl ?_
        refine evx_F E196 D196_32 rfl rfl ?_
        refine evx_F E196 D196_33 rfl rfl ?_
        refine evx_F E196 D196_36 rfl rfl ?_
        refine evx_F E196 D196_37 rfl rfl ?_
        refine evx_pfi (k := 0) E196 D196_63 F196_182 H53 rfl R20 (by decide) rfl ?_
        intro h24 R25
        refine evx_F E196 D196_66 rfl rfl ?_
        refine evx_gfi (k := 0) E196 D196_67 F196_182 H53 rfl R25 ?_
        show evx _ _ _ _ _ _ (.inl (iz 1) :: _) _ _ _
        refine evx_F E196 D196_70 rfl rfl ?_
        refine evx_F E196 D196_73 rfl rfl ?_
        cases hs
        exact evx_ret E196 D196_74 rfl (fun d => rfl) rfl (show rg _ from (by decide)) R25
      · rw [if_neg cb23] at hs
        refine evx_F E196 D196_22 rfl (ifF (c2_ne_F w21 (by decide) (by omega))) ?_
        refine evx_F E196 D196_25 rfl rfl ?_
        refine evx_F E196 D196_26 rfl rfl ?_
        refine evx_F E196 D196_30 rfl rfl ?_
        refine evx_F E196 D196_31 rfl rfl ?_
        refine evx_F E196 D196_32 rfl rfl ?_
        refine evx_F E196 D196_33 rfl rfl ?_
        refine evx_F E196 D196_40 rfl rfl ?_
        refine evx_gfr E196 D196_41 F196_22 H53 rfl R20 ?_
        refine evx_F E196 D196_44 rfl rfl ?_
        obtain ⟨k26, hs⟩ := ck hs
        refine evx_ial E196 D196_45 H58 (by decide) R20 k26 ?_
        refine evx_F E196 D196_46 rfl rfl ?_
        by_cases cb27 : (M22 58 (Int.toNat x1)) = 3
        · rw [if_pos cb27] at hs
          refine evx_F E196 D196_47 rfl (ifT (c2_eq_T (R20.1 58 (Int.toNat x1)) (by decide) cb27)) ?_
          refine evx_F E196 D196_58 rfl rfl ?_
          refine evx_F E196 D196_59 rfl rfl ?_
          refine evx_pfi (k := 0) E196 D196_63 F196_182 H53 rfl R20 (by decide) rfl ?_
          intro h28 R29
          refine evx_F E196 D196_66 rfl rfl ?_
          refine evx_gfi (k := 0) E196 D196_67 F196_182 H53 rfl R29 ?_
          show evx _ _ _ _ _ _ (.inl (iz 2) :: _) _ _ _
          refine evx_F E196 D196_70 rfl rfl ?_
          refine evx_F E196 D196_73 rfl rfl ?_
          cases hs
          exact evx_ret E196 D196_74 rfl (fun d => rfl) rfl (show rg _ from (by decide)) R29
        · rw [if_neg cb27] at hs
          refine evx_F E196 D196_47 rfl (ifF (c2_eq_F (R20.1 58 (Int.toNat x1)) (by decide) (by omega))) ?_
          refine evx_F E196 D196_50 rfl rfl ?_
          refine evx_F E196 D196_51 rfl rfl ?_
          obtain ⟨q31, e30, hs⟩ := Option.bind_eq_some_iff.mp hs
          refine evx_cv (D := 1) E196 D196_52 I196_206 rfl rfl H53 ⟨Nat.le_of_ble_eq_true rfl, Nat.le_of_ble_eq_true rfl⟩ ⟨rfl, Nat.le_of_ble_eq_true rfl⟩ rfl R20 (evx_up (Nat.le_of_ble_eq_true rfl) (c198 R20 rx1 e30)) ?_
          intro h32 R33 w34
          have w34 : rg q31 := w34
          show evx _ _ _ _ _ _ (.inl (iz q31) :: _) _ _ _
          by_cases cb35 : q31 = 0
          · rw [if_pos cb35] at hs
            refine evx_F E196 D196_55 rfl (ifT (c1_eq_T w34 cb35)) ?_
            refine evx_F E196 D196_62 rfl rfl ?_
            refine evx_pfi (k := 0) E196 D196_63 F196_182 H53 rfl R33 (by decide) rfl ?_
            intro h36 R37
            refine evx_F E196 D196_66 rfl rfl ?_
            refine evx_gfi (k := 0) E196 D196_67 F196_182 H53 rfl R37 ?_
            show evx _ _ _ _ _ _ (.inl (iz 0) :: _) _ _ _
            refine evx_F E196 D196_70 rfl rfl ?_
            refine evx_F E196 D196_75 rfl rfl ?_
            refine evx_gfr E196 D196_76 F196_25 H53 rfl R37 ?_
            refine evx_F E196 D196_79 rfl rfl ?_
            refine evx_F E196 D196_80 rfl rfl ?_
            refine evx_mul E196 D196_81 ?_
            refine evx_F E196 D196_82 rfl rfl ?_
            refine evx_gfr E196 D196_83 F196_22 H53 rfl R37 ?_
            refine evx_F E196 D196_86 rfl rfl ?_
            refine evx_ial E196 D196_87 H58 (by decide) R37 k26 ?_
            show evx _ _ _ _ _ _ (.inl (iz (M22 58 (Int.toNat x1))) :: _) _ _ _
            refine evx_add E196 D196_88 ?_
            refine evx_F E196 D196_89 rfl rfl ?_
            obtain ⟨k38, hs⟩ := ck hs
            refine evx_ias E196 D196_90 H59 (by decide) R37 k38 rx2 ?_
            intro h39 R40
            refine evx_F E196 D196_91 rfl rfl ?_
            refine evx_gfr E196 D196_92 F196_22 H53 rfl R40 ?_
            refine evx_F E196 D196_95 rfl rfl ?_
            refine evx_F E196 D196_96 rfl rfl ?_
            refine evx_ial E196 D196_97 H58 (by decide) R40 k26 ?_
            show evx _ _ _ _ _ _ (.inl (iz (M22 58 (Int.toNat x1))) :: _) _ _ _
            refine evx_F E196 D196_98 rfl rfl ?_
            refine evx_add E196 D196_99 ?_
            obtain ⟨k41, hs⟩ := ck hs
            refine evx_ias E196 D196_100 H58 (by decide) R40 k26 k41 ?_
            intro h42 R43
            refine evx_F E196 D196_101 rfl rfl ?_
            refine evx_gfr E196 D196_102 F196_22 H53 rfl R43 ?_
            refine evx_F E196 D196_105 rfl rfl ?_
            refine evx_ial E196 D196_106 H58 (by decide) R43 k26 ?_
            refine evx_F E196 D196_107 rfl rfl ?_
            refine evx_sub E196 D196_108 ?_
            obtain ⟨k44, hs⟩ := ck hs
            cases hs
            exact evx_ret E196 D196_109 rfl (fun d => rfl) rfl (show rg _ from k44) R43
          · rw [if_neg cb35] at hs
            refine evx_F E196 D196_55 rfl (ifF (c1_eq_F w34 (by omega))) ?_
            refine evx_F E196 D196_58 rfl rfl ?_
            refine evx_F E196 D196_59 rfl rfl ?_
            refine evx_pfi (k := 0) E196 D196_63 F196_182 H53 rfl R33 (by decide) rfl ?_
            intro h45 R46
            refine evx_F E196 D196_66 rfl rfl ?_
            refine evx_gfi (k := 0) E196 D196_67 F196_182 H53 rfl R46 ?_
            show evx _ _ _ _ _ _ (.inl (iz 2) :: _) _ _ _
            refine evx_F E196 D196_70 rfl rfl ?_
            refine evx_F E196 D196_73 rfl rfl ?_
            cases hs
            exact evx_ret E196 D196_74 rfl (fun d => rfl) rfl (show rg _ from (by decide)) R46
set_option maxRecDepth 20000 in
theorem E200 : pgMm 200 = some (⟨"DictionaryHouseModel", "number", "(I)I"⟩, prog_14_method_18_code, 2, (some .int), []) := rfl
theorem D200_0 : pgDecT 200 0 = some (.aload_n 0, 1) := by decide +kernel
theorem D200_1 : pgDecT 200 1 = some (.aload_n 0, 1) := by decide +kernel
theorem D200_2 : pgDecT 200 2 = some (.getfield 209, 3) := by decide +kernel
theorem F200_209 : pgFf 200 209 = some (12, 12, 0) := by decide +kernel
theorem D200_5 : pgDecT 200 5 = some (.sipush 200, 3) := by decide +kernel
theorem D200_8 : pgDecT 200 8 = some (.if_icmp .ne 7, 3) := by decide +kernel
theorem D200_15 : pgDecT 200 15 = some (.iconst 0, 1) := by decide +kernel
theorem D200_16 : pgDecT 200 16 = some (.putfield 182, 3) := by decide +kernel
theorem F200_182 : pgFf 200 182 = some (12, 0, 0) := by decide +kernel
theorem D200_19 : pgDecT 200 19 = some (.aload_n 0, 1) := by decide +kernel
theorem D200_20 : pgDecT 200 20 = some (.getfield 182, 3) := by decide +kernel
theorem D200_23 : pgDecT 200 23 = some (.ifCond .ne 14, 3) := by decide +kernel
theorem D200_26 : pgDecT 200 26 = some (.aload_n 0, 1) := by decide +kernel
theorem D200_27 : pgDecT 200 27 = some (.iconst 0, 1) := by decide +kernel
theorem D200_28 : pgDecT 200 28 = some (.iload_n 1, 1) := by decide +kernel
theorem D200_29 : pgDecT 200 29 = some (.iconst 0, 1) := by decide +kernel
theorem D200_30 : pgDecT 200 30 = some (.iconst 1, 1) := by decide +kernel
theorem D200_31 : pgDecT 200 31 = some (.invokevirtual 212, 3) := by decide +kernel
theorem I200_212 : pgIi 200 212 = some (201, 4, 12) := by decide +kernel
theorem D200_34 : pgDecT 200 34 = some (.goto 4, 3) := by decide +kernel
theorem D200_38 : pgDecT 200 38 = some (.ireturn, 1) := by decide +kernel
theorem D200_11 : pgDecT 200 11 = some (.iconst 1, 1) := by decide +kernel
theorem D200_12 : pgDecT 200 12 = some (.goto 4, 3) := by decide +kernel
theorem D200_37 : pgDecT 200 37 = some (.iconst 0, 1) := by decide +kernel
/-! 200: DictionaryHouseModel.number (I)I -/
def f200 (M : Mm) (x1 : Int) : Option (Int × Mm) := if ¬ (M 53 12) = 200 then (f201 (up M 53 0 0) 0 x1 0 1).bind (fun zq5 => some (zq5.1, zq5.2)) else (some (0, (up M 53 0 1)))
theorem c200 {L : Nat} {xs : Nat → Int32} {h : mvH} {M : Mm} {x1 : Int} {v : Int} {M' : Mm} (R : rp h M) (rx1 : rg x1) (hs : f200 M x1 = some (v, M')) : evx L xs 2 200 0 [(0, .inr (.inr (.inl (some 53)))), (1, .inl (iz x1))] [] h (.inl (some (.inl v)), 0) M' := by
  unfold f200 at hs
  refine evx_F E200 D200_0 rfl rfl ?_
  refine evx_F E200 D200_1 rfl rfl ?_
  refine evx_gfi (k := 12) E200 D200_2 F200_209 H53 rfl R ?_
  refine evx_k (k := 200) E200 D200_5 rfl (by decide) ?_
  by_cases cb1 : ¬ (M 53 12) = 200
  · rw [if_pos cb1] at hs
    refine evx_F E200 D200_8 rfl (ifT (c2_ne_T (R.1 53 12) (by decide) cb1)) ?_
    refine evx_F E200 D200_15 rfl rfl ?_
    refine evx_pfi (k := 0) E200 D200_16 F200_182 H53 rfl R (by decide) rfl ?_
    intro h2 R3
    refine evx_F E200 D200_19 rfl rfl ?_
    refine evx_gfi (k := 0) E200 D200_20 F200_182 H53 rfl R3 ?_
    show evx _ _ _ _ _ _ (.inl (iz 0) :: _) _ _ _
    refine evx_F E200 D200_23 rfl rfl ?_
    refine evx_F E200 D200_26 rfl rfl ?_
    refine evx_F E200 D200_27 rfl rfl ?_
    refine evx_F E200 D200_28 rfl rfl ?_
    refine evx_F E200 D200_29 rfl rfl ?_
    refine evx_F E200 D200_30 rfl rfl ?_
    obtain ⟨⟨q5, M9⟩, e4, hs⟩ := Option.bind_eq_some_iff.mp hs
    dsimp only at hs
    refine evx_cv (D := 1) E200 D200_31 I200_212 rfl rfl H53 ⟨Nat.le_of_ble_eq_true rfl, Nat.le_of_ble_eq_true rfl⟩ ⟨rfl, Nat.le_of_ble_eq_true rfl⟩ rfl R3 (evx_up (Nat.le_of_ble_eq_true rfl) (c201 R3 (by decide) rx1 (by decide) (by decide) e4)) ?_
    intro h6 R7 w8
    have w8 : rg q5 := w8
    show evx _ _ _ _ _ _ (.inl (iz q5) :: _) _ _ _
    refine evx_F E200 D200_34 rfl rfl ?_
    cases hs
    exact evx_ret E200 D200_38 rfl (fun d => rfl) rfl (show rg _ from w8) R7
  · rw [if_neg cb1] at hs
    refine evx_F E200 D200_8 rfl (ifF (c2_ne_F (R.1 53 12) (by decide) (by omega))) ?_
    refine evx_F E200 D200_11 rfl rfl ?_
    refine evx_F E200 D200_12 rfl rfl ?_
    refine evx_pfi (k := 0) E200 D200_16 F200_182 H53 rfl R (by decide) rfl ?_
    intro h10 R11
    refine evx_F E200 D200_19 rfl rfl ?_
    refine evx_gfi (k := 0) E200 D200_20 F200_182 H53 rfl R11 ?_
    show evx _ _ _ _ _ _ (.inl (iz 1) :: _) _ _ _
    refine evx_F E200 D200_23 rfl rfl ?_
    refine evx_F E200 D200_37 rfl rfl ?_
    cases hs
    exact evx_ret E200 D200_38 rfl (fun d => rfl) rfl (show rg _ from (by decide)) R11
set_option maxRecDepth 20000 in
theorem E202 : pgMm 202 = some (⟨"DictionaryHouseModel", "primitive", "(I)I"⟩, prog_14_method_19_code, 2, (some .int), []) := rfl
theorem D202_0 : pgDecT 202 0 = some (.aload_n 0, 1) := by decide +kernel
theorem D202_1 : pgDecT 202 1 = some (.iload_n 1, 1) := by decide +kernel
theorem D202_2 : pgDecT 202 2 = some (.ifCond .lt 13, 3) := by decide +kernel
theorem D202_15 : pgDecT 202 15 = some (.iconst 0, 1) := by decide +kernel
theorem D202_16 : pgDecT 202 16 = some (.iconst 1, 1) := by decide +kernel
theorem D202_17 : pgDecT 202 17 = some (.iload_n 1, 1) := by decide +kernel
theorem D202_18 : pgDecT 202 18 = some (.iconst 0, 1) := by decide +kernel
theorem D202_19 : pgDecT 202 19 = some (.iconst 1, 1) := by decide +kernel
theorem D202_20 : pgDecT 202 20 = some (.invokevirtual 216, 3) := by decide +kernel
theorem I202_216 : pgIi 202 216 = some (203, 5, 12) := by decide +kernel
theorem D202_23 : pgDecT 202 23 = some (.ireturn, 1) := by decide +kernel
theorem D202_5 : pgDecT 202 5 = some (.iload_n 1, 1) := by decide +kernel
theorem D202_6 : pgDecT 202 6 = some (.bipush 8, 2) := by decide +kernel
theorem D202_8 : pgDecT 202 8 = some (.if_icmp .ge 7, 3) := by decide +kernel
theorem D202_11 : pgDecT 202 11 = some (.iconst 1, 1) := by decide +kernel
theorem D202_12 : pgDecT 202 12 = some (.goto 4, 3) := by decide +kernel
/-! 202: DictionaryHouseModel.primitive (I)I -/
def f202 (M : Mm) (x1 : Int) : Option (Int × Mm) := if x1 < 0 then (f203 M 0 1 x1 0 1).bind (fun zq3 => some (zq3.1, zq3.2)) else (if 8 ≤ x1 then (f203 M 0 1 x1 0 1).bind (fun zq10 => some (zq10.1, zq10.2)) else (f203 M 1 1 x1 0 1).bind (fun zq16 => some (zq16.1, zq16.2)))
theorem c202 {L : Nat} {xs : Nat → Int32} {h : mvH} {M : Mm} {x1 : Int} {v : Int} {M' : Mm} (R : rp h M) (rx1 : rg x1) (hs : f202 M x1 = some (v, M')) : evx L xs 3 202 0 [(0, .inr (.inr (.inl (some 53)))), (1, .inl (iz x1))] [] h (.inl (some (.inl v)), 0) M' := by
  unfold f202 at hs
  refine evx_F E202 D202_0 rfl rfl ?_
  refine evx_F E202 D202_1 rfl rfl ?_
  by_cases cb1 : x1 < 0
  · rw [if_pos cb1] at hs
    refine evx_F E202 D202_2 rfl (ifT (c1_lt_T rx1 cb1)) ?_
    refine evx_F E202 D202_15 rfl rfl ?_
    refine evx_F E202 D202_16 rfl rfl ?_
    refine evx_F E202 D202_17 rfl rfl ?_
    refine evx_F E202 D202_18 rfl rfl ?_
    refine evx_F E202 D202_19 rfl rfl ?_
    obtain ⟨⟨q3, M7⟩, e2, hs⟩ := Option.bind_eq_some_iff.mp hs
    dsimp only at hs
    refine evx_cv (D := 2) E202 D202_20 I202_216 rfl rfl H53 ⟨Nat.le_of_ble_eq_true rfl, Nat.le_of_ble_eq_true rfl⟩ ⟨rfl, Nat.le_of_ble_eq_true rfl⟩ rfl R (evx_up (Nat.le_of_ble_eq_true rfl) (c203 R (by decide) (by decide) rx1 (by decide) (by decide) e2)) ?_
    intro h4 R5 w6
    have w6 : rg q3 := w6
    show evx _ _ _ _ _ _ (.inl (iz q3) :: _) _ _ _
    cases hs
    exact evx_ret E202 D202_23 rfl (fun d => rfl) rfl (show rg _ from w6) R5
  · rw [if_neg cb1] at hs
    refine evx_F E202 D202_2 rfl (ifF (c1_lt_F rx1 (by omega))) ?_
    refine evx_F E202 D202_5 rfl rfl ?_
    refine evx_k (k := 8) E202 D202_6 rfl (by decide) ?_
    by_cases cb8 : 8 ≤ x1
    · rw [if_pos cb8] at hs
      refine evx_F E202 D202_8 rfl (ifT (c2_ge_T rx1 (by decide) cb8)) ?_
      refine evx_F E202 D202_15 rfl rfl ?_
      refine evx_F E202 D202_16 rfl rfl ?_
      refine evx_F E202 D202_17 rfl rfl ?_
      refine evx_F E202 D202_18 rfl rfl ?_
      refine evx_F E202 D202_19 rfl rfl ?_
      obtain ⟨⟨q10, M14⟩, e9, hs⟩ := Option.bind_eq_some_iff.mp hs
      dsimp only at hs
      refine evx_cv (D := 2) E202 D202_20 I202_216 rfl rfl H53 ⟨Nat.le_of_ble_eq_true rfl, Nat.le_of_ble_eq_true rfl⟩ ⟨rfl, Nat.le_of_ble_eq_true rfl⟩ rfl R (evx_up (Nat.le_of_ble_eq_true rfl) (c203 R (by decide) (by decide) rx1 (by decide) (by decide) e9)) ?_
      intro h11 R12 w13
      have w13 : rg q10 := w13
      show evx _ _ _ _ _ _ (.inl (iz q10) :: _) _ _ _
      cases hs
      exact evx_ret E202 D202_23 rfl (fun d => rfl) rfl (show rg _ from w13) R12
    · rw [if_neg cb8] at hs
      refine evx_F E202 D202_8 rfl (ifF (c2_ge_F rx1 (by decide) (by omega))) ?_
      refine evx_F E202 D202_11 rfl rfl ?_
      refine evx_F E202 D202_12 rfl rfl ?_
      refine evx_F E202 D202_16 rfl rfl ?_
      refine evx_F E202 D202_17 rfl rfl ?_
      refine evx_F E202 D202_18 rfl rfl ?_
      refine evx_F E202 D202_19 rfl rfl ?_
      obtain ⟨⟨q16, M20⟩, e15, hs⟩ := Option.bind_eq_some_iff.mp hs
      dsimp only at hs
      refine evx_cv (D := 2) E202 D202_20 I202_216 rfl rfl H53 ⟨Nat.le_of_ble_eq_true rfl, Nat.le_of_ble_eq_true rfl⟩ ⟨rfl, Nat.le_of_ble_eq_true rfl⟩ rfl R (evx_up (Nat.le_of_ble_eq_true rfl) (c203 R (by decide) (by decide) rx1 (by decide) (by decide) e15)) ?_
      intro h17 R18 w19
      have w19 : rg q16 := w19
      show evx _ _ _ _ _ _ (.inl (iz q16) :: _) _ _ _
      cases hs
      exact evx_ret E202 D202_23 rfl (fun d => rfl) rfl (show rg _ from w19) R18
set_option maxRecDepth 20000 in
theorem E205 : pgMm 205 = some (⟨"DictionaryHouseModel", "lambda", "(I)I"⟩, prog_14_method_21_code, 3, (some .int), []) := rfl
theorem D205_0 : pgDecT 205 0 = some (.aload_n 0, 1) := by decide +kernel
theorem D205_1 : pgDecT 205 1 = some (.iload_n 1, 1) := by decide +kernel
theorem D205_2 : pgDecT 205 2 = some (.invokevirtual 220, 3) := by decide +kernel
theorem I205_220 : pgIi 205 220 = some (206, 1, 12) := by decide +kernel
theorem D205_5 : pgDecT 205 5 = some (.istore_n 2, 1) := by decide +kernel
theorem D205_6 : pgDecT 205 6 = some (.aload_n 0, 1) := by decide +kernel
theorem D205_7 : pgDecT 205 7 = some (.iload_n 2, 1) := by decide +kernel
theorem D205_8 : pgDecT 205 8 = some (.iconst 3, 1) := by decide +kernel
theorem D205_9 : pgDecT 205 9 = some (.iload_n 1, 1) := by decide +kernel
theorem D205_10 : pgDecT 205 10 = some (.iconst 0, 1) := by decide +kernel
theorem D205_11 : pgDecT 205 11 = some (.iload_n 2, 1) := by decide +kernel
theorem D205_12 : pgDecT 205 12 = some (.ifCond .eq 14, 3) := by decide +kernel
theorem D205_26 : pgDecT 205 26 = some (.iconst 1, 1) := by decide +kernel
theorem D205_27 : pgDecT 205 27 = some (.invokevirtual 216, 3) := by decide +kernel
theorem I205_216 : pgIi 205 216 = some (203, 5, 12) := by decide +kernel
theorem D205_30 : pgDecT 205 30 = some (.ireturn, 1) := by decide +kernel
theorem D205_15 : pgDecT 205 15 = some (.iconst 1, 1) := by decide +kernel
theorem D205_16 : pgDecT 205 16 = some (.aload_n 0, 1) := by decide +kernel
theorem D205_17 : pgDecT 205 17 = some (.getfield 47, 3) := by decide +kernel
theorem F205_47 : pgFf 205 47 = some (12, 16, 3) := by decide +kernel
theorem D205_20 : pgDecT 205 20 = some (.iload_n 1, 1) := by decide +kernel
theorem D205_21 : pgDecT 205 21 = some (.iaload, 1) := by decide +kernel
theorem D205_22 : pgDecT 205 22 = some (.iadd, 1) := by decide +kernel
theorem D205_23 : pgDecT 205 23 = some (.goto 4, 3) := by decide +kernel
/-! 205: DictionaryHouseModel.lambda (I)I -/
def f205 (M : Mm) (x1 : Int) : Option (Int × Mm) := (f206 M x1).bind (fun q2 => if q2 = 0 then (f203 M q2 3 x1 0 1).bind (fun zq8 => some (zq8.1, zq8.2)) else (if 0 ≤ x1 ∧ x1 < 200 then (if rg ((1 : Int) + (M 66 (Int.toNat x1))) then (f203 M q2 3 x1 0 ((1 : Int) + (M 66 (Int.toNat x1)))).bind (fun zq16 => some (zq16.1, zq16.2)) else none) else none))
theorem c205 {L : Nat} {xs : Nat → Int32} {h : mvH} {M : Mm} {x1 : Int} {v : Int} {M' : Mm} (R : rp h M) (rx1 : rg x1) (hs : f205 M x1 = some (v, M')) : evx L xs 3 205 0 [(0, .inr (.inr (.inl (some 53)))), (1, .inl (iz x1))] [] h (.inl (some (.inl v)), 0) M' := by
  unfold f205 at hs
  refine evx_F E205 D205_0 rfl rfl ?_
  refine evx_F E205 D205_1 rfl rfl ?_
  obtain ⟨q2, e1, hs⟩ := Option.bind_eq_some_iff.mp hs
  refine evx_cv (D := 2) E205 D205_2 I205_220 rfl rfl H53 ⟨Nat.le_of_ble_eq_true rfl, Nat.le_of_ble_eq_true rfl⟩ ⟨rfl, Nat.le_of_ble_eq_true rfl⟩ rfl R (evx_up (Nat.le_of_ble_eq_true rfl) (c206 R rx1 e1)) ?_
  intro h3 R4 w5
  have w5 : rg q2 := w5
  show evx _ _ _ _ _ _ (.inl (iz q2) :: _) _ _ _
  refine evx_F E205 D205_5 rfl rfl ?_
  refine evx_F E205 D205_6 rfl rfl ?_
  refine evx_F E205 D205_7 rfl rfl ?_
  refine evx_F E205 D205_8 rfl rfl ?_
  refine evx_F E205 D205_9 rfl rfl ?_
  refine evx_F E205 D205_10 rfl rfl ?_
  refine evx_F E205 D205_11 rfl rfl ?_
  by_cases cb6 : q2 = 0
  · rw [if_pos cb6] at hs
    refine evx_F E205 D205_12 rfl (ifT (c1_eq_T w5 cb6)) ?_
    refine evx_F E205 D205_26 rfl rfl ?_
    obtain ⟨⟨q8, M12⟩, e7, hs⟩ := Option.bind_eq_some_iff.mp hs
    dsimp only at hs
    refine evx_cv (D := 2) E205 D205_27 I205_216 rfl rfl H53 ⟨Nat.le_of_ble_eq_true rfl, Nat.le_of_ble_eq_true rfl⟩ ⟨rfl, Nat.le_of_ble_eq_true rfl⟩ rfl R4 (evx_up (Nat.le_of_ble_eq_true rfl) (c203 R4 w5 (by decide) rx1 (by decide) (by decide) e7)) ?_
    intro h9 R10 w11
    have w11 : rg q8 := w11
    show evx _ _ _ _ _ _ (.inl (iz q8) :: _) _ _ _
    cases hs
    exact evx_ret E205 D205_30 rfl (fun d => rfl) rfl (show rg _ from w11) R10
  · rw [if_neg cb6] at hs
    refine evx_F E205 D205_12 rfl (ifF (c1_eq_F w5 (by omega))) ?_
    refine evx_F E205 D205_15 rfl rfl ?_
    refine evx_F E205 D205_16 rfl rfl ?_
    refine evx_gfr E205 D205_17 F205_47 H53 rfl R4 ?_
    refine evx_F E205 D205_20 rfl rfl ?_
    obtain ⟨k13, hs⟩ := ck hs
    refine evx_ial E205 D205_21 H66 (by decide) R4 k13 ?_
    refine evx_add E205 D205_22 ?_
    refine evx_F E205 D205_23 rfl rfl ?_
    obtain ⟨k14, hs⟩ := ck hs
    obtain ⟨⟨q16, M20⟩, e15, hs⟩ := Option.bind_eq_some_iff.mp hs
    dsimp only at hs
    refine evx_cv (D := 2) E205 D205_27 I205_216 rfl rfl H53 ⟨Nat.le_of_ble_eq_true rfl, Nat.le_of_ble_eq_true rfl⟩ ⟨rfl, Nat.le_of_ble_eq_true rfl⟩ rfl R4 (evx_up (Nat.le_of_ble_eq_true rfl) (c203 R4 w5 (by decide) rx1 (by decide) k14 e15)) ?_
    intro h17 R18 w19
    have w19 : rg q16 := w19
    show evx _ _ _ _ _ _ (.inl (iz q16) :: _) _ _ _
    cases hs
    exact evx_ret E205 D205_30 rfl (fun d => rfl) rfl (show rg _ from w19) R18
set_option maxRecDepth 20000 in
theorem E213 : pgMm 213 = some (⟨"DictionaryHouseModel", "variable", "()I"⟩, prog_14_method_26_code, 1, (some .int), []) := rfl
theorem D213_0 : pgDecT 213 0 = some (.aload_n 0, 1) := by decide +kernel
theorem D213_1 : pgDecT 213 1 = some (.iconst 2, 1) := by decide +kernel
theorem D213_2 : pgDecT 213 2 = some (.iconst 0, 1) := by decide +kernel
theorem D213_3 : pgDecT 213 3 = some (.iconst 0, 1) := by decide +kernel
theorem D213_4 : pgDecT 213 4 = some (.invokevirtual 229, 3) := by decide +kernel
theorem I213_229 : pgIi 213 229 = some (214, 3, 12) := by decide +kernel
theorem D213_7 : pgDecT 213 7 = some (.ireturn, 1) := by decide +kernel
/-! 213: DictionaryHouseModel.variable ()I -/
def f213 (M : Mm) : Option (Int × Mm) := (f214 M 2 0 0).bind (fun zq2 => some (zq2.1, zq2.2))
theorem c213 {L : Nat} {xs : Nat → Int32} {h : mvH} {M : Mm} {v : Int} {M' : Mm} (R : rp h M)  (hs : f213 M  = some (v, M')) : evx L xs 2 213 0 [(0, .inr (.inr (.inl (some 53))))] [] h (.inl (some (.inl v)), 0) M' := by
  unfold f213 at hs
  refine evx_F E213 D213_0 rfl rfl ?_
  refine evx_F E213 D213_1 rfl rfl ?_
  refine evx_F E213 D213_2 rfl rfl ?_
  refine evx_F E213 D213_3 rfl rfl ?_
  obtain ⟨⟨q2, M6⟩, e1, hs⟩ := Option.bind_eq_some_iff.mp hs
  dsimp only at hs
  refine evx_cv (D := 1) E213 D213_4 I213_229 rfl rfl H53 ⟨Nat.le_of_ble_eq_true rfl, Nat.le_of_ble_eq_true rfl⟩ ⟨rfl, Nat.le_of_ble_eq_true rfl⟩ rfl R (evx_up (Nat.le_of_ble_eq_true rfl) (c214 R (by decide) (by decide) (by decide) e1)) ?_
  intro h3 R4 w5
  have w5 : rg q2 := w5
  show evx _ _ _ _ _ _ (.inl (iz q2) :: _) _ _ _
  cases hs
  exact evx_ret E213 D213_7 rfl (fun d => rfl) rfl (show rg _ from w5) R4
set_option maxRecDepth 20000 in
theorem E216 : pgMm 216 = some (⟨"DictionaryHouseModel", "unify", "(II)Z"⟩, prog_14_method_31_code, 6, (some .boolean), []) := rfl
theorem D216_0 : pgDecT 216 0 = some (.iconst 0, 1) := by decide +kernel
theorem D216_1 : pgDecT 216 1 = some (.istore_n 3, 1) := by decide +kernel
theorem D216_2 : pgDecT 216 2 = some (.aload_n 0, 1) := by decide +kernel
theorem D216_3 : pgDecT 216 3 = some (.getfield 97, 3) := by decide +kernel
theorem F216_97 : pgFf 216 97 = some (12, 35, 3) := by decide +kernel
theorem D216_6 : pgDecT 216 6 = some (.iload_n 3, 1) := by decide +kernel
theorem D216_7 : pgDecT 216 7 = some (.iload_n 1, 1) := by decide +kernel
theorem D216_8 : pgDecT 216 8 = some (.iastore, 1) := by decide +kernel
theorem D216_9 : pgDecT 216 9 = some (.aload_n 0, 1) := by decide +kernel
theorem D216_10 : pgDecT 216 10 = some (.getfield 97, 3) := by decide +kernel
theorem D216_13 : pgDecT 216 13 = some (.iload_n 3, 1) := by decide +kernel
theorem D216_14 : pgDecT 216 14 = some (.iconst 1, 1) := by decide +kernel
theorem D216_15 : pgDecT 216 15 = some (.iadd, 1) := by decide +kernel
theorem D216_16 : pgDecT 216 16 = some (.iload_n 2, 1) := by decide +kernel
theorem D216_17 : pgDecT 216 17 = some (.iastore, 1) := by decide +kernel
theorem D216_18 : pgDecT 216 18 = some (.iinc 3 2, 3) := by decide +kernel
theorem D216_21 : pgDecT 216 21 = some (.iload_n 3, 1) := by decide +kernel
theorem D216_22 : pgDecT 216 22 = some (.ifCond .le 205, 3) := by decide +kernel
theorem D216_227 : pgDecT 216 227 = some (.iconst 1, 1) := by decide +kernel
theorem D216_228 : pgDecT 216 228 = some (.ireturn, 1) := by decide +kernel
theorem D216_25 : pgDecT 216 25 = some (.iinc 3 (-2), 3) := by decide +kernel
theorem D216_28 : pgDecT 216 28 = some (.aload_n 0, 1) := by decide +kernel
theorem D216_29 : pgDecT 216 29 = some (.aload_n 0, 1) := by decide +kernel
theorem D216_30 : pgDecT 216 30 = some (.getfield 97, 3) := by decide +kernel
theorem D216_33 : pgDecT 216 33 = some (.iload_n 3, 1) := by decide +kernel
theorem D216_34 : pgDecT 216 34 = some (.iaload, 1) := by decide +kernel
theorem D216_35 : pgDecT 216 35 = some (.invokevirtual 240, 3) := by decide +kernel
theorem I216_240 : pgIi 216 240 = some (217, 1, 12) := by decide +kernel
theorem D216_38 : pgDecT 216 38 = some (.istore 4, 2) := by decide +kernel
theorem D216_40 : pgDecT 216 40 = some (.aload_n 0, 1) := by decide +kernel
theorem D216_41 : pgDecT 216 41 = some (.aload_n 0, 1) := by decide +kernel
theorem D216_42 : pgDecT 216 42 = some (.getfield 97, 3) := by decide +kernel
theorem D216_45 : pgDecT 216 45 = some (.iload_n 3, 1) := by decide +kernel
theorem D216_46 : pgDecT 216 46 = some (.iconst 1, 1) := by decide +kernel
theorem D216_47 : pgDecT 216 47 = some (.iadd, 1) := by decide +kernel
theorem D216_48 : pgDecT 216 48 = some (.iaload, 1) := by decide +kernel
theorem D216_49 : pgDecT 216 49 = some (.invokevirtual 240, 3) := by decide +kernel
theorem D216_52 : pgDecT 216 52 = some (.istore 5, 2) := by decide +kernel
theorem D216_54 : pgDecT 216 54 = some (.iload 4, 2) := by decide +kernel
theorem D216_56 : pgDecT 216 56 = some (.iload 5, 2) := by decide +kernel
theorem D216_58 : pgDecT 216 58 = some (.if_icmp .ne 6, 3) := by decide +kernel
theorem D216_64 : pgDecT 216 64 = some (.aload_n 0, 1) := by decide +kernel
theorem D216_65 : pgDecT 216 65 = some (.getfield 79, 3) := by decide +kernel
theorem F216_79 : pgFf 216 79 = some (12, 29, 3) := by decide +kernel
theorem D216_68 : pgDecT 216 68 = some (.iload 4, 2) := by decide +kernel
theorem D216_70 : pgDecT 216 70 = some (.iaload, 1) := by decide +kernel
theorem D216_71 : pgDecT 216 71 = some (.iconst 2, 1) := by decide +kernel
theorem D216_72 : pgDecT 216 72 = some (.if_icmp .ne 15, 3) := by decide +kernel
theorem D216_87 : pgDecT 216 87 = some (.aload_n 0, 1) := by decide +kernel
theorem D216_88 : pgDecT 216 88 = some (.getfield 88, 3) := by decide +kernel
theorem F216_88 : pgFf 216 88 = some (12, 32, 3) := by decide +kernel
theorem D216_91 : pgDecT 216 91 = some (.iload 5, 2) := by decide +kernel
theorem D216_93 : pgDecT 216 93 = some (.iload 4, 2) := by decide +kernel
theorem D216_95 : pgDecT 216 95 = some (.iastore, 1) := by decide +kernel
theorem D216_96 : pgDecT 216 96 = some (.aload_n 0, 1) := by decide +kernel
theorem D216_97 : pgDecT 216 97 = some (.getfield 79, 3) := by decide +kernel
theorem D216_100 : pgDecT 216 100 = some (.iload 5, 2) := by decide +kernel
theorem D216_102 : pgDecT 216 102 = some (.iaload, 1) := by decide +kernel
theorem D216_103 : pgDecT 216 103 = some (.iconst 2, 1) := by decide +kernel
theorem D216_104 : pgDecT 216 104 = some (.if_icmp .ne 6, 3) := by decide +kernel
theorem D216_110 : pgDecT 216 110 = some (.aload_n 0, 1) := by decide +kernel
theorem D216_111 : pgDecT 216 111 = some (.getfield 79, 3) := by decide +kernel
theorem D216_114 : pgDecT 216 114 = some (.iload 4, 2) := by decide +kernel
theorem D216_116 : pgDecT 216 116 = some (.iaload, 1) := by decide +kernel
theorem D216_117 : pgDecT 216 117 = some (.aload_n 0, 1) := by decide +kernel
theorem D216_118 : pgDecT 216 118 = some (.getfield 79, 3) := by decide +kernel
theorem D216_121 : pgDecT 216 121 = some (.iload 5, 2) := by decide +kernel
theorem D216_123 : pgDecT 216 123 = some (.iaload, 1) := by decide +kernel
theorem D216_124 : pgDecT 216 124 = some (.if_icmp .eq 5, 3) := by decide +kernel
theorem D216_129 : pgDecT 216 129 = some (.aload_n 0, 1) := by decide +kernel
theorem D216_130 : pgDecT 216 130 = some (.getfield 79, 3) := by decide +kernel
theorem D216_133 : pgDecT 216 133 = some (.iload 4, 2) := by decide +kernel
theorem D216_135 : pgDecT 216 135 = some (.iaload, 1) := by decide +kernel
theorem D216_136 : pgDecT 216 136 = some (.iconst 3, 1) := by decide +kernel
theorem D216_137 : pgDecT 216 137 = some (.if_icmp .eq 14, 3) := by decide +kernel
theorem D216_151 : pgDecT 216 151 = some (.aload_n 0, 1) := by decide +kernel
theorem D216_152 : pgDecT 216 152 = some (.getfield 97, 3) := by decide +kernel
theorem D216_155 : pgDecT 216 155 = some (.iload_n 3, 1) := by decide +kernel
theorem D216_156 : pgDecT 216 156 = some (.aload_n 0, 1) := by decide +kernel
theorem D216_157 : pgDecT 216 157 = some (.getfield 82, 3) := by decide +kernel
theorem F216_82 : pgFf 216 82 = some (12, 30, 3) := by decide +kernel
theorem D216_160 : pgDecT 216 160 = some (.iload 4, 2) := by decide +kernel
theorem D216_162 : pgDecT 216 162 = some (.iaload, 1) := by decide +kernel
theorem D216_163 : pgDecT 216 163 = some (.iastore, 1) := by decide +kernel
theorem D216_164 : pgDecT 216 164 = some (.aload_n 0, 1) := by decide +kernel
theorem D216_165 : pgDecT 216 165 = some (.getfield 97, 3) := by decide +kernel
theorem D216_168 : pgDecT 216 168 = some (.iload_n 3, 1) := by decide +kernel
theorem D216_169 : pgDecT 216 169 = some (.iconst 1, 1) := by decide +kernel
theorem D216_170 : pgDecT 216 170 = some (.iadd, 1) := by decide +kernel
theorem D216_171 : pgDecT 216 171 = some (.aload_n 0, 1) := by decide +kernel
theorem D216_172 : pgDecT 216 172 = some (.getfield 82, 3) := by decide +kernel
theorem D216_175 : pgDecT 216 175 = some (.iload 5, 2) := by decide +kernel
theorem D216_177 : pgDecT 216 177 = some (.iaload, 1) := by decide +kernel
theorem D216_178 : pgDecT 216 178 = some (.iastore, 1) := by decide +kernel
theorem D216_179 : pgDecT 216 179 = some (.iinc 3 2, 3) := by decide +kernel
theorem D216_182 : pgDecT 216 182 = some (.aload_n 0, 1) := by decide +kernel
theorem D216_183 : pgDecT 216 183 = some (.getfield 79, 3) := by decide +kernel
theorem D216_186 : pgDecT 216 186 = some (.iload 4, 2) := by decide +kernel
theorem D216_188 : pgDecT 216 188 = some (.iaload, 1) := by decide +kernel
theorem D216_189 : pgDecT 216 189 = some (.iconst 4, 1) := by decide +kernel
theorem D216_190 : pgDecT 216 190 = some (.if_icmp .ne 34, 3) := by decide +kernel
theorem D216_224 : pgDecT 216 224 = some (.goto (-203), 3) := by decide +kernel
theorem D216_193 : pgDecT 216 193 = some (.aload_n 0, 1) := by decide +kernel
theorem D216_194 : pgDecT 216 194 = some (.getfield 97, 3) := by decide +kernel
theorem D216_197 : pgDecT 216 197 = some (.iload_n 3, 1) := by decide +kernel
theorem D216_198 : pgDecT 216 198 = some (.aload_n 0, 1) := by decide +kernel
theorem D216_199 : pgDecT 216 199 = some (.getfield 85, 3) := by decide +kernel
theorem F216_85 : pgFf 216 85 = some (12, 31, 3) := by decide +kernel
theorem D216_202 : pgDecT 216 202 = some (.iload 4, 2) := by decide +kernel
theorem D216_204 : pgDecT 216 204 = some (.iaload, 1) := by decide +kernel
theorem D216_205 : pgDecT 216 205 = some (.iastore, 1) := by decide +kernel
theorem D216_206 : pgDecT 216 206 = some (.aload_n 0, 1) := by decide +kernel
theorem D216_207 : pgDecT 216 207 = some (.getfield 97, 3) := by decide +kernel
theorem D216_210 : pgDecT 216 210 = some (.iload_n 3, 1) := by decide +kernel
theorem D216_211 : pgDecT 216 211 = some (.iconst 1, 1) := by decide +kernel
theorem D216_212 : pgDecT 216 212 = some (.iadd, 1) := by decide +kernel
theorem D216_213 : pgDecT 216 213 = some (.aload_n 0, 1) := by decide +kernel
theorem D216_214 : pgDecT 216 214 = some (.getfield 85, 3) := by decide +kernel
theorem D216_217 : pgDecT 216 217 = some (.iload 5, 2) := by decide +kernel
theorem D216_219 : pgDecT 216 219 = some (.iaload, 1) := by decide +kernel
theorem D216_220 : pgDecT 216 220 = some (.iastore, 1) := by decide +kernel
theorem D216_221 : pgDecT 216 221 = some (.iinc 3 2, 3) := by decide +kernel
theorem D216_140 : pgDecT 216 140 = some (.aload_n 0, 1) := by decide +kernel
theorem D216_141 : pgDecT 216 141 = some (.getfield 79, 3) := by decide +kernel
theorem D216_144 : pgDecT 216 144 = some (.iload 4, 2) := by decide +kernel
theorem D216_146 : pgDecT 216 146 = some (.iaload, 1) := by decide +kernel
theorem D216_147 : pgDecT 216 147 = some (.iconst 4, 1) := by decide +kernel
theorem D216_148 : pgDecT 216 148 = some (.if_icmp .ne 34, 3) := by decide +kernel
theorem D216_127 : pgDecT 216 127 = some (.iconst 0, 1) := by decide +kernel
theorem D216_128 : pgDecT 216 128 = some (.ireturn, 1) := by decide +kernel
theorem D216_107 : pgDecT 216 107 = some (.goto (-86), 3) := by decide +kernel
theorem D216_75 : pgDecT 216 75 = some (.aload_n 0, 1) := by decide +kernel
theorem D216_76 : pgDecT 216 76 = some (.getfield 88, 3) := by decide +kernel
theorem D216_79 : pgDecT 216 79 = some (.iload 4, 2) := by decide +kernel
theorem D216_81 : pgDecT 216 81 = some (.iload 5, 2) := by decide +kernel
theorem D216_83 : pgDecT 216 83 = some (.iastore, 1) := by decide +kernel
theorem D216_84 : pgDecT 216 84 = some (.goto (-63), 3) := by decide +kernel
theorem D216_61 : pgDecT 216 61 = some (.goto (-40), 3) := by decide +kernel
/-! 216: DictionaryHouseModel.unify (II)Z -/
def l216 : Nat → Nat → Mm → Int → Int → Int → Option (Int × Mm)
  | 0, _, _, _, _, _ => none
  | f + 1, 21, M, x1, x2, x3 => if x3 ≤ 0 then (some (1, M)) else (if 0 ≤ (x3 + (-2)) ∧ (x3 + (-2)) < 16000 then (f217 M (M 82 (Int.toNat (x3 + (-2))))).bind (fun q10 => if 0 ≤ ((x3 + (-2)) + 1) ∧ ((x3 + (-2)) + 1) < 16000 then (f217 M (M 82 (Int.toNat ((x3 + (-2)) + 1)))).bind (fun q16 => if ¬ q10 = q16 then (if 0 ≤ q10 ∧ q10 < 4000 then (if ¬ (M 76 (Int.toNat q10)) = 2 then (if 0 ≤ q16 ∧ q16 < 4000 then (if ¬ (M 76 (Int.toNat q16)) = 2 then (if (M 76 (Int.toNat q10)) = (M 76 (Int.toNat q16)) then (if (M 76 (Int.toNat q10)) = 3 then (if ¬ (M 76 (Int.toNat q10)) = 4 then (if rg ((x3 + (-2)) + 2) then (l216 f 21 (up (up (up M 79 (Int.toNat q16) q10) 82 (Int.toNat (x3 + (-2))) (M 77 (Int.toNat q10))) 82 (Int.toNat ((x3 + (-2)) + 1)) (M 77 (Int.toNat q16))) x1 x2 ((x3 + (-2)) + 2)) else none) else (if 0 ≤ ((x3 + (-2)) + 2) ∧ ((x3 + (-2)) + 2) < 16000 then (if 0 ≤ (((x3 + (-2)) + 2) + 1) ∧ (((x3 + (-2)) + 2) + 1) < 16000 then (if rg (((x3 + (-2)) + 2) + 2) then (l216 f 21 (up (up (up (up (up M 79 (Int.toNat q16) q10) 82 (Int.toNat (x3 + (-2))) (M 77 (Int.toNat q10))) 82 (Int.toNat ((x3 + (-2)) + 1)) (M 77 (Int.toNat q16))) 82 (Int.toNat ((x3 + (-2)) + 2)) (M 78 (Int.toNat q10))) 82 (Int.toNat (((x3 + (-2)) + 2) + 1)) (M 78 (Int.toNat q16))) x1 x2 (((x3 + (-2)) + 2) + 2)) else none) else none) else none)) else (if ¬ (M 76 (Int.toNat q10)) = 4 then (if ¬ (M 76 (Int.toNat q10)) = 4 then (if rg (x3 + (-2)) then (l216 f 21 (up M 79 (Int.toNat q16) q10) x1 x2 (x3 + (-2))) else none) else (if rg ((x3 + (-2)) + 2) then (l216 f 21 (up (up (up M 79 (Int.toNat q16) q10) 82 (Int.toNat (x3 + (-2))) (M 78 (Int.toNat q10))) 82 (Int.toNat ((x3 + (-2)) + 1)) (M 78 (Int.toNat q16))) x1 x2 ((x3 + (-2)) + 2)) else none)) else (if ¬ (M 76 (Int.toNat q10)) = 4 then (if rg ((x3 + (-2)) + 2) then (l216 f 21 (up (up (up M 79 (Int.toNat q16) q10) 82 (Int.toNat (x3 + (-2))) (M 77 (Int.toNat q10))) 82 (Int.toNat ((x3 + (-2)) + 1)) (M 77 (Int.toNat q16))) x1 x2 ((x3 + (-2)) + 2)) else none) else (if 0 ≤ ((x3 + (-2)) + 2) ∧ ((x3 + (-2)) + 2) < 16000 then (if 0 ≤ (((x3 + (-2)) + 2) + 1) ∧ (((x3 + (-2)) + 2) + 1) < 16000 then (if rg (((x3 + (-2)) + 2) + 2) then (l216 f 21 (up (up (up (up (up M 79 (Int.toNat q16) q10) 82 (Int.toNat (x3 + (-2))) (M 77 (Int.toNat q10))) 82 (Int.toNat ((x3 + (-2)) + 1)) (M 77 (Int.toNat q16))) 82 (Int.toNat ((x3 + (-2)) + 2)) (M 78 (Int.toNat q10))) 82 (Int.toNat (((x3 + (-2)) + 2) + 1)) (M 78 (Int.toNat q16))) x1 x2 (((x3 + (-2)) + 2) + 2)) else none) else none) else none)))) else (some (0, (up M 79 (Int.toNat q16) q10)))) else (if rg (x3 + (-2)) then (l216 f 21 (up M 79 (Int.toNat q16) q10) x1 x2 (x3 + (-2))) else none)) else none) else (if rg (x3 + (-2)) then (l216 f 21 (up M 79 (Int.toNat q10) q16) x1 x2 (x3 + (-2))) else none)) else none) else (if rg (x3 + (-2)) then (l216 f 21 M x1 x2 (x3 + (-2))) else none)) else none) else none)
  | _, _, _, _, _, _ => none
theorem d216 {L : Nat} {xs : Nat → Int32} (f : Nat) : (∀ (M : Mm) (x1 x2 x3 : Int) (h : mvH) (v : Int) (M' : Mm), l216 f 21 M x1 x2 x3 = some (v, M') → rp h M → rg x1 → rg x2 → rg x3 → evx L xs 2 216 21 [(0, .inr (.inr (.inl (some 53)))), (1, .inl (iz x1)), (2, .inl (iz x2)), (3, .inl (iz x3))] [] h (.inl (some (.inl v)), 0) M') := by
  induction f with
  | zero => exact (fun M x1 x2 x3 h v M' hs _ _ _ _ => by cases hs)
  | succ f ih =>
    intro M x1 x2 x3 h v M' hs R rx1 rx2 rx3
    rw [l216] at hs
    refine evx_F E216 D216_21 rfl rfl ?_
    by_cases cb7 : x3 ≤ 0
    · rw [if_pos cb7] at hs
      refine evx_F E216 D216_22 rfl (ifT (c1_le_T rx3 cb7)) ?_
      refine evx_F E216 D216_227 rfl rfl ?_
      cases hs
      exact evx_ret E216 D216_228 rfl (fun d => rfl) rfl (show rg _ from (by decide)) R
    · rw [if_neg cb7] at hs
      refine evx_F E216 D216_22 rfl (ifF (c1_le_F rx3 (by omega))) ?_
      refine evx_inc E216 D216_25 (Nat.le_of_ble_eq_true rfl) rfl ?_
      refine evx_F E216 D216_28 rfl rfl ?_
      refine evx_F E216 D216_29 rfl rfl ?_
      refine evx_gfr E216 D216_30 F216_97 H53 rfl R ?_
      refine evx_F E216 D216_33 rfl rfl ?_
      obtain ⟨k8, hs⟩ := ck hs
      refine evx_ial E216 D216_34 H82 (by decide) R k8 ?_
      obtain ⟨q10, e9, hs⟩ := Option.bind_eq_some_iff.mp hs
      refine evx_cv (D := 1) E216 D216_35 I216_240 rfl rfl H53 ⟨Nat.le_of_ble_eq_true rfl, Nat.le_of_ble_eq_true rfl⟩ ⟨rfl, Nat.le_of_ble_eq_true rfl⟩ rfl R (evx_up (Nat.le_of_ble_eq_true rfl) (c217 R (R.1 82 (Int.toNat (x3 + (-2)))) e9)) ?_
      intro h11 R12 w13
      have w13 : rg q10 := w13
      show evx _ _ _ _ _ _ (.inl (iz q10) :: _) _ _ _
      refine evx_F E216 D216_38 rfl rfl ?_
      refine evx_F E216 D216_40 rfl rfl ?_
      refine evx_F E216 D216_41 rfl rfl ?_
      refine evx_gfr E216 D216_42 F216_97 H53 rfl R12 ?_
      refine evx_F E216 D216_45 rfl rfl ?_
      refine evx_F E216 D216_46 rfl rfl ?_
      refine evx_add E216 D216_47 ?_
      obtain ⟨k14, hs⟩ := ck hs
      refine evx_ial E216 D216_48 H82 (by decide) R12 k14 ?_
      obtain ⟨q16, e15, hs⟩ := Option.bind_eq_some_iff.mp hs
      refine evx_cv (D := 1) E216 D216_49 I216_240 rfl rfl H53 ⟨Nat.le_of_ble_eq_true rfl, Nat.le_of_ble_eq_true rfl⟩ ⟨rfl, Nat.le_of_ble_eq_true rfl⟩ rfl R12 (evx_up (Nat.le_of_ble_eq_true rfl) (c217 R12 (R12.1 82 (Int.toNat ((x3 + (-2)) + 1))) e15)) ?_
      intro h17 R18 w19
      have w19 : rg q16 := w19
      show evx _ _ _ _ _ _ (.inl (iz q16) :: _) _ _ _
      refine evx_F E216 D216_52 rfl rfl ?_
      refine evx_F E216 D216_54 rfl rfl ?_
      refine evx_F E216 D216_56 rfl rfl ?_
      by_cases cb20 : ¬ q10 = q16
      · rw [if_pos cb20] at hs
        refine evx_F E216 D216_58 rfl (ifT (c2_ne_T w13 w19 cb20)) ?_
        refine evx_F E216 D216_64 rfl rfl ?_
        refine evx_gfr E216 D216_65 F216_79 H53 rfl R18 ?_
        refine evx_F E216 D216_68 rfl rfl ?_
        obtain ⟨k21, hs⟩ := ck hs
        refine evx_ial E216 D216_70 H76 (by decide) R18 k21 ?_
        refine evx_F E216 D216_71 rfl rfl ?_
        by_cases cb22 : ¬ (M 76 (Int.toNat q10)) = 2
        · rw [if_pos cb22] at hs
          refine evx_F E216 D216_72 rfl (ifT (c2_ne_T (R18.1 76 (Int.toNat q10)) (by decide) cb22)) ?_
          refine evx_F E216 D216_87 rfl rfl ?_
          refine evx_gfr E216 D216_88 F216_88 H53 rfl R18 ?_
          refine evx_F E216 D216_91 rfl rfl ?_
          refine evx_F E216 D216_93 rfl rfl ?_
          obtain ⟨k23, hs⟩ := ck hs
          refine evx_ias E216 D216_95 H79 (by decide) R18 k23 w13 ?_
          intro h24 R25
          refine evx_F E216 D216_96 rfl rfl ?_
          refine evx_gfr E216 D216_97 F216_79 H53 rfl R25 ?_
          refine evx_F E216 D216_100 rfl rfl ?_
          refine evx_ial E216 D216_102 H76 (by decide) R25 k23 ?_
          show evx _ _ _ _ _ _ (.inl (iz (M 76 (Int.toNat q16))) :: _) _ _ _
          refine evx_F E216 D216_103 rfl rfl ?_
          by_cases cb26 : ¬ (M 76 (Int.toNat q16)) = 2
          · rw [if_pos cb26] at hs
            refine evx_F E216 D216_104 rfl (ifT (c2_ne_T (R25.1 76 (Int.toNat q16)) (by decide) cb26)) ?_
            refine evx_F E216 D216_110 rfl rfl ?_
            refine evx_gfr E216 D216_111 F216_79 H53 rfl R25 ?_
            refine evx_F E216 D216_114 rfl rfl ?_
            refine evx_ial E216 D216_116 H76 (by decide) R25 k21 ?_
            show evx _ _ _ _ _ _ (.inl (iz (M 76 (Int.toNat q10))) :: _) _ _ _
            refine evx_F E216 D216_117 rfl rfl ?_
            refine evx_gfr E216 D216_118 F216_79 H53 rfl R25 ?_
            refine evx_F E216 D216_121 rfl rfl ?_
            refine evx_ial E216 D216_123 H76 (by decide) R25 k23 ?_
            show evx _ _ _ _ _ _ (.inl (iz (M 76 (Int.toNat q16))) :: _) _ _ _
            by_cases cb27 : (M 76 (Int.toNat q10)) = (M 76 (Int.toNat q16))
            · rw [if_pos cb27] at hs
              refine evx_F E216 D216_124 rfl (ifT (c2_eq_T (R25.1 76 (Int.toNat q10)) (R25.1 76 (Int.toNat q16)) cb27)) ?_
              refine evx_F E216 D216_129 rfl rfl ?_
              refine evx_gfr E216 D216_130 F216_79 H53 rfl R25 ?_
              refine evx_F E216 D216_133 rfl rfl ?_
              refine evx_ial E216 D216_135 H76 (by decide) R25 k21 ?_
              show evx _ _ _ _ _ _ (.inl (iz (M 76 (Int.toNat q10))) :: _) _ _ _
              refine evx_F E216 D216_136 rfl rfl ?_
              by_cases cb28 : (M 76 (Int.toNat q10)) = 3
              · rw [if_pos cb28] at hs
                refine evx_F E216 D216_137 rfl (ifT (c2_eq_T (R25.1 76 (Int.toNat q10)) (by decide) cb28)) ?_
                refine evx_F E216 D216_151 rfl rfl ?_
                refine evx_gfr E216 D216_152 F216_97 H53 rfl R25 ?_
                refine evx_F E216 D216_155 rfl rfl ?_
                refine evx_F E216 D216_156 rfl rfl ?_
                refine evx_gfr E216 D216_157 F216_82 H53 rfl R25 ?_
                refine evx_F E216 D216_160 rfl rfl ?_
                refine evx_ial E216 D216_162 H77 (by decide) R25 k21 ?_
                show evx _ _ _ _ _ _ (.inl (iz (M 77 (Int.toNat q10))) :: _) _ _ _
                refine evx_ias E216 D216_163 H82 (by decide) R25 k8 (R25.1 77 (Int.toNat q10)) ?_
                intro h29 R30
                refine evx_F E216 D216_164 rfl rfl ?_
                refine evx_gfr E216 D216_165 F216_97 H53 rfl R30 ?_
                refine evx_F E216 D216_168 rfl rfl ?_
                refine evx_F E216 D216_169 rfl rfl ?_
                refine evx_add E216 D216_170 ?_
                refine evx_F E216 D216_171 rfl rfl ?_
                refine evx_gfr E216 D216_172 F216_82 H53 rfl R30 ?_
                refine evx_F E216 D216_175 rfl rfl ?_
                refine evx_ial E216 D216_177 H77 (by decide) R30 k23 ?_
                show evx _ _ _ _ _ _ (.inl (iz (M 77 (Int.toNat q16))) :: _) _ _ _
                refine evx_ias E216 D216_178 H82 (by decide) R30 k14 (R30.1 77 (Int.toNat q16)) ?_
                intro h31 R32
                refine evx_inc E216 D216_179 (Nat.le_of_ble_eq_true rfl) rfl ?_
                refine evx_F E216 D216_182 rfl rfl ?_
                refine evx_gfr E216 D216_183 F216_79 H53 rfl R32 ?_
                refine evx_F E216 D216_186 rfl rfl ?_
                refine evx_ial E216 D216_188 H76 (by decide) R32 k21 ?_
                show evx _ _ _ _ _ _ (.inl (iz (M 76 (Int.toNat q10))) :: _) _ _ _
                refine evx_F E216 D216_189 rfl rfl ?_
                by_cases cb33 : ¬ (M 76 (Int.toNat q10)) = 4
                · rw [if_pos cb33] at hs
                  refine evx_F E216 D216_190 rfl (ifT (c2_ne_T (R32.1 76 (Int.toNat q10)) (by decide) cb33)) ?_
                  refine evx_F E216 D216_224 rfl rfl ?_
                  obtain ⟨k34, hs⟩ := ck hs
                  show evx _ _ _ _ _ [(3, .inl (iz ((x3 + (-2)) + 2))), (5, .inl (iz q16)), (4, .inl (iz q10)), (0, .inr (.inr (.inl (some 53)))), (1, .inl (iz x1)), (2, .inl (iz x2))] _ _ _ _
                  exact evx_lv (lvLe_mk (fm rfl (fm rfl (fm rfl (fm rfl fn)))) (fm rfl (fm rfl (fm rfl (fm rfl (fm rfl (fm rfl fn)))))) (fm rfl (fm rfl (fm rfl (fm rfl fn))))) (ih _ _ _ _ _ _ _ hs R32 rx1 rx2 k34)
                · rw [if_neg cb33] at hs
                  refine evx_F E216 D216_190 rfl (ifF (c2_ne_F (R32.1 76 (Int.toNat q10)) (by decide) (by omega))) ?_
                  refine evx_F E216 D216_193 rfl rfl ?_
                  refine evx_gfr E216 D216_194 F216_97 H53 rfl R32 ?_
                  refine evx_F E216 D216_197 rfl rfl ?_
                  refine evx_F E216 D216_198 rfl rfl ?_
                  refine evx_gfr E216 D216_199 F216_85 H53 rfl R32 ?_
                  refine evx_F E216 D216_202 rfl rfl ?_
                  refine evx_ial E216 D216_204 H78 (by decide) R32 k21 ?_
                  show evx _ _ _ _ _ _ (.inl (iz (M 78 (Int.toNat q10))) :: _) _ _ _
                  obtain ⟨k35, hs⟩ := ck hs
                  refine evx_ias E216 D216_205 H82 (by decide) R32 k35 (R32.1 78 (Int.toNat q10)) ?_
                  intro h36 R37
                  refine evx_F E216 D216_206 rfl rfl ?_
                  refine evx_gfr E216 D216_207 F216_97 H53 rfl R37 ?_
                  refine evx_F E216 D216_210 rfl rfl ?_
                  refine evx_F E216 D216_211 rfl rfl ?_
                  refine evx_add E216 D216_212 ?_
                  refine evx_F E216 D216_213 rfl rfl ?_
                  refine evx_gfr E216 D216_214 F216_85 H53 rfl R37 ?_
                  refine evx_F E216 D216_217 rfl rfl ?_
                  refine evx_ial E216 D216_219 H78 (by decide) R37 k23 ?_
                  show evx _ _ _ _ _ _ (.inl (iz (M 78 (Int.toNat q16))) :: _) _ _ _
                  obtain ⟨k38, hs⟩ := ck hs
                  refine evx_ias E216 D216_220 H82 (by decide) R37 k38 (R37.1 78 (Int.toNat q16)) ?_
                  intro h39 R40
                  refine evx_inc E216 D216_221 (Nat.le_of_ble_eq_true rfl) rfl ?_
                  refine evx_F E216 D216_224 rfl rfl ?_
                  obtain ⟨k41, hs⟩ := ck hs
                  show evx _ _ _ _ _ [(3, .inl (iz (((x3 + (-2)) + 2) + 2))), (5, .inl (iz q16)), (4, .inl (iz q10)), (0, .inr (.inr (.inl (some 53)))), (1, .inl (iz x1)), (2, .inl (iz x2))] _ _ _ _
                  exact evx_lv (lvLe_mk (fm rfl (fm rfl (fm rfl (fm rfl fn)))) (fm rfl (fm rfl (fm rfl (fm rfl (fm rfl (fm rfl fn)))))) (fm rfl (fm rfl (fm rfl (fm rfl fn))))) (ih _ _ _ _ _ _ _ hs R40 rx1 rx2 k41)
              · rw [if_neg cb28] at hs
                refine evx_F E216 D216_137 rfl (ifF (c2_eq_F (R25.1 76 (Int.toNat q10)) (by decide) (by omega))) ?_
                refine evx_F E216 D216_140 rfl rfl ?_
                refine evx_gfr E216 D216_141 F216_79 H53 rfl R25 ?_
                refine evx_F E216 D216_144 rfl rfl ?_
                refine evx_ial E216 D216_146 H76 (by decide) R25 k21 ?_
                show evx _ _ _ _ _ _ (.inl (iz (M 76 (Int.toNat q10))) :: _) _ _ _
                refine evx_F E216 D216_147 rfl rfl ?_
                by_cases cb42 : ¬ (M 76 (Int.toNat q10)) = 4
                · rw [if_pos cb42] at hs
                  refine evx_F E216 D216_148 rfl (ifT (c2_ne_T (R25.1 76 (Int.toNat q10)) (by decide) cb42)) ?_
                  refine evx_F E216 D216_182 rfl rfl ?_
                  refine evx_gfr E216 D216_183 F216_79 H53 rfl R25 ?_
                  refine evx_F E216 D216_186 rfl rfl ?_
                  refine evx_ial E216 D216_188 H76 (by decide) R25 k21 ?_
                  show evx _ _ _ _ _ _ (.inl (iz (M 76 (Int.toNat q10))) :: _) _ _ _
                  refine evx_F E216 D216_189 rfl rfl ?_
                  by_cases cb43 : ¬ (M 76 (Int.toNat q10)) = 4
                  · rw [if_pos cb43] at hs
                    refine evx_F E216 D216_190 rfl (ifT (c2_ne_T (R25.1 76 (Int.toNat q10)) (by decide) cb43)) ?_
                    refine evx_F E216 D216_224 rfl rfl ?_
                    obtain ⟨k44, hs⟩ := ck hs
                    show evx _ _ _ _ _ [(5, .inl (iz q16)), (4, .inl (iz q10)), (3, .inl (iz (x3 + (-2)))), (0, .inr (.inr (.inl (some 53)))), (1, .inl (iz x1)), (2, .inl (iz x2))] _ _ _ _
                    exact evx_lv (lvLe_mk (fm rfl (fm rfl (fm rfl (fm rfl fn)))) (fm rfl (fm rfl (fm rfl (fm rfl (fm rfl (fm rfl fn)))))) (fm rfl (fm rfl (fm rfl (fm rfl fn))))) (ih _ _ _ _ _ _ _ hs R25 rx1 rx2 k44)
                  · rw [if_neg cb43] at hs
                    refine evx_F E216 D216_190 rfl (ifF (c2_ne_F (R25.1 76 (Int.toNat q10)) (by decide) (by omega))) ?_
                    refine evx_F E216 D216_193 rfl rfl ?_
                    refine evx_gfr E216 D216_194 F216_97 H53 rfl R25 ?_
                    refine evx_F E216 D216_197 rfl rfl ?_
                    refine evx_F E216 D216_198 rfl rfl ?_
                    refine evx_gfr E216 D216_199 F216_85 H53 rfl R25 ?_
                    refine evx_F E216 D216_202 rfl rfl ?_
                    refine evx_ial E216 D216_204 H78 (by decide) R25 k21 ?_
                    show evx _ _ _ _ _ _ (.inl (iz (M 78 (Int.toNat q10))) :: _) _ _ _
                    refine evx_ias E216 D216_205 H82 (by decide) R25 k8 (R25.1 78 (Int.toNat q10)) ?_
                    intro h45 R46
                    refine evx_F E216 D216_206 rfl rfl ?_
                    refine evx_gfr E216 D216_207 F216_97 H53 rfl R46 ?_
                    refine evx_F E216 D216_210 rfl rfl ?_
                    refine evx_F E216 D216_211 rfl rfl ?_
                    refine evx_add E216 D216_212 ?_
                    refine evx_F E216 D216_213 rfl rfl ?_
                    refine evx_gfr E216 D216_214 F216_85 H53 rfl R46 ?_
                    refine evx_F E216 D216_217 rfl rfl ?_
                    refine evx_ial E216 D216_219 H78 (by decide) R46 k23 ?_
                    show evx _ _ _ _ _ _ (.inl (iz (M 78 (Int.toNat q16))) :: _) _ _ _
                    refine evx_ias E216 D216_220 H82 (by decide) R46 k14 (R46.1 78 (Int.toNat q16)) ?_
                    intro h47 R48
                    refine evx_inc E216 D216_221 (Nat.le_of_ble_eq_true rfl) rfl ?_
                    refine evx_F E216 D216_224 rfl rfl ?_
                    obtain ⟨k49, hs⟩ := ck hs
                    show evx _ _ _ _ _ [(3, .inl (iz ((x3 + (-2)) + 2))), (5, .inl (iz q16)), (4, .inl (iz q10)), (0, .inr (.inr (.inl (some 53)))), (1, .inl (iz x1)), (2, .inl (iz x2))] _ _ _ _
                    exact evx_lv (lvLe_mk (fm rfl (fm rfl (fm rfl (fm rfl fn)))) (fm rfl (fm rfl (fm rfl (fm rfl (fm rfl (fm rfl fn)))))) (fm rfl (fm rfl (fm rfl (fm rfl fn))))) (ih _ _ _ _ _ _ _ hs R48 rx1 rx2 k49)
                · rw [if_neg cb42] at hs
                  refine evx_F E216 D216_148 rfl (ifF (c2_ne_F (R25.1 76 (Int.toNat q10)) (by decide) (by omega))) ?_
                  refine evx_F E216 D216_151 rfl rfl ?_
                  refine evx_gfr E216 D216_152 F216_97 H53 rfl R25 ?_
                  refine evx_F E216 D216_155 rfl rfl ?_
                  refine evx_F E216 D216_156 rfl rfl ?_
                  refine evx_gfr E216 D216_157 F216_82 H53 rfl R25 ?_
                  refine evx_F E216 D216_160 rfl rfl ?_
                  refine evx_ial E216 D216_162 H77 (by decide) R25 k21 ?_
                  show evx _ _ _ _ _ _ (.inl (iz (M 77 (Int.toNat q10))) :: _) _ _ _
                  refine evx_ias E216 D216_163 H82 (by decide) R25 k8 (R25.1 77 (Int.toNat q10)) ?_
                  intro h50 R51
                  refine evx_F E216 D216_164 rfl rfl ?_
                  refine evx_gfr E216 D216_165 F216_97 H53 rfl R51 ?_
                  refine evx_F E216 D216_168 rfl rfl ?_
                  refine evx_F E216 D216_169 rfl rfl ?_
                  refine evx_add E216 D216_170 ?_
                  refine evx_F E216 D216_171 rfl rfl ?_
                  refine evx_gfr E216 D216_172 F216_82 H53 rfl R51 ?_
                  refine evx_F E216 D216_175 rfl rfl ?_
                  refine evx_ial E216 D216_177 H77 (by decide) R51 k23 ?_
                  show evx _ _ _ _ _ _ (.inl (iz (M 77 (Int.toNat q16))) :: _) _ _ _
                  refine evx_ias E216 D216_178 H82 (by decide) R51 k14 (R51.1 77 (Int.toNat q16)) ?_
                  intro h52 R53
                  refine evx_inc E216 D216_179 (Nat.le_of_ble_eq_true rfl) rfl ?_
                  refine evx_F E216 D216_182 rfl rfl ?_
                  refine evx_gfr E216 D216_183 F216_79 H53 rfl R53 ?_
                  refine evx_F E216 D216_186 rfl rfl ?_
                  refine evx_ial E216 D216_188 H76 (by decide) R53 k21 ?_
                  show evx _ _ _ _ _ _ (.inl (iz (M 76 (Int.toNat q10))) :: _) _ _ _
                  refine evx_F E216 D216_189 rfl rfl ?_
                  by_cases cb54 : ¬ (M 76 (Int.toNat q10)) = 4
                  · rw [if_pos cb54] at hs
                    refine evx_F E216 D216_190 rfl (ifT (c2_ne_T (R53.1 76 (Int.toNat q10)) (by decide) cb54)) ?_
                    refine evx_F E216 D216_224 rfl rfl ?_
                    obtain ⟨k55, hs⟩ := ck hs
                    show evx _ _ _ _ _ [(3, .inl (iz ((x3 + (-2)) + 2))), (5, .inl (iz q16)), (4, .inl (iz q10)), (0, .inr (.inr (.inl (some 53)))), (1, .inl (iz x1)), (2, .inl (iz x2))] _ _ _ _
                    exact evx_lv (lvLe_mk (fm rfl (fm rfl (fm rfl (fm rfl fn)))) (fm rfl (fm rfl (fm rfl (fm rfl (fm rfl (fm rfl fn)))))) (fm rfl (fm rfl (fm rfl (fm rfl fn))))) (ih _ _ _ _ _ _ _ hs R53 rx1 rx2 k55)
                  · rw [if_neg cb54] at hs
                    refine evx_F E216 D216_190 rfl (ifF (c2_ne_F (R53.1 76 (Int.toNat q10)) (by decide) (by omega))) ?_
                    refine evx_F E216 D216_193 rfl rfl ?_
                    refine evx_gfr E216 D216_194 F216_97 H53 rfl R53 ?_
                    refine evx_F E216 D216_197 rfl rfl ?_
                    refine evx_F E216 D216_198 rfl rfl ?_
                    refine evx_gfr E216 D216_199 F216_85 H53 rfl R53 ?_
                    refine evx_F E216 D216_202 rfl rfl ?_
                    refine evx_ial E216 D216_204 H78 (by decide) R53 k21 ?_
                    show evx _ _ _ _ _ _ (.inl (iz (M 78 (Int.toNat q10))) :: _) _ _ _
                    obtain ⟨k56, hs⟩ := ck hs
                    refine evx_ias E216 D216_205 H82 (by decide) R53 k56 (R53.1 78 (Int.toNat q10)) ?_
                    intro h57 R58
                    refine evx_F E216 D216_206 rfl rfl ?_
                    refine evx_gfr E216 D216_207 F216_97 H53 rfl R58 ?_
                    refine evx_F E216 D216_210 rfl rfl ?_
                    refine evx_F E216 D216_211 rfl rfl ?_
                    refine evx_add E216 D216_212 ?_
                    refine evx_F E216 D216_213 rfl rfl ?_
                    refine evx_gfr E216 D216_214 F216_85 H53 rfl R58 ?_
                    refine evx_F E216 D216_217 rfl rfl ?_
                    refine evx_ial E216 D216_219 H78 (by decide) R58 k23 ?_
                    show evx _ _ _ _ _ _ (.inl (iz (M 78 (Int.toNat q16))) :: _) _ _ _
                    obtain ⟨k59, hs⟩ := ck hs
                    refine evx_ias E216 D216_220 H82 (by decide) R58 k59 (R58.1 78 (Int.toNat q16)) ?_
                    intro h60 R61
                    refine evx_inc E216 D216_221 (Nat.le_of_ble_eq_true rfl) rfl ?_
                    refine evx_F E216 D216_224 rfl rfl ?_
                    obtain ⟨k62, hs⟩ := ck hs
                    show evx _ _ _ _ _ [(3, .inl (iz (((x3 + (-2)) + 2) + 2))), (5, .inl (iz q16)), (4, .inl (iz q10)), (0, .inr (.inr (.inl (some 53)))), (1, .inl (iz x1)), (2, .inl (iz x2))] _ _ _ _
                    exact evx_lv (lvLe_mk (fm rfl (fm rfl (fm rfl (fm rfl fn)))) (fm rfl (fm rfl (fm rfl (fm rfl (fm rfl (fm rfl fn)))))) (fm rfl (fm rfl (fm rfl (fm rfl fn))))) (ih _ _ _ _ _ _ _ hs R61 rx1 rx2 k62)
            · rw [if_neg cb27] at hs
              refine evx_F E216 D216_124 rfl (ifF (c2_eq_F (R25.1 76 (Int.toNat q10)) (R25.1 76 (Int.toNat q16)) (by omega))) ?_
              refine evx_F E216 D216_127 rfl rfl ?_
              cases hs
              exact evx_ret E216 D216_128 rfl (fun d => rfl) rfl (show rg _ from (by decide)) R25
          · rw [if_neg cb26] at hs
            refine evx_F E216 D216_104 rfl (ifF (c2_ne_F (R25.1 76 (Int.toNat q16)) (by decide) (by omega))) ?_
            refine evx_F E216 D216_107 rfl rfl ?_
            obtain ⟨k63, hs⟩ := ck hs
            show evx _ _ _ _ _ [(5, .inl (iz q16)), (4, .inl (iz q10)), (3, .inl (iz (x3 + (-2)))), (0, .inr (.inr (.inl (some 53)))), (1, .inl (iz x1)), (2, .inl (iz x2))] _ _ _ _
            exact evx_lv (lvLe_mk (fm rfl (fm rfl (fm rfl (fm rfl fn)))) (fm rfl (fm rfl (fm rfl (fm rfl (fm rfl (fm rfl fn)))))) (fm rfl (fm rfl (fm rfl (fm rfl fn))))) (ih _ _ _ _ _ _ _ hs R25 rx1 rx2 k63)
        · rw [if_neg cb22] at hs
          refine evx_F E216 D216_72 rfl (ifF (c2_ne_F (R18.1 76 (Int.toNat q10)) (by decide) (by omega))) ?_
          refine evx_F E216 D216_75 rfl rfl ?_
          refine evx_gfr E216 D216_76 F216_88 H53 rfl R18 ?_
          refine evx_F E216 D216_79 rfl rfl ?_
          refine evx_F E216 D216_81 rfl rfl ?_
          refine evx_ias E216 D216_83 H79 (by decide) R18 k21 w19 ?_
          intro h64 R65
          refine evx_F E216 D216_84 rfl rfl ?_
          obtain ⟨k66, hs⟩ := ck hs
          show evx _ _ _ _ _ [(5, .inl (iz q16)), (4, .inl (iz q10)), (3, .inl (iz (x3 + (-2)))), (0, .inr (.inr (.inl (some 53)))), (1, .inl (iz x1)), (2, .inl (iz x2))] _ _ _ _
          exact evx_lv (lvLe_mk (fm rfl (fm rfl (fm rfl (fm rfl fn)))) (fm rfl (fm rfl (fm rfl (fm rfl (fm rfl (fm rfl fn)))))) (fm rfl (fm rfl (fm rfl (fm rfl fn))))) (ih _ _ _ _ _ _ _ hs R65 rx1 rx2 k66)
      · rw [if_neg cb20] at hs
        refine evx_F E216 D216_58 rfl (ifF (c2_ne_F w13 w19 (by omega))) ?_
        refine evx_F E216 D216_61 rfl rfl ?_
        obtain ⟨k67, hs⟩ := ck hs
        show evx _ _ _ _ _ [(5, .inl (iz q16)), (4, .inl (iz q10)), (3, .inl (iz (x3 + (-2)))), (0, .inr (.inr (.inl (some 53)))), (1, .inl (iz x1)), (2, .inl (iz x2))] _ _ _ _
        exact evx_lv (lvLe_mk (fm rfl (fm rfl (fm rfl (fm rfl fn)))) (fm rfl (fm rfl (fm rfl (fm rfl (fm rfl (fm rfl fn)))))) (fm rfl (fm rfl (fm rfl (fm rfl fn))))) (ih _ _ _ _ _ _ _ hs R18 rx1 rx2 k67)
def f216 (M : Mm) (x1 : Int) (x2 : Int) : Option (Int × Mm) := if 0 ≤ ((0 : Int) + 1) ∧ ((0 : Int) + 1) < 16000 then (if rg (0 + 2) then (l216 FU 21 (up (up M 82 (Int.toNat 0) x1) 82 (Int.toNat ((0 : Int) + 1)) x2) x1 x2 (0 + 2)) else none) else none
theorem c216 {L : Nat} {xs : Nat → Int32} {h : mvH} {M : Mm} {x1 x2 : Int} {v : Int} {M' : Mm} (R : rp h M) (rx1 : rg x1) (rx2 : rg x2) (hs : f216 M x1 x2 = some (v, M')) : evx L xs 2 216 0 [(0, .inr (.inr (.inl (some 53)))), (1, .inl (iz x1)), (2, .inl (iz x2))] [] h (.inl (some (.inl v)), 0) M' := by
  unfold f216 at hs
  refine evx_F E216 D216_0 rfl rfl ?_
  refine evx_F E216 D216_1 rfl rfl ?_
  refine evx_F E216 D216_2 rfl rfl ?_
  refine evx_gfr E216 D216_3 F216_97 H53 rfl R ?_
  refine evx_F E216 D216_6 rfl rfl ?_
  refine evx_F E216 D216_7 rfl rfl ?_
  refine evx_ias E216 D216_8 H82 (by decide) R (by decide) rx1 ?_
  intro h1 R2
  refine evx_F E216 D216_9 rfl rfl ?_
  refine evx_gfr E216 D216_10 F216_97 H53 rfl R2 ?_
  refine evx_F E216 D216_13 rfl rfl ?_
  refine evx_F E216 D216_14 rfl rfl ?_
  refine evx_add E216 D216_15 ?_
  refine evx_F E216 D216_16 rfl rfl ?_
  obtain ⟨k3, hs⟩ := ck hs
  refine evx_ias E216 D216_17 H82 (by decide) R2 k3 rx2 ?_
  intro h4 R5
  refine evx_inc E216 D216_18 (Nat.le_of_ble_eq_true rfl) rfl ?_
  obtain ⟨k6, hs⟩ := ck hs
  show evx _ _ _ _ _ [(3, .inl (iz (0 + 2))), (0, .inr (.inr (.inl (some 53)))), (1, .inl (iz x1)), (2, .inl (iz x2))] _ _ _ _
  exact evx_lv (lvLe_mk (fm rfl (fm rfl (fm rfl (fm rfl fn)))) (fm rfl (fm rfl (fm rfl (fm rfl fn)))) (fm rfl (fm rfl (fm rfl (fm rfl fn))))) ((d216 FU) _ _ _ _ _ _ _ hs R5 rx1 rx2 k6)
set_option maxRecDepth 20000 in
theorem E218 : pgMm 218 = some (⟨"DictionaryHouseModel", "primitiveNode", "(I)I"⟩, prog_14_method_30_code, 7, (some .int), []) := rfl
theorem D218_0 : pgDecT 218 0 = some (.aload_n 0, 1) := by decide +kernel
theorem D218_1 : pgDecT 218 1 = some (.iconst 0, 1) := by decide +kernel
theorem D218_2 : pgDecT 218 2 = some (.iconst 0, 1) := by decide +kernel
theorem D218_3 : pgDecT 218 3 = some (.iconst 0, 1) := by decide +kernel
theorem D218_4 : pgDecT 218 4 = some (.invokevirtual 229, 3) := by decide +kernel
theorem I218_229 : pgIi 218 229 = some (214, 3, 12) := by decide +kernel
theorem D218_7 : pgDecT 218 7 = some (.istore_n 2, 1) := by decide +kernel
theorem D218_8 : pgDecT 218 8 = some (.aload_n 0, 1) := by decide +kernel
theorem D218_9 : pgDecT 218 9 = some (.iconst 1, 1) := by decide +kernel
theorem D218_10 : pgDecT 218 10 = some (.iconst 0, 1) := by decide +kernel
theorem D218_11 : pgDecT 218 11 = some (.iconst 0, 1) := by decide +kernel
theorem D218_12 : pgDecT 218 12 = some (.invokevirtual 229, 3) := by decide +kernel
theorem D218_15 : pgDecT 218 15 = some (.istore_n 3, 1) := by decide +kernel
theorem D218_16 : pgDecT 218 16 = some (.aload_n 0, 1) := by decide +kernel
theorem D218_17 : pgDecT 218 17 = some (.invokevirtual 236, 3) := by decide +kernel
theorem I218_236 : pgIi 218 236 = some (213, 0, 12) := by decide +kernel
theorem D218_20 : pgDecT 218 20 = some (.istore 4, 2) := by decide +kernel
theorem D218_22 : pgDecT 218 22 = some (.aload_n 0, 1) := by decide +kernel
theorem D218_23 : pgDecT 218 23 = some (.invokevirtual 236, 3) := by decide +kernel
theorem D218_26 : pgDecT 218 26 = some (.istore 5, 2) := by decide +kernel
theorem D218_28 : pgDecT 218 28 = some (.aload_n 0, 1) := by decide +kernel
theorem D218_29 : pgDecT 218 29 = some (.iconst 3, 1) := by decide +kernel
theorem D218_30 : pgDecT 218 30 = some (.iload 4, 2) := by decide +kernel
theorem D218_32 : pgDecT 218 32 = some (.iconst 0, 1) := by decide +kernel
theorem D218_33 : pgDecT 218 33 = some (.invokevirtual 229, 3) := by decide +kernel
theorem D218_36 : pgDecT 218 36 = some (.istore 6, 2) := by decide +kernel
theorem D218_38 : pgDecT 218 38 = some (.iload_n 1, 1) := by decide +kernel
theorem D218_39 : pgDecT 218 39 = some (.tableswitch 105 0 6 #[41, 41, 43, 55, 67, 87, 90], 41) := by decide +kernel
theorem D218_80 : pgDecT 218 80 = some (.iload_n 3, 1) := by decide +kernel
theorem D218_81 : pgDecT 218 81 = some (.ireturn, 1) := by decide +kernel
theorem D218_82 : pgDecT 218 82 = some (.aload_n 0, 1) := by decide +kernel
theorem D218_83 : pgDecT 218 83 = some (.iload_n 2, 1) := by decide +kernel
theorem D218_84 : pgDecT 218 84 = some (.aload_n 0, 1) := by decide +kernel
theorem D218_85 : pgDecT 218 85 = some (.iload_n 2, 1) := by decide +kernel
theorem D218_86 : pgDecT 218 86 = some (.iload_n 2, 1) := by decide +kernel
theorem D218_87 : pgDecT 218 87 = some (.invokevirtual 232, 3) := by decide +kernel
theorem I218_232 : pgIi 218 232 = some (219, 2, 12) := by decide +kernel
theorem D218_90 : pgDecT 218 90 = some (.invokevirtual 232, 3) := by decide +kernel
theorem D218_93 : pgDecT 218 93 = some (.ireturn, 1) := by decide +kernel
theorem D218_94 : pgDecT 218 94 = some (.aload_n 0, 1) := by decide +kernel
theorem D218_95 : pgDecT 218 95 = some (.iload_n 2, 1) := by decide +kernel
theorem D218_96 : pgDecT 218 96 = some (.aload_n 0, 1) := by decide +kernel
theorem D218_97 : pgDecT 218 97 = some (.iload_n 2, 1) := by decide +kernel
theorem D218_98 : pgDecT 218 98 = some (.iload_n 3, 1) := by decide +kernel
theorem D218_99 : pgDecT 218 99 = some (.invokevirtual 232, 3) := by decide +kernel
theorem D218_102 : pgDecT 218 102 = some (.invokevirtual 232, 3) := by decide +kernel
theorem D218_105 : pgDecT 218 105 = some (.ireturn, 1) := by decide +kernel
theorem D218_106 : pgDecT 218 106 = some (.aload_n 0, 1) := by decide +kernel
theorem D218_107 : pgDecT 218 107 = some (.iload_n 3, 1) := by decide +kernel
theorem D218_108 : pgDecT 218 108 = some (.aload_n 0, 1) := by decide +kernel
theorem D218_109 : pgDecT 218 109 = some (.iload 4, 2) := by decide +kernel
theorem D218_111 : pgDecT 218 111 = some (.aload_n 0, 1) := by decide +kernel
theorem D218_112 : pgDecT 218 112 = some (.iload 4, 2) := by decide +kernel
theorem D218_114 : pgDecT 218 114 = some (.iload 4, 2) := by decide +kernel
theorem D218_116 : pgDecT 218 116 = some (.invokevirtual 232, 3) := by decide +kernel
theorem D218_119 : pgDecT 218 119 = some (.invokevirtual 232, 3) := by decide +kernel
theorem D218_122 : pgDecT 218 122 = some (.invokevirtual 232, 3) := by decide +kernel
theorem D218_125 : pgDecT 218 125 = some (.ireturn, 1) := by decide +kernel
theorem D218_126 : pgDecT 218 126 = some (.iload 6, 2) := by decide +kernel
theorem D218_128 : pgDecT 218 128 = some (.ireturn, 1) := by decide +kernel
theorem D218_129 : pgDecT 218 129 = some (.aload_n 0, 1) := by decide +kernel
theorem D218_130 : pgDecT 218 130 = some (.iload 4, 2) := by decide +kernel
theorem D218_132 : pgDecT 218 132 = some (.aload_n 0, 1) := by decide +kernel
theorem D218_133 : pgDecT 218 133 = some (.iload 6, 2) := by decide +kernel
theorem D218_135 : pgDecT 218 135 = some (.iload 6, 2) := by decide +kernel
theorem D218_137 : pgDecT 218 137 = some (.invokevirtual 232, 3) := by decide +kernel
theorem D218_140 : pgDecT 218 140 = some (.invokevirtual 232, 3) := by decide +kernel
theorem D218_143 : pgDecT 218 143 = some (.ireturn, 1) := by decide +kernel
theorem D218_144 : pgDecT 218 144 = some (.aload_n 0, 1) := by decide +kernel
theorem D218_145 : pgDecT 218 145 = some (.aload_n 0, 1) := by decide +kernel
theorem D218_146 : pgDecT 218 146 = some (.iload 4, 2) := by decide +kernel
theorem D218_148 : pgDecT 218 148 = some (.aload_n 0, 1) := by decide +kernel
theorem D218_149 : pgDecT 218 149 = some (.iload 5, 2) := by decide +kernel
theorem D218_151 : pgDecT 218 151 = some (.iload 5, 2) := by decide +kernel
theorem D218_153 : pgDecT 218 153 = some (.invokevirtual 232, 3) := by decide +kernel
theorem D218_156 : pgDecT 218 156 = some (.invokevirtual 232, 3) := by decide +kernel
theorem D218_159 : pgDecT 218 159 = some (.aload_n 0, 1) := by decide +kernel
theorem D218_160 : pgDecT 218 160 = some (.iload 5, 2) := by decide +kernel
theorem D218_162 : pgDecT 218 162 = some (.aload_n 0, 1) := by decide +kernel
theorem D218_163 : pgDecT 218 163 = some (.iload 6, 2) := by decide +kernel
theorem D218_165 : pgDecT 218 165 = some (.iload 5, 2) := by decide +kernel
theorem D218_167 : pgDecT 218 167 = some (.invokevirtual 232, 3) := by decide +kernel
theorem D218_170 : pgDecT 218 170 = some (.invokevirtual 232, 3) := by decide +kernel
theorem D218_173 : pgDecT 218 173 = some (.invokevirtual 232, 3) := by decide +kernel
theorem D218_176 : pgDecT 218 176 = some (.ireturn, 1) := by decide +kernel
/-! 218: DictionaryHouseModel.primitiveNode (I)I -/
def f218 (M : Mm) (x1 : Int) : Option (Int × Mm) := (f214 M 0 0 0).bind (fun zq2 => (f214 zq2.2 1 0 0).bind (fun zq8 => (f213 zq8.2).bind (fun zq14 => (f213 zq14.2).bind (fun zq20 => (f214 zq20.2 3 zq14.1 0).bind (fun zq26 => if x1 = 0 then (some (zq8.1, zq26.2)) else (if x1 = 1 then (some (zq8.1, zq26.2)) else (if x1 = 2 then (f219 zq26.2 zq2.1 zq2.1).bind (fun zq35 => (f219 zq35.2 zq2.1 zq35.1).bind (fun zq41 => some (zq41.1, zq41.2))) else (if x1 = 3 then (f219 zq26.2 zq2.1 zq8.1).bind (fun zq48 => (f219 zq48.2 zq2.1 zq48.1).bind (fun zq54 => some (zq54.1, zq54.2))) else (if x1 = 4 then (f219 zq26.2 zq14.1 zq14.1).bind (fun zq61 => (f219 zq61.2 zq14.1 zq61.1).bind (fun zq67 => (f219 zq67.2 zq8.1 zq67.1).bind (fun zq73 => some (zq73.1, zq73.2)))) else (if x1 = 5 then (some (zq26.1, zq26.2)) else (if x1 = 6 then (f219 zq26.2 zq26.1 zq26.1).bind (fun zq81 => (f219 zq81.2 zq14.1 zq81.1).bind (fun zq87 => some (zq87.1, zq87.2))) else ((f219 zq26.2 zq20.1 zq20.1).bind (fun zq93 => (f219 zq93.2 zq14.1 zq93.1).bind (fun zq99 => (f219 zq99.2 zq26.1 zq20.1).bind (fun zq105 => (f219 zq105.2 zq20.1 zq105.1).bind (fun zq111 => (f219 zq111.2 zq99.1 zq111.1).bind (fun zq117 => some (zq117.1, zq117.2))))))))))))))))))
theorem c218 {L : Nat} {xs : Nat → Int32} {h : mvH} {M : Mm} {x1 : Int} {v : Int} {M' : Mm} (R : rp h M) (rx1 : rg x1) (hs : f218 M x1 = some (v, M')) : evx L xs 3 218 0 [(0, .inr (.inr (.inl (some 53)))), (1, .inl (iz x1))] [] h (.inl (some (.inl v)), 0) M' := by
  unfold f218 at hs
  refine evx_F E218 D218_0 rfl rfl ?_
  refine evx_F E218 D218_1 rfl rfl ?_
  refine evx_F E218 D218_2 rfl rfl ?_
  refine evx_F E218 D218_3 rfl rfl ?_
  obtain ⟨⟨q2, M6⟩, e1, hs⟩ := Option.bind_eq_some_iff.mp hs
  dsimp only at hs
  refine evx_cv (D := 2) E218 D218_4 I218_229 rfl rfl H53 ⟨Nat.le_of_ble_eq_true rfl, Nat.le_of_ble_eq_true rfl⟩ ⟨rfl, Nat.le_of_ble_eq_true rfl⟩ rfl R (evx_up (Nat.le_of_ble_eq_true rfl) (c214 R (by decide) (by decide) (by decide) e1)) ?_
  intro h3 R4 w5
  have w5 : rg q2 := w5
  show evx _ _ _ _ _ _ (.inl (iz q2) :: _) _ _ _
  refine evx_F E218 D218_7 rfl rfl ?_
  refine evx_F E218 D218_8 rfl rfl ?_
  refine evx_F E218 D218_9 rfl rfl ?_
  refine evx_F E218 D218_10 rfl rfl ?_
  refine evx_F E218 D218_11 rfl rfl ?_
  obtain ⟨⟨q8, M12⟩, e7, hs⟩ := Option.bind_eq_some_iff.mp hs
  dsimp only at hs
  refine evx_cv (D := 2) E218 D218_12 I218_229 rfl rfl H53 ⟨Nat.le_of_ble_eq_true rfl, Nat.le_of_ble_eq_true rfl⟩ ⟨rfl, Nat.le_of_ble_eq_true rfl⟩ rfl R4 (evx_up (Nat.le_of_ble_eq_true rfl) (c214 R4 (by decide) (by decide) (by decide) e7)) ?_
  intro h9 R10 w11
  have w11 : rg q8 := w11
  show evx _ _ _ _ _ _ (.inl (iz q8) :: _) _ _ _
  refine evx_F E218 D218_15 rfl rfl ?_
  refine evx_F E218 D218_16 rfl rfl ?_
  obtain ⟨⟨q14, M18⟩, e13, hs⟩ := Option.bind_eq_some_iff.mp hs
  dsimp only at hs
  refine evx_cv (D := 2) E218 D218_17 I218_236 rfl rfl H53 ⟨Nat.le_of_ble_eq_true rfl, Nat.le_of_ble_eq_true rfl⟩ ⟨rfl, Nat.le_of_ble_eq_true rfl⟩ rfl R10 (evx_up (Nat.le_of_ble_eq_true rfl) (c213 R10  e13)) ?_
  intro h15 R16 w17
  have w17 : rg q14 := w17
  show evx _ _ _ _ _ _ (.inl (iz q14) :: _) _ _ _
  refine evx_F E218 D218_20 rfl rfl ?_
  refine evx_F E218 D218_22 rfl rfl ?_
  obtain ⟨⟨q20, M24⟩, e19, hs⟩ := Option.bind_eq_some_iff.mp hs
  dsimp only at hs
  refine evx_cv (D := 2) E218 D218_23 I218_236 rfl rfl H53 ⟨Nat.le_of_ble_eq_true rfl, Nat.le_of_ble_eq_true rfl⟩ ⟨rfl, Nat.le_of_ble_eq_true rfl⟩ rfl R16 (evx_up (Nat.le_of_ble_eq_true rfl) (c213 R16  e19)) ?_
  intro h21 R22 w23
  have w23 : rg q20 := w23
  show evx _ _ _ _ _ _ (.inl (iz q20) :: _) _ _ _
  refine evx_F E218 D218_26 rfl rfl ?_
  refine evx_F E218 D218_28 rfl rfl ?_
  refine evx_F E218 D218_29 rfl rfl ?_
  refine evx_F E218 D218_30 rfl rfl ?_
  refine evx_F E218 D218_32 rfl rfl ?_
  obtain ⟨⟨q26, M30⟩, e25, hs⟩ := Option.bind_eq_some_iff.mp hs
  dsimp only at hs
  refine evx_cv (D := 2) E218 D218_33 I218_229 rfl rfl H53 ⟨Nat.le_of_ble_eq_true rfl, Nat.le_of_ble_eq_true rfl⟩ ⟨rfl, Nat.le_of_ble_eq_true rfl⟩ rfl R22 (evx_up (Nat.le_of_ble_eq_true rfl) (c214 R22 (by decide) w17 (by decide) e25)) ?_
  intro h27 R28 w29
  have w29 : rg q26 := w29
  show evx _ _ _ _ _ _ (.inl (iz q26) :: _) _ _ _
  refine evx_F E218 D218_36 rfl rfl ?_
  refine evx_F E218 D218_38 rfl rfl ?_
  by_cases cb31 : x1 = 0
  · rw [if_pos cb31] at hs
    refine evx_tsi (0) E218 D218_39 cb31 (by decide) (by decide) rfl rfl ?_
    refine evx_F E218 D218_80 rfl rfl ?_
    cases hs
    exact evx_ret E218 D218_81 rfl (fun d => rfl) rfl (show rg _ from w11) R28
  · rw [if_neg cb31] at hs
    by_cases cb32 : x1 = 1
    · rw [if_pos cb32] at hs
      refine evx_tsi (1) E218 D218_39 cb32 (by decide) (by decide) rfl rfl ?_
      refine evx_F E218 D218_80 rfl rfl ?_
      cases hs
      exact evx_ret E218 D218_81 rfl (fun d => rfl) rfl (show rg _ from w11) R28
    · rw [if_neg cb32] at hs
      by_cases cb33 : x1 = 2
      · rw [if_pos cb33] at hs
        refine evx_tsi (2) E218 D218_39 cb33 (by decide) (by decide) rfl rfl ?_
        refine evx_F E218 D218_82 rfl rfl ?_
        refine evx_F E218 D218_83 rfl rfl ?_
        refine evx_F E218 D218_84 rfl rfl ?_
        refine evx_F E218 D218_85 rfl rfl ?_
        refine evx_F E218 D218_86 rfl rfl ?_
        obtain ⟨⟨q35, M39⟩, e34, hs⟩ := Option.bind_eq_some_iff.mp hs
        dsimp only at hs
        refine evx_cv (D := 2) E218 D218_87 I218_232 rfl rfl H53 ⟨Nat.le_of_ble_eq_true rfl, Nat.le_of_ble_eq_true rfl⟩ ⟨rfl, Nat.le_of_ble_eq_true rfl⟩ rfl R28 (evx_up (Nat.le_of_ble_eq_true rfl) (c219 R28 w5 w5 e34)) ?_
        intro h36 R37 w38
        have w38 : rg q35 := w38
        show evx _ _ _ _ _ _ (.inl (iz q35) :: _) _ _ _
        obtain ⟨⟨q41, M45⟩, e40, hs⟩ := Option.bind_eq_some_iff.mp hs
        dsimp only at hs
        refine evx_cv (D := 2) E218 D218_90 I218_232 rfl rfl H53 ⟨Nat.le_of_ble_eq_true rfl, Nat.le_of_ble_eq_true rfl⟩ ⟨rfl, Nat.le_of_ble_eq_true rfl⟩ rfl R37 (evx_up (Nat.le_of_ble_eq_true rfl) (c219 R37 w5 w38 e40)) ?_
        intro h42 R43 w44
        have w44 : rg q41 := w44
        show evx _ _ _ _ _ _ (.inl (iz q41) :: _) _ _ _
        cases hs
        exact evx_ret E218 D218_93 rfl (fun d => rfl) rfl (show rg _ from w44) R43
      · rw [if_neg cb33] at hs
        by_cases cb46 : x1 = 3
        · rw [if_pos cb46] at hs
          refine evx_tsi (3) E218 D218_39 cb46 (by decide) (by decide) rfl rfl ?_
          refine evx_F E218 D218_94 rfl rfl ?_
          refine evx_F E218 D218_95 rfl rfl ?_
          refine evx_F E218 D218_96 rfl rfl ?_
          refine evx_F E218 D218_97 rfl rfl ?_
          refine evx_F E218 D218_98 rfl rfl ?_
          obtain ⟨⟨q48, M52⟩, e47, hs⟩ := Option.bind_eq_some_iff.mp hs
          dsimp only at hs
          refine evx_cv (D := 2) E218 D218_99 I218_232 rfl rfl H53 ⟨Nat.le_of_ble_eq_true rfl, Nat.le_of_ble_eq_true rfl⟩ ⟨rfl, Nat.le_of_ble_eq_true rfl⟩ rfl R28 (evx_up (Nat.le_of_ble_eq_true rfl) (c219 R28 w5 w11 e47)) ?_
          intro h49 R50 w51
          have w51 : rg q48 := w51
          show evx _ _ _ _ _ _ (.inl (iz q48) :: _) _ _ _
          obtain ⟨⟨q54, M58⟩, e53, hs⟩ := Option.bind_eq_some_iff.mp hs
          dsimp only at hs
          refine evx_cv (D := 2) E218 D218_102 I218_232 rfl rfl H53 ⟨Nat.le_of_ble_eq_true rfl, Nat.le_of_ble_eq_true rfl⟩ ⟨rfl, Nat.le_of_ble_eq_true rfl⟩ rfl R50 (evx_up (Nat.le_of_ble_eq_true rfl) (c219 R50 w5 w51 e53)) ?_
          intro h55 R56 w57
          have w57 : rg q54 := w57
          show evx _ _ _ _ _ _ (.inl (iz q54) :: _) _ _ _
          cases hs
          exact evx_ret E218 D218_105 rfl (fun d => rfl) rfl (show rg _ from w57) R56
        · rw [if_neg cb46] at hs
          by_cases cb59 : x1 = 4
          · rw [if_pos cb59] at hs
            refine evx_tsi (4) E218 D218_39 cb59 (by decide) (by decide) rfl rfl ?_
            refine evx_F E218 D218_106 rfl rfl ?_
            refine evx_F E218 D218_107 rfl rfl ?_
            refine evx_F E218 D218_108 rfl rfl ?_
            refine evx_F E218 D218_109 rfl rfl ?_
            refine evx_F E218 D218_111 rfl rfl ?_
            refine evx_F E218 D218_112 rfl rfl ?_
            refine evx_F E218 D218_114 rfl rfl ?_
            obtain ⟨⟨q61, M65⟩, e60, hs⟩ := Option.bind_eq_some_iff.mp hs
            dsimp only at hs
            refine evx_cv (D := 2) E218 D218_116 I218_232 rfl rfl H53 ⟨Nat.le_of_ble_eq_true rfl, Nat.le_of_ble_eq_true rfl⟩ ⟨rfl, Nat.le_of_ble_eq_true rfl⟩ rfl R28 (evx_up (Nat.le_of_ble_eq_true rfl) (c219 R28 w17 w17 e60)) ?_
            intro h62 R63 w64
            have w64 : rg q61 := w64
            show evx _ _ _ _ _ _ (.inl (iz q61) :: _) _ _ _
            obtain ⟨⟨q67, M71⟩, e66, hs⟩ := Option.bind_eq_some_iff.mp hs
            dsimp only at hs
            refine evx_cv (D := 2) E218 D218_119 I218_232 rfl rfl H53 ⟨Nat.le_of_ble_eq_true rfl, Nat.le_of_ble_eq_true rfl⟩ ⟨rfl, Nat.le_of_ble_eq_true rfl⟩ rfl R63 (evx_up (Nat.le_of_ble_eq_true rfl) (c219 R63 w17 w64 e66)) ?_
            intro h68 R69 w70
            have w70 : rg q67 := w70
            show evx _ _ _ _ _ _ (.inl (iz q67) :: _) _ _ _
            obtain ⟨⟨q73, M77⟩, e72, hs⟩ := Option.bind_eq_some_iff.mp hs
            dsimp only at hs
            refine evx_cv (D := 2) E218 D218_122 I218_232 rfl rfl H53 ⟨Nat.le_of_ble_eq_true rfl, Nat.le_of_ble_eq_true rfl⟩ ⟨rfl, Nat.le_of_ble_eq_true rfl⟩ rfl R69 (evx_up (Nat.le_of_ble_eq_true rfl) (c219 R69 w11 w70 e72)) ?_
            intro h74 R75 w76
            have w76 : rg q73 := w76
            show evx _ _ _ _ _ _ (.inl (iz q73) :: _) _ _ _
            cases hs
            exact evx_ret E218 D218_125 rfl (fun d => rfl) rfl (show rg _ from w76) R75
          · rw [if_neg cb59] at hs
            by_cases cb78 : x1 = 5
            · rw [if_pos cb78] at hs
              refine evx_tsi (5) E218 D218_39 cb78 (by decide) (by decide) rfl rfl ?_
              refine evx_F E218 D218_126 rfl rfl ?_
              cases hs
              exact evx_ret E218 D218_128 rfl (fun d => rfl) rfl (show rg _ from w29) R28
            · rw [if_neg cb78] at hs
              by_cases cb79 : x1 = 6
              · rw [if_pos cb79] at hs
                refine evx_tsi (6) E218 D218_39 cb79 (by decide) (by decide) rfl rfl ?_
                refine evx_F E218 D218_129 rfl rfl ?_
                refine evx_F E218 D218_130 rfl rfl ?_
                refine evx_F E218 D218_132 rfl rfl ?_
                refine evx_F E218 D218_133 rfl rfl ?_
                refine evx_F E218 D218_135 rfl rfl ?_
                obtain ⟨⟨q81, M85⟩, e80, hs⟩ := Option.bind_eq_some_iff.mp hs
                dsimp only at hs
                refine evx_cv (D := 2) E218 D218_137 I218_232 rfl rfl H53 ⟨Nat.le_of_ble_eq_true rfl, Nat.le_of_ble_eq_true rfl⟩ ⟨rfl, Nat.le_of_ble_eq_true rfl⟩ rfl R28 (evx_up (Nat.le_of_ble_eq_true rfl) (c219 R28 w29 w29 e80)) ?_
                intro h82 R83 w84
                have w84 : rg q81 := w84
                show evx _ _ _ _ _ _ (.inl (iz q81) :: _) _ _ _
                obtain ⟨⟨q87, M91⟩, e86, hs⟩ := Option.bind_eq_some_iff.mp hs
                dsimp only at hs
                refine evx_cv (D := 2) E218 D218_140 I218_232 rfl rfl H53 ⟨Nat.le_of_ble_eq_true rfl, Nat.le_of_ble_eq_true rfl⟩ ⟨rfl, Nat.le_of_ble_eq_true rfl⟩ rfl R83 (evx_up (Nat.le_of_ble_eq_true rfl) (c219 R83 w17 w84 e86)) ?_
                intro h88 R89 w90
                have w90 : rg q87 := w90
                show evx _ _ _ _ _ _ (.inl (iz q87) :: _) _ _ _
                cases hs
                exact evx_ret E218 D218_143 rfl (fun d => rfl) rfl (show rg _ from w90) R89
              · rw [if_neg cb79] at hs
                refine evx_tso E218 D218_39 rx1 (by omega) rfl ?_
                refine evx_F E218 D218_144 rfl rfl ?_
                refine evx_F E218 D218_145 rfl rfl ?_
                refine evx_F E218 D218_146 rfl rfl ?_
                refine evx_F E218 D218_148 rfl rfl ?_
                refine evx_F E218 D218_149 rfl rfl ?_
                refine evx_F E218 D218_151 rfl rfl ?_
                obtain ⟨⟨q93, M97⟩, e92, hs⟩ := Option.bind_eq_some_iff.mp hs
                dsimp only at hs
                refine evx_cv (D := 2) E218 D218_153 I218_232 rfl rfl H53 ⟨Nat.le_of_ble_eq_true rfl, Nat.le_of_ble_eq_true rfl⟩ ⟨rfl, Nat.le_of_ble_eq_true rfl⟩ rfl R28 (evx_up (Nat.le_of_ble_eq_true rfl) (c219 R28 w23 w23 e92)) ?_
                intro h94 R95 w96
                have w96 : rg q93 := w96
                show evx _ _ _ _ _ _ (.inl (iz q93) :: _) _ _ _
                obtain ⟨⟨q99, M103⟩, e98, hs⟩ := Option.bind_eq_some_iff.mp hs
                dsimp only at hs
                refine evx_cv (D := 2) E218 D218_156 I218_232 rfl rfl H53 ⟨Nat.le_of_ble_eq_true rfl, Nat.le_of_ble_eq_true rfl⟩ ⟨rfl, Nat.le_of_ble_eq_true rfl⟩ rfl R95 (evx_up (Nat.le_of_ble_eq_true rfl) (c219 R95 w17 w96 e98)) ?_
                intro h100 R101 w102
                have w102 : rg q99 := w102
                show evx _ _ _ _ _ _ (.inl (iz q99) :: _) _ _ _
                refine evx_F E218 D218_159 rfl rfl ?_
                refine evx_F E218 D218_160 rfl rfl ?_
                refine evx_F E218 D218_162 rfl rfl ?_
                refine evx_F E218 D218_163 rfl rfl ?_
                refine evx_F E218 D218_165 rfl rfl ?_
                obtain ⟨⟨q105, M109⟩, e104, hs⟩ := Option.bind_eq_some_iff.mp hs
                dsimp only at hs
                refine evx_cv (D := 2) E218 D218_167 I218_232 rfl rfl H53 ⟨Nat.le_of_ble_eq_true rfl, Nat.le_of_ble_eq_true rfl⟩ ⟨rfl, Nat.le_of_ble_eq_true rfl⟩ rfl R101 (evx_up (Nat.le_of_ble_eq_true rfl) (c219 R101 w29 w23 e104)) ?_
                intro h106 R107 w108
                have w108 : rg q105 := w108
                show evx _ _ _ _ _ _ (.inl (iz q105) :: _) _ _ _
                obtain ⟨⟨q111, M115⟩, e110, hs⟩ := Option.bind_eq_some_iff.mp hs
                dsimp only at hs
                refine evx_cv (D := 2) E218 D218_170 I218_232 rfl rfl H53 ⟨Nat.le_of_ble_eq_true rfl, Nat.le_of_ble_eq_true rfl⟩ ⟨rfl, Nat.le_of_ble_eq_true rfl⟩ rfl R107 (evx_up (Nat.le_of_ble_eq_true rfl) (c219 R107 w23 w108 e110)) ?_
                intro h112 R113 w114
                have w114 : rg q111 := w114
                show evx _ _ _ _ _ _ (.inl (iz q111) :: _) _ _ _
                obtain ⟨⟨q117, M121⟩, e116, hs⟩ := Option.bind_eq_some_iff.mp hs
                dsimp only at hs
                refine evx_cv (D := 2) E218 D218_173 I218_232 rfl rfl H53 ⟨Nat.le_of_ble_eq_true rfl, Nat.le_of_ble_eq_true rfl⟩ ⟨rfl, Nat.le_of_ble_eq_true rfl⟩ rfl R113 (evx_up (Nat.le_of_ble_eq_true rfl) (c219 R113 w102 w114 e116)) ?_
                intro h118 R119 w120
                have w120 : rg q117 := w120
                show evx _ _ _ _ _ _ (.inl (iz q117) :: _) _ _ _
                cases hs
                exact evx_ret E218 D218_176 rfl (fun d => rfl) rfl (show rg _ from w120) R119
set_option maxRecDepth 20000 in
theorem E221 : pgMm 221 = some (⟨"DictionaryHouseModel", "useNode", "(III)I"⟩, prog_14_method_35_code, 6, (some .int), []) := rfl
theorem D221_0 : pgDecT 221 0 = some (.aload_n 0, 1) := by decide +kernel
theorem D221_1 : pgDecT 221 1 = some (.invokevirtual 236, 3) := by decide +kernel
theorem I221_236 : pgIi 221 236 = some (213, 0, 12) := by decide +kernel
theorem D221_4 : pgDecT 221 4 = some (.istore 4, 2) := by decide +kernel
theorem D221_6 : pgDecT 221 6 = some (.iconst 2, 1) := by decide +kernel
theorem D221_7 : pgDecT 221 7 = some (.istore 5, 2) := by decide +kernel
theorem D221_9 : pgDecT 221 9 = some (.iload 5, 2) := by decide +kernel
theorem D221_11 : pgDecT 221 11 = some (.bipush 10, 2) := by decide +kernel
theorem D221_13 : pgDecT 221 13 = some (.if_icmp .ge 18, 3) := by decide +kernel
theorem D221_31 : pgDecT 221 31 = some (.aload_n 0, 1) := by decide +kernel
theorem D221_32 : pgDecT 221 32 = some (.getfield 115, 3) := by decide +kernel
theorem F221_115 : pgFf 221 115 = some (12, 41, 3) := by decide +kernel
theorem D221_35 : pgDecT 221 35 = some (.bipush 8, 2) := by decide +kernel
theorem D221_37 : pgDecT 221 37 = some (.iload_n 1, 1) := by decide +kernel
theorem D221_38 : pgDecT 221 38 = some (.imul, 1) := by decide +kernel
theorem D221_39 : pgDecT 221 39 = some (.iload 4, 2) := by decide +kernel
theorem D221_41 : pgDecT 221 41 = some (.iastore, 1) := by decide +kernel
theorem D221_42 : pgDecT 221 42 = some (.aload_n 0, 1) := by decide +kernel
theorem D221_43 : pgDecT 221 43 = some (.getfield 118, 3) := by decide +kernel
theorem F221_118 : pgFf 221 118 = some (12, 42, 3) := by decide +kernel
theorem D221_46 : pgDecT 221 46 = some (.iload_n 1, 1) := by decide +kernel
theorem D221_47 : pgDecT 221 47 = some (.iconst 1, 1) := by decide +kernel
theorem D221_48 : pgDecT 221 48 = some (.iastore, 1) := by decide +kernel
theorem D221_49 : pgDecT 221 49 = some (.aload_n 0, 1) := by decide +kernel
theorem D221_50 : pgDecT 221 50 = some (.iload_n 2, 1) := by decide +kernel
theorem D221_51 : pgDecT 221 51 = some (.iload 4, 2) := by decide +kernel
theorem D221_53 : pgDecT 221 53 = some (.invokevirtual 249, 3) := by decide +kernel
theorem I221_249 : pgIi 221 249 = some (222, 2, 12) := by decide +kernel
theorem D221_56 : pgDecT 221 56 = some (.aload_n 0, 1) := by decide +kernel
theorem D221_57 : pgDecT 221 57 = some (.aload_n 0, 1) := by decide +kernel
theorem D221_58 : pgDecT 221 58 = some (.getfield 25, 3) := by decide +kernel
theorem F221_25 : pgFf 221 25 = some (12, 8, 3) := by decide +kernel
theorem D221_61 : pgDecT 221 61 = some (.iconst 3, 1) := by decide +kernel
theorem D221_62 : pgDecT 221 62 = some (.iload_n 2, 1) := by decide +kernel
theorem D221_63 : pgDecT 221 63 = some (.imul, 1) := by decide +kernel
theorem D221_64 : pgDecT 221 64 = some (.iload_n 3, 1) := by decide +kernel
theorem D221_65 : pgDecT 221 65 = some (.iadd, 1) := by decide +kernel
theorem D221_66 : pgDecT 221 66 = some (.iaload, 1) := by decide +kernel
theorem D221_67 : pgDecT 221 67 = some (.invokevirtual 253, 3) := by decide +kernel
theorem I221_253 : pgIi 221 253 = some (223, 1, 12) := by decide +kernel
theorem D221_70 : pgDecT 221 70 = some (.ireturn, 1) := by decide +kernel
theorem D221_16 : pgDecT 221 16 = some (.aload_n 0, 1) := by decide +kernel
theorem D221_17 : pgDecT 221 17 = some (.getfield 100, 3) := by decide +kernel
theorem F221_100 : pgFf 221 100 = some (12, 36, 3) := by decide +kernel
theorem D221_20 : pgDecT 221 20 = some (.iload 5, 2) := by decide +kernel
theorem D221_22 : pgDecT 221 22 = some (.iload 4, 2) := by decide +kernel
theorem D221_24 : pgDecT 221 24 = some (.iastore, 1) := by decide +kernel
theorem D221_25 : pgDecT 221 25 = some (.iinc 5 1, 3) := by decide +kernel
theorem D221_28 : pgDecT 221 28 = some (.goto (-19), 3) := by decide +kernel
/-! 221: DictionaryHouseModel.useNode (III)I -/
def l221 : Nat → Nat → Mm → Int → Int → Int → Int → Int → Option (Int × Mm)
  | 0, _, _, _, _, _, _, _ => none
  | f + 1, 9, M, x1, x2, x3, x4, x5 => if 10 ≤ x5 then (if 0 ≤ ((8 : Int) * x1) ∧ ((8 : Int) * x1) < 480 then (if 0 ≤ x1 ∧ x1 < 60 then (f222 (up (up M 88 (Int.toNat ((8 : Int) * x1)) x4) 89 (Int.toNat x1) 1) x2 x4).bind (fun zq15 => if 0 ≤ (((3 : Int) * x2) + x3) ∧ (((3 : Int) * x2) + x3) < 18 then (f223 zq15.2 (zq15.2 59 (Int.toNat (((3 : Int) * x2) + x3)))).bind (fun zq22 => some (zq22.1, zq22.2)) else none) else none) else none) else (if 0 ≤ x5 ∧ x5 < 40 then (if rg (x5 + 1) then (l221 f 9 (up M 83 (Int.toNat x5) x4) x1 x2 x3 x4 (x5 + 1)) else none) else none)
  | _, _, _, _, _, _, _, _ => none
theorem d221 {L : Nat} {xs : Nat → Int32} (f : Nat) : (∀ (M : Mm) (x1 x2 x3 x4 x5 : Int) (h : mvH) (v : Int) (M' : Mm), l221 f 9 M x1 x2 x3 x4 x5 = some (v, M') → rp h M → rg x1 → rg x2 → rg x3 → rg x4 → rg x5 → evx L xs 4 221 9 [(0, .inr (.inr (.inl (some 53)))), (1, .inl (iz x1)), (2, .inl (iz x2)), (3, .inl (iz x3)), (4, .inl (iz x4)), (5, .inl (iz x5))] [] h (.inl (some (.inl v)), 0) M') := by
  induction f with
  | zero => exact (fun M x1 x2 x3 x4 x5 h v M' hs _ _ _ _ _ _ => by cases hs)
  | succ f ih =>
    intro M x1 x2 x3 x4 x5 h v M' hs R rx1 rx2 rx3 rx4 rx5
    rw [l221] at hs
    refine evx_F E221 D221_9 rfl rfl ?_
    refine evx_k (k := 10) E221 D221_11 rfl (by decide) ?_
    by_cases cb7 : 10 ≤ x5
    · rw [if_pos cb7] at hs
      refine evx_F E221 D221_13 rfl (ifT (c2_ge_T rx5 (by decide) cb7)) ?_
      refine evx_F E221 D221_31 rfl rfl ?_
      refine evx_gfr E221 D221_32 F221_115 H53 rfl R ?_
      refine evx_k (k := 8) E221 D221_35 rfl (by decide) ?_
      refine evx_F E221 D221_37 rfl rfl ?_
      refine evx_mul E221 D221_38 ?_
      refine evx_F E221 D221_39 rfl rfl ?_
      obtain ⟨k8, hs⟩ := ck hs
      refine evx_ias E221 D221_41 H88 (by decide) R k8 rx4 ?_
      intro h9 R10
      refine evx_F E221 D221_42 rfl rfl ?_
      refine evx_gfr E221 D221_43 F221_118 H53 rfl R10 ?_
      refine evx_F E221 D221_46 rfl rfl ?_
      refine evx_F E221 D221_47 rfl rfl ?_
      obtain ⟨k11, hs⟩ := ck hs
      refine evx_ias E221 D221_48 H89 (by decide) R10 k11 (by decide) ?_
      intro h12 R13
      refine evx_F E221 D221_49 rfl rfl ?_
      refine evx_F E221 D221_50 rfl rfl ?_
      refine evx_F E221 D221_51 rfl rfl ?_
      obtain ⟨⟨q15, M19⟩, e14, hs⟩ := Option.bind_eq_some_iff.mp hs
      dsimp only at hs
      refine evx_cv (D := 3) E221 D221_53 I221_249 rfl rfl H53 ⟨Nat.le_of_ble_eq_true rfl, Nat.le_of_ble_eq_true rfl⟩ ⟨rfl, Nat.le_of_ble_eq_true rfl⟩ rfl R13 (evx_up (Nat.le_of_ble_eq_true rfl) (c222 R13 rx2 rx4 e14)) ?_
      intro h16 R17 w18
      refine evx_F E221 D221_56 rfl rfl ?_
      refine evx_F E221 D221_57 rfl rfl ?_
      refine evx_gfr E221 D221_58 F221_25 H53 rfl R17 ?_
      refine evx_F E221 D221_61 rfl rfl ?_
      refine evx_F E221 D221_62 rfl rfl ?_
      refine evx_mul E221 D221_63 ?_
      refine evx_F E221 D221_64 rfl rfl ?_
      refine evx_add E221 D221_65 ?_
      obtain ⟨k20, hs⟩ := ck hs
      refine evx_ial E221 D221_66 H59 (by decide) R17 k20 ?_
      obtain ⟨⟨q22, M26⟩, e21, hs⟩ := Option.bind_eq_some_iff.mp hs
      dsimp only at hs
      refine evx_cv (D := 3) E221 D221_67 I221_253 rfl rfl H53 ⟨Nat.le_of_ble_eq_true rfl, Nat.le_of_ble_eq_true rfl⟩ ⟨rfl, Nat.le_of_ble_eq_true rfl⟩ rfl R17 (evx_up (Nat.le_of_ble_eq_true rfl) (c223 R17 (R17.1 59 (Int.toNat (((3 : Int) * x2) + x3))) e21)) ?_
      intro h23 R24 w25
      have w25 : rg q22 := w25
      show evx _ _ _ _ _ _ (.inl (iz q22) :: _) _ _ _
      cases hs
      exact evx_ret E221 D221_70 rfl (fun d => rfl) rfl (show rg _ from w25) R24
    · rw [if_neg cb7] at hs
      refine evx_F E221 D221_13 rfl (ifF (c2_ge_F rx5 (by decide) (by omega))) ?_
      refine evx_F E221 D221_16 rfl rfl ?_
      refine evx_gfr E221 D221_17 F221_100 H53 rfl R ?_
      refine evx_F E221 D221_20 rfl rfl ?_
      refine evx_F E221 D221_22 rfl rfl ?_
      obtain ⟨k27, hs⟩ := ck hs
      refine evx_ias E221 D221_24 H83 (by decide) R k27 rx4 ?_
      intro h28 R29
      refine evx_inc E221 D221_25 (Nat.le_of_ble_eq_true rfl) rfl ?_
      refine evx_F E221 D221_28 rfl rfl ?_
      obtain ⟨k30, hs⟩ := ck hs
      show evx _ _ _ _ _ [(5, .inl (iz (x5 + 1))), (0, .inr (.inr (.inl (some 53)))), (1, .inl (iz x1)), (2, .inl (iz x2)), (3, .inl (iz x3)), (4, .inl (iz x4))] _ _ _ _
      exact evx_lv (lvLe_mk (fm rfl (fm rfl (fm rfl (fm rfl (fm rfl (fm rfl fn)))))) (fm rfl (fm rfl (fm rfl (fm rfl (fm rfl (fm rfl fn)))))) (fm rfl (fm rfl (fm rfl (fm rfl (fm rfl (fm rfl fn))))))) (ih _ _ _ _ _ _ _ _ _ hs R29 rx1 rx2 rx3 rx4 k30)
def f221 (M : Mm) (x1 : Int) (x2 : Int) (x3 : Int) : Option (Int × Mm) := (f213 M).bind (fun zq2 => l221 FU 9 zq2.2 x1 x2 x3 zq2.1 2)
theorem c221 {L : Nat} {xs : Nat → Int32} {h : mvH} {M : Mm} {x1 x2 x3 : Int} {v : Int} {M' : Mm} (R : rp h M) (rx1 : rg x1) (rx2 : rg x2) (rx3 : rg x3) (hs : f221 M x1 x2 x3 = some (v, M')) : evx L xs 4 221 0 [(0, .inr (.inr (.inl (some 53)))), (1, .inl (iz x1)), (2, .inl (iz x2)), (3, .inl (iz x3))] [] h (.inl (some (.inl v)), 0) M' := by
  unfold f221 at hs
  refine evx_F E221 D221_0 rfl rfl ?_
  obtain ⟨⟨q2, M6⟩, e1, hs⟩ := Option.bind_eq_some_iff.mp hs
  dsimp only at hs
  refine evx_cv (D := 3) E221 D221_1 I221_236 rfl rfl H53 ⟨Nat.le_of_ble_eq_true rfl, Nat.le_of_ble_eq_true rfl⟩ ⟨rfl, Nat.le_of_ble_eq_true rfl⟩ rfl R (evx_up (Nat.le_of_ble_eq_true rfl) (c213 R  e1)) ?_
  intro h3 R4 w5
  have w5 : rg q2 := w5
  show evx _ _ _ _ _ _ (.inl (iz q2) :: _) _ _ _
  refine evx_F E221 D221_4 rfl rfl ?_
  refine evx_F E221 D221_6 rfl rfl ?_
  refine evx_F E221 D221_7 rfl rfl ?_
  show evx _ _ _ _ _ [(5, .inl (iz 2)), (4, .inl (iz q2)), (0, .inr (.inr (.inl (some 53)))), (1, .inl (iz x1)), (2, .inl (iz x2)), (3, .inl (iz x3))] _ _ _ _
  exact evx_lv (lvLe_mk (fm rfl (fm rfl (fm rfl (fm rfl (fm rfl (fm rfl fn)))))) (fm rfl (fm rfl (fm rfl (fm rfl (fm rfl (fm rfl fn)))))) (fm rfl (fm rfl (fm rfl (fm rfl (fm rfl (fm rfl fn))))))) ((d221 FU) _ _ _ _ _ _ _ _ _ hs R4 rx1 rx2 rx3 w5 (by decide))
set_option maxRecDepth 20000 in
theorem E224 : pgMm 224 = some (⟨"DictionaryHouseModel", "givenNode", "(II)I"⟩, prog_14_method_36_code, 4, (some .int), []) := rfl
theorem D224_0 : pgDecT 224 0 = some (.iconst 0, 1) := by decide +kernel
theorem D224_1 : pgDecT 224 1 = some (.istore_n 3, 1) := by decide +kernel
theorem D224_2 : pgDecT 224 2 = some (.iload_n 3, 1) := by decide +kernel
theorem D224_3 : pgDecT 224 3 = some (.bipush 8, 2) := by decide +kernel
theorem D224_5 : pgDecT 224 5 = some (.if_icmp .ge 40, 3) := by decide +kernel
theorem D224_45 : pgDecT 224 45 = some (.aload_n 0, 1) := by decide +kernel
theorem D224_46 : pgDecT 224 46 = some (.getfield 118, 3) := by decide +kernel
theorem F224_118 : pgFf 224 118 = some (12, 42, 3) := by decide +kernel
theorem D224_49 : pgDecT 224 49 = some (.iload_n 1, 1) := by decide +kernel
theorem D224_50 : pgDecT 224 50 = some (.aload_n 0, 1) := by decide +kernel
theorem D224_51 : pgDecT 224 51 = some (.getfield 56, 3) := by decide +kernel
theorem F224_56 : pgFf 224 56 = some (12, 20, 3) := by decide +kernel
theorem D224_54 : pgDecT 224 54 = some (.iload_n 2, 1) := by decide +kernel
theorem D224_55 : pgDecT 224 55 = some (.iaload, 1) := by decide +kernel
theorem D224_56 : pgDecT 224 56 = some (.iastore, 1) := by decide +kernel
theorem D224_57 : pgDecT 224 57 = some (.iconst 0, 1) := by decide +kernel
theorem D224_58 : pgDecT 224 58 = some (.istore_n 3, 1) := by decide +kernel
theorem D224_59 : pgDecT 224 59 = some (.iload_n 3, 1) := by decide +kernel
theorem D224_8 : pgDecT 224 8 = some (.aload_n 0, 1) := by decide +kernel
theorem D224_9 : pgDecT 224 9 = some (.getfield 100, 3) := by decide +kernel
theorem F224_100 : pgFf 224 100 = some (12, 36, 3) := by decide +kernel
theorem D224_12 : pgDecT 224 12 = some (.iconst 2, 1) := by decide +kernel
theorem D224_13 : pgDecT 224 13 = some (.iload_n 3, 1) := by decide +kernel
theorem D224_14 : pgDecT 224 14 = some (.iadd, 1) := by decide +kernel
theorem D224_15 : pgDecT 224 15 = some (.aload_n 0, 1) := by decide +kernel
theorem D224_16 : pgDecT 224 16 = some (.invokevirtual 236, 3) := by decide +kernel
theorem I224_236 : pgIi 224 236 = some (213, 0, 12) := by decide +kernel
theorem D224_19 : pgDecT 224 19 = some (.iastore, 1) := by decide +kernel
theorem D224_20 : pgDecT 224 20 = some (.aload_n 0, 1) := by decide +kernel
theorem D224_21 : pgDecT 224 21 = some (.getfield 115, 3) := by decide +kernel
theorem F224_115 : pgFf 224 115 = some (12, 41, 3) := by decide +kernel
theorem D224_24 : pgDecT 224 24 = some (.bipush 8, 2) := by decide +kernel
theorem D224_26 : pgDecT 224 26 = some (.iload_n 1, 1) := by decide +kernel
theorem D224_27 : pgDecT 224 27 = some (.imul, 1) := by decide +kernel
theorem D224_28 : pgDecT 224 28 = some (.iload_n 3, 1) := by decide +kernel
theorem D224_29 : pgDecT 224 29 = some (.iadd, 1) := by decide +kernel
theorem D224_30 : pgDecT 224 30 = some (.aload_n 0, 1) := by decide +kernel
theorem D224_31 : pgDecT 224 31 = some (.getfield 100, 3) := by decide +kernel
theorem D224_34 : pgDecT 224 34 = some (.iconst 2, 1) := by decide +kernel
theorem D224_35 : pgDecT 224 35 = some (.iload_n 3, 1) := by decide +kernel
theorem D224_36 : pgDecT 224 36 = some (.iadd, 1) := by decide +kernel
theorem D224_37 : pgDecT 224 37 = some (.iaload, 1) := by decide +kernel
theorem D224_38 : pgDecT 224 38 = some (.iastore, 1) := by decide +kernel
theorem D224_39 : pgDecT 224 39 = some (.iinc 3 1, 3) := by decide +kernel
theorem D224_42 : pgDecT 224 42 = some (.goto (-40), 3) := by decide +kernel
theorem D224_60 : pgDecT 224 60 = some (.aload_n 0, 1) := by decide +kernel
theorem D224_61 : pgDecT 224 61 = some (.getfield 59, 3) := by decide +kernel
theorem F224_59 : pgFf 224 59 = some (12, 21, 3) := by decide +kernel
theorem D224_64 : pgDecT 224 64 = some (.iload_n 2, 1) := by decide +kernel
theorem D224_65 : pgDecT 224 65 = some (.iaload, 1) := by decide +kernel
theorem D224_66 : pgDecT 224 66 = some (.if_icmp .ge 48, 3) := by decide +kernel
theorem D224_114 : pgDecT 224 114 = some (.aload_n 0, 1) := by decide +kernel
theorem D224_115 : pgDecT 224 115 = some (.aload_n 0, 1) := by decide +kernel
theorem D224_116 : pgDecT 224 116 = some (.getfield 53, 3) := by decide +kernel
theorem F224_53 : pgFf 224 53 = some (12, 19, 3) := by decide +kernel
theorem D224_119 : pgDecT 224 119 = some (.iload_n 2, 1) := by decide +kernel
theorem D224_120 : pgDecT 224 120 = some (.iaload, 1) := by decide +kernel
theorem D224_121 : pgDecT 224 121 = some (.invokevirtual 253, 3) := by decide +kernel
theorem I224_253 : pgIi 224 253 = some (223, 1, 12) := by decide +kernel
theorem D224_124 : pgDecT 224 124 = some (.ireturn, 1) := by decide +kernel
theorem D224_69 : pgDecT 224 69 = some (.aload_n 0, 1) := by decide +kernel
theorem D224_70 : pgDecT 224 70 = some (.aload_n 0, 1) := by decide +kernel
theorem D224_71 : pgDecT 224 71 = some (.getfield 62, 3) := by decide +kernel
theorem F224_62 : pgFf 224 62 = some (12, 22, 3) := by decide +kernel
theorem D224_74 : pgDecT 224 74 = some (.bipush 8, 2) := by decide +kernel
theorem D224_76 : pgDecT 224 76 = some (.iload_n 2, 1) := by decide +kernel
theorem D224_77 : pgDecT 224 77 = some (.imul, 1) := by decide +kernel
theorem D224_78 : pgDecT 224 78 = some (.iload_n 3, 1) := by decide +kernel
theorem D224_79 : pgDecT 224 79 = some (.iadd, 1) := by decide +kernel
theorem D224_80 : pgDecT 224 80 = some (.iaload, 1) := by decide +kernel
theorem D224_81 : pgDecT 224 81 = some (.bipush 8, 2) := by decide +kernel
theorem D224_83 : pgDecT 224 83 = some (.idiv, 1) := by decide +kernel
theorem D224_84 : pgDecT 224 84 = some (.aload_n 0, 1) := by decide +kernel
theorem D224_85 : pgDecT 224 85 = some (.getfield 100, 3) := by decide +kernel
theorem D224_88 : pgDecT 224 88 = some (.iconst 2, 1) := by decide +kernel
theorem D224_89 : pgDecT 224 89 = some (.aload_n 0, 1) := by decide +kernel
theorem D224_90 : pgDecT 224 90 = some (.getfield 62, 3) := by decide +kernel
theorem D224_93 : pgDecT 224 93 = some (.bipush 8, 2) := by decide +kernel
theorem D224_95 : pgDecT 224 95 = some (.iload_n 2, 1) := by decide +kernel
theorem D224_96 : pgDecT 224 96 = some (.imul, 1) := by decide +kernel
theorem D224_97 : pgDecT 224 97 = some (.iload_n 3, 1) := by decide +kernel
theorem D224_98 : pgDecT 224 98 = some (.iadd, 1) := by decide +kernel
theorem D224_99 : pgDecT 224 99 = some (.iaload, 1) := by decide +kernel
theorem D224_100 : pgDecT 224 100 = some (.bipush 8, 2) := by decide +kernel
theorem D224_102 : pgDecT 224 102 = some (.irem, 1) := by decide +kernel
theorem D224_103 : pgDecT 224 103 = some (.iadd, 1) := by decide +kernel
theorem D224_104 : pgDecT 224 104 = some (.iaload, 1) := by decide +kernel
theorem D224_105 : pgDecT 224 105 = some (.invokevirtual 249, 3) := by decide +kernel
theorem I224_249 : pgIi 224 249 = some (222, 2, 12) := by decide +kernel
theorem D224_108 : pgDecT 224 108 = some (.iinc 3 1, 3) := by decide +kernel
theorem D224_111 : pgDecT 224 111 = some (.goto (-52), 3) := by decide +kernel
/-! 224: DictionaryHouseModel.givenNode (II)I -/
def l224 : Nat → Nat → Mm → Int → Int → Int → Option (Int × Mm)
  | 0, _, _, _, _, _ => none
  | f + 1, 2, M, x1, x2, x3 => if 8 ≤ x3 then (if 0 ≤ x2 ∧ x2 < 20 then (if 0 ≤ x1 ∧ x1 < 60 then (l224 f 59 (up M 89 (Int.toNat x1) (M 69 (Int.toNat x2))) x1 x2 0) else none) else none) else (f213 M).bind (fun zq7 => if 0 ≤ ((2 : Int) + x3) ∧ ((2 : Int) + x3) < 40 then (if 0 ≤ (((8 : Int) * x1) + x3) ∧ (((8 : Int) * x1) + x3) < 480 then (if rg (x3 + 1) then (l224 f 2 (up (up zq7.2 83 (Int.toNat ((2 : Int) + x3)) zq7.1) 88 (Int.toNat (((8 : Int) * x1) + x3)) ((up zq7.2 83 (Int.toNat ((2 : Int) + x3)) zq7.1) 83 (Int.toNat ((2 : Int) + x3)))) x1 x2 (x3 + 1)) else none) else none) else none)
  | f + 1, 59, M, x1, x2, x3 => if 0 ≤ x2 ∧ x2 < 20 then (if (M 70 (Int.toNat x2)) ≤ x3 then (f223 M (M 68 (Int.toNat x2))).bind (fun zq22 => some (zq22.1, zq22.2)) else (if 0 ≤ (((8 : Int) * x2) + x3) ∧ (((8 : Int) * x2) + x3) < 160 then (if 0 ≤ (M 71 (Int.toNat (((8 : Int) * x2) + x3))) ∧ (M 71 (Int.toNat (((8 : Int) * x2) + x3))) < 2147483648 then (if 0 ≤ ((2 : Int) + ((M 71 (Int.toNat (((8 : Int) * x2) + x3))) % 8)) ∧ ((2 : Int) + ((M 71 (Int.toNat (((8 : Int) * x2) + x3))) % 8)) < 40 then (if rg ((M 71 (Int.toNat (((8 : Int) * x2) + x3))) / 8) then (f222 M ((M 71 (Int.toNat (((8 : Int) * x2) + x3))) / 8) (M 83 (Int.toNat ((2 : Int) + ((M 71 (Int.toNat (((8 : Int) * x2) + x3))) % 8))))).bind (fun zq32 => if rg (x3 + 1) then (l224 f 59 zq32.2 x1 x2 (x3 + 1)) else none) else none) else none) else none) else none)) else none
  | _, _, _, _, _, _ => none
theorem d224 {L : Nat} {xs : Nat → Int32} (f : Nat) : (∀ (M : Mm) (x1 x2 x3 : Int) (h : mvH) (v : Int) (M' : Mm), l224 f 2 M x1 x2 x3 = some (v, M') → rp h M → rg x1 → rg x2 → rg x3 → evx L xs 4 224 2 [(0, .inr (.inr (.inl (some 53)))), (1, .inl (iz x1)), (2, .inl (iz x2)), (3, .inl (iz x3))] [] h (.inl (some (.inl v)), 0) M') ∧ (∀ (M : Mm) (x1 x2 x3 : Int) (h : mvH) (v : Int) (M' : Mm), l224 f 59 M x1 x2 x3 = some (v, M') → rp h M → rg x1 → rg x2 → rg x3 → evx L xs 4 224 59 [(0, .inr (.inr (.inl (some 53)))), (1, .inl (iz x1)), (2, .inl (iz x2)), (3, .inl (iz x3))] [] h (.inl (some (.inl v)), 0) M') := by
  induction f with
  | zero => exact ⟨(fun M x1 x2 x3 h v M' hs _ _ _ _ => by cases hs), (fun M x1 x2 x3 h v M' hs _ _ _ _ => by cases hs)⟩
  | succ f ih =>
    refine ⟨?_, ?_⟩
    · intro M x1 x2 x3 h v M' hs R rx1 rx2 rx3
      rw [l224] at hs
      refine evx_F E224 D224_2 rfl rfl ?_
      refine evx_k (k := 8) E224 D224_3 rfl (by decide) ?_
      by_cases cb1 : 8 ≤ x3
      · rw [if_pos cb1] at hs
        refine evx_F E224 D224_5 rfl (ifT (c2_ge_T rx3 (by decide) cb1)) ?_
        refine evx_F E224 D224_45 rfl rfl ?_
        refine evx_gfr E224 D224_46 F224_118 H53 rfl R ?_
        refine evx_F E224 D224_49 rfl rfl ?_
        refine evx_F E224 D224_50 rfl rfl ?_
        refine evx_gfr E224 D224_51 F224_56 H53 rfl R ?_
        refine evx_F E224 D224_54 rfl rfl ?_
        obtain ⟨k2, hs⟩ := ck hs
        refine evx_ial E224 D224_55 H69 (by decide) R k2 ?_
        obtain ⟨k3, hs⟩ := ck hs
        refine evx_ias E224 D224_56 H89 (by decide) R k3 (R.1 69 (Int.toNat x2)) ?_
        intro h4 R5
        refine evx_F E224 D224_57 rfl rfl ?_
        refine evx_F E224 D224_58 rfl rfl ?_
        show evx _ _ _ _ _ [(3, .inl (iz 0)), (0, .inr (.inr (.inl (some 53)))), (1, .inl (iz x1)), (2, .inl (iz x2))] _ _ _ _
        exact evx_lv (lvLe_mk (fm rfl (fm rfl (fm rfl (fm rfl fn)))) (fm rfl (fm rfl (fm rfl (fm rfl fn)))) (fm rfl (fm rfl (fm rfl (fm rfl fn))))) (ih.2 _ _ _ _ _ _ _ hs R5 rx1 rx2 (by decide))
      · rw [if_neg cb1] at hs
        refine evx_F E224 D224_5 rfl (ifF (c2_ge_F rx3 (by decide) (by omega))) ?_
        refine evx_F E224 D224_8 rfl rfl ?_
        refine evx_gfr E224 D224_9 F224_100 H53 rfl R ?_
        refine evx_F E224 D224_12 rfl rfl ?_
        refine evx_F E224 D224_13 rfl rfl ?_
        refine evx_add E224 D224_14 ?_
        refine evx_F E224 D224_15 rfl rfl ?_
        obtain ⟨⟨q7, M11⟩, e6, hs⟩ := Option.bind_eq_some_iff.mp hs
        dsimp only at hs
        refine evx_cv (D := 3) E224 D224_16 I224_236 rfl rfl H53 ⟨Nat.le_of_ble_eq_true rfl, Nat.le_of_ble_eq_true rfl⟩ ⟨rfl, Nat.le_of_ble_eq_true rfl⟩ rfl R (evx_up (Nat.le_of_ble_eq_true rfl) (c213 R  e6)) ?_
        intro h8 R9 w10
        have w10 : rg q7 := w10
        show evx _ _ _ _ _ _ (.inl (iz q7) :: _) _ _ _
        obtain ⟨k12, hs⟩ := ck hs
        refine evx_ias E224 D224_19 H83 (by decide) R9 k12 w10 ?_
        intro h13 R14
        refine evx_F E224 D224_20 rfl rfl ?_
        refine evx_gfr E224 D224_21 F224_115 H53 rfl R14 ?_
        refine evx_k (k := 8) E224 D224_24 rfl (by decide) ?_
        refine evx_F E224 D224_26 rfl rfl ?_
        refine evx_mul E224 D224_27 ?_
        refine evx_F E224 D224_28 rfl rfl ?_
        refine evx_add E224 D224_29 ?_
        refine evx_F E224 D224_30 rfl rfl ?_
        refine evx_gfr E224 D224_31 F224_100 H53 rfl R14 ?_
        refine evx_F E224 D224_34 rfl rfl ?_
        refine evx_F E224 D224_35 rfl rfl ?_
        refine evx_add E224 D224_36 ?_
        refine evx_ial E224 D224_37 H83 (by decide) R14 k12 ?_
        obtain ⟨k15, hs⟩ := ck hs
        refine evx_ias E224 D224_38 H88 (by decide) R14 k15 (R14.1 83 (Int.toNat ((2 : Int) + x3))) ?_
        intro h16 R17
        refine evx_inc E224 D224_39 (Nat.le_of_ble_eq_true rfl) rfl ?_
        refine evx_F E224 D224_42 rfl rfl ?_
        obtain ⟨k18, hs⟩ := ck hs
        show evx _ _ _ _ _ [(3, .inl (iz (x3 + 1))), (0, .inr (.inr (.inl (some 53)))), (1, .inl (iz x1)), (2, .inl (iz x2))] _ _ _ _
        exact evx_lv (lvLe_mk (fm rfl (fm rfl (fm rfl (fm rfl fn)))) (fm rfl (fm rfl (fm rfl (fm rfl fn)))) (fm rfl (fm rfl (fm rfl (fm rfl fn))))) (ih.1 _ _ _ _ _ _ _ hs R17 rx1 rx2 k18)
    · intro M x1 x2 x3 h v M' hs R rx1 rx2 rx3
      rw [l224] at hs
      refine evx_F E224 D224_59 rfl rfl ?_
      refine evx_F E224 D224_60 rfl rfl ?_
      refine evx_gfr E224 D224_61 F224_59 H53 rfl R ?_
      refine evx_F E224 D224_64 rfl rfl ?_
      obtain ⟨k19, hs⟩ := ck hs
      refine evx_ial E224 D224_65 H70 (by decide) R k19 ?_
      by_cases cb20 : (M 70 (Int.toNat x2)) ≤ x3
      · rw [if_pos cb20] at hs
        refine evx_F E224 D224_66 rfl (ifT (c2_ge_T rx3 (R.1 70 (Int.toNat x2)) cb20)) ?_
        refine evx_F E224 D224_114 rfl rfl ?_
        refine evx_F E224 D224_115 rfl rfl ?_
        refine evx_gfr E224 D224_116 F224_53 H53 rfl R ?_
        refine evx_F E224 D224_119 rfl rfl ?_
        refine evx_ial E224 D224_120 H68 (by decide) R k19 ?_
        obtain ⟨⟨q22, M26⟩, e21, hs⟩ := Option.bind_eq_some_iff.mp hs
        dsimp only at hs
        refine evx_cv (D := 3) E224 D224_121 I224_253 rfl rfl H53 ⟨Nat.le_of_ble_eq_true rfl, Nat.le_of_ble_eq_true rfl⟩ ⟨rfl, Nat.le_of_ble_eq_true rfl⟩ rfl R (evx_up (Nat.le_of_ble_eq_true rfl) (c223 R (R.1 68 (Int.toNat x2)) e21)) ?_
        intro h23 R24 w25
        have w25 : rg q22 := w25
        show evx _ _ _ _ _ _ (.inl (iz q22) :: _) _ _ _
        cases hs
        exact evx_ret E224 D224_124 rfl (fun d => rfl) rfl (show rg _ from w25) R24
      · rw [if_neg cb20] at hs
        refine evx_F E224 D224_66 rfl (ifF (c2_ge_F rx3 (R.1 70 (Int.toNat x2)) (by omega))) ?_
        refine evx_F E224 D224_69 rfl rfl ?_
        refine evx_F E224 D224_70 rfl rfl ?_
        refine evx_gfr E224 D224_71 F224_62 H53 rfl R ?_
        refine evx_k (k := 8) E224 D224_74 rfl (by decide) ?_
        refine evx_F E224 D224_76 rfl rfl ?_
        refine evx_mul E224 D224_77 ?_
        refine evx_F E224 D224_78 rfl rfl ?_
        refine evx_add E224 D224_79 ?_
        obtain ⟨k27, hs⟩ := ck hs
        refine evx_ial E224 D224_80 H71 (by decide) R k27 ?_
        refine evx_k (k := 8) E224 D224_81 rfl (by decide) ?_
        obtain ⟨k28, hs⟩ := ck hs
        refine evx_div E224 D224_83 k28 (by decide) ?_
        refine evx_F E224 D224_84 rfl rfl ?_
        refine evx_gfr E224 D224_85 F224_100 H53 rfl R ?_
        refine evx_F E224 D224_88 rfl rfl ?_
        refine evx_F E224 D224_89 rfl rfl ?_
        refine evx_gfr E224 D224_90 F224_62 H53 rfl R ?_
        refine evx_k (k := 8) E224 D224_93 rfl (by decide) ?_
        refine evx_F E224 D224_95 rfl rfl ?_
        refine evx_mul E224 D224_96 ?_
        refine evx_F E224 D224_97 rfl rfl ?_
        refine evx_add E224 D224_98 ?_
        refine evx_ial E224 D224_99 H71 (by decide) R k27 ?_
        refine evx_k (k := 8) E224 D224_100 rfl (by decide) ?_
        refine evx_rem E224 D224_102 k28 (by decide) ?_
        refine evx_add E224 D224_103 ?_
        obtain ⟨k29, hs⟩ := ck hs
        refine evx_ial E224 D224_104 H83 (by decide) R k29 ?_
        obtain ⟨k30, hs⟩ := ck hs
        obtain ⟨⟨q32, M36⟩, e31, hs⟩ := Option.bind_eq_some_iff.mp hs
        dsimp only at hs
        refine evx_cv (D := 3) E224 D224_105 I224_249 rfl rfl H53 ⟨Nat.le_of_ble_eq_true rfl, Nat.le_of_ble_eq_true rfl⟩ ⟨rfl, Nat.le_of_ble_eq_true rfl⟩ rfl R (evx_up (Nat.le_of_ble_eq_true rfl) (c222 R k30 (R.1 83 (Int.toNat ((2 : Int) + ((M 71 (Int.toNat (((8 : Int) * x2) + x3))) % 8)))) e31)) ?_
        intro h33 R34 w35
        refine evx_inc E224 D224_108 (Nat.le_of_ble_eq_true rfl) rfl ?_
        refine evx_F E224 D224_111 rfl rfl ?_
        obtain ⟨k37, hs⟩ := ck hs
        show evx _ _ _ _ _ [(3, .inl (iz (x3 + 1))), (0, .inr (.inr (.inl (some 53)))), (1, .inl (iz x1)), (2, .inl (iz x2))] _ _ _ _
        exact evx_lv (lvLe_mk (fm rfl (fm rfl (fm rfl (fm rfl fn)))) (fm rfl (fm rfl (fm rfl (fm rfl fn)))) (fm rfl (fm rfl (fm rfl (fm rfl fn))))) (ih.2 _ _ _ _ _ _ _ hs R34 rx1 rx2 k37)
def f224 (M : Mm) (x1 : Int) (x2 : Int) : Option (Int × Mm) := l224 FU 2 M x1 x2 0
theorem c224 {L : Nat} {xs : Nat → Int32} {h : mvH} {M : Mm} {x1 x2 : Int} {v : Int} {M' : Mm} (R : rp h M) (rx1 : rg x1) (rx2 : rg x2) (hs : f224 M x1 x2 = some (v, M')) : evx L xs 4 224 0 [(0, .inr (.inr (.inl (some 53)))), (1, .inl (iz x1)), (2, .inl (iz x2))] [] h (.inl (some (.inl v)), 0) M' := by
  unfold f224 at hs
  refine evx_F E224 D224_0 rfl rfl ?_
  refine evx_F E224 D224_1 rfl rfl ?_
  show evx _ _ _ _ _ [(3, .inl (iz 0)), (0, .inr (.inr (.inl (some 53)))), (1, .inl (iz x1)), (2, .inl (iz x2))] _ _ _ _
  exact evx_lv (lvLe_mk (fm rfl (fm rfl (fm rfl (fm rfl fn)))) (fm rfl (fm rfl (fm rfl (fm rfl fn)))) (fm rfl (fm rfl (fm rfl (fm rfl fn))))) ((d224 FU).1 _ _ _ _ _ _ _ hs R rx1 rx2 (by decide))
set_option maxRecDepth 20000 in
theorem E228 : pgMm 228 = some (⟨"DictionaryHouseModel", "follow", "(II)V"⟩, prog_14_method_42_code, 8, none, []) := rfl
theorem D228_0 : pgDecT 228 0 = some (.iload_n 1, 1) := by decide +kernel
theorem D228_1 : pgDecT 228 1 = some (.istore_n 3, 1) := by decide +kernel
theorem D228_2 : pgDecT 228 2 = some (.aload_n 0, 1) := by decide +kernel
theorem D228_3 : pgDecT 228 3 = some (.iload_n 2, 1) := by decide +kernel
theorem D228_4 : pgDecT 228 4 = some (.invokevirtual 240, 3) := by decide +kernel
theorem I228_240 : pgIi 228 240 = some (217, 1, 12) := by decide +kernel
theorem D228_7 : pgDecT 228 7 = some (.istore 4, 2) := by decide +kernel
theorem D228_9 : pgDecT 228 9 = some (.iconst 0, 1) := by decide +kernel
theorem D228_10 : pgDecT 228 10 = some (.istore 5, 2) := by decide +kernel
theorem D228_12 : pgDecT 228 12 = some (.aload_n 0, 1) := by decide +kernel
theorem D228_13 : pgDecT 228 13 = some (.getfield 79, 3) := by decide +kernel
theorem F228_79 : pgFf 228 79 = some (12, 29, 3) := by decide +kernel
theorem D228_16 : pgDecT 228 16 = some (.iload 4, 2) := by decide +kernel
theorem D228_18 : pgDecT 228 18 = some (.iaload, 1) := by decide +kernel
theorem D228_19 : pgDecT 228 19 = some (.iconst 3, 1) := by decide +kernel
theorem D228_20 : pgDecT 228 20 = some (.if_icmp .ne 60, 3) := by decide +kernel
theorem D228_80 : pgDecT 228 80 = some (.aload_n 0, 1) := by decide +kernel
theorem D228_81 : pgDecT 228 81 = some (.aload_n 0, 1) := by decide +kernel
theorem D228_82 : pgDecT 228 82 = some (.getfield 282, 3) := by decide +kernel
theorem F228_282 : pgFf 228 282 = some (12, 49, 1) := by decide +kernel
theorem D228_85 : pgDecT 228 85 = some (.ifCond .ne 9, 3) := by decide +kernel
theorem D228_94 : pgDecT 228 94 = some (.iconst 1, 1) := by decide +kernel
theorem D228_95 : pgDecT 228 95 = some (.goto 4, 3) := by decide +kernel
theorem D228_99 : pgDecT 228 99 = some (.putfield 282, 3) := by decide +kernel
theorem D228_102 : pgDecT 228 102 = some (.aload_n 0, 1) := by decide +kernel
theorem D228_103 : pgDecT 228 103 = some (.getfield 79, 3) := by decide +kernel
theorem D228_106 : pgDecT 228 106 = some (.iload 4, 2) := by decide +kernel
theorem D228_108 : pgDecT 228 108 = some (.iaload, 1) := by decide +kernel
theorem D228_109 : pgDecT 228 109 = some (.istore 6, 2) := by decide +kernel
theorem D228_111 : pgDecT 228 111 = some (.iload 6, 2) := by decide +kernel
theorem D228_113 : pgDecT 228 113 = some (.iconst 3, 1) := by decide +kernel
theorem D228_114 : pgDecT 228 114 = some (.if_icmp .ne 35, 3) := by decide +kernel
theorem D228_149 : pgDecT 228 149 = some (.iload 6, 2) := by decide +kernel
theorem D228_151 : pgDecT 228 151 = some (.iconst 4, 1) := by decide +kernel
theorem D228_152 : pgDecT 228 152 = some (.if_icmp .ne 11, 3) := by decide +kernel
theorem D228_163 : pgDecT 228 163 = some (.iload 6, 2) := by decide +kernel
theorem D228_165 : pgDecT 228 165 = some (.iconst 2, 1) := by decide +kernel
theorem D228_166 : pgDecT 228 166 = some (.if_icmp .ge 36, 3) := by decide +kernel
theorem D228_202 : pgDecT 228 202 = some (.iload 6, 2) := by decide +kernel
theorem D228_204 : pgDecT 228 204 = some (.iconst 5, 1) := by decide +kernel
theorem D228_205 : pgDecT 228 205 = some (.if_icmp .ne 42, 3) := by decide +kernel
theorem D228_247 : pgDecT 228 247 = some (.aload_n 0, 1) := by decide +kernel
theorem D228_248 : pgDecT 228 248 = some (.iload 4, 2) := by decide +kernel
theorem D228_250 : pgDecT 228 250 = some (.invokevirtual 298, 3) := by decide +kernel
theorem I228_298 : pgIi 228 298 = some (230, 1, 12) := by decide +kernel
theorem D228_253 : pgDecT 228 253 = some (.istore 7, 2) := by decide +kernel
theorem D228_255 : pgDecT 228 255 = some (.iload 7, 2) := by decide +kernel
theorem D228_257 : pgDecT 228 257 = some (.iconst (-1), 1) := by decide +kernel
theorem D228_258 : pgDecT 228 258 = some (.if_icmp .ne 11, 3) := by decide +kernel
theorem D228_269 : pgDecT 228 269 = some (.aload_n 0, 1) := by decide +kernel
theorem D228_270 : pgDecT 228 270 = some (.getfield 130, 3) := by decide +kernel
theorem F228_130 : pgFf 228 130 = some (12, 52, 3) := by decide +kernel
theorem D228_273 : pgDecT 228 273 = some (.iload 7, 2) := by decide +kernel
theorem D228_275 : pgDecT 228 275 = some (.aload_n 0, 1) := by decide +kernel
theorem D228_276 : pgDecT 228 276 = some (.getfield 130, 3) := by decide +kernel
theorem D228_279 : pgDecT 228 279 = some (.iload 7, 2) := by decide +kernel
theorem D228_281 : pgDecT 228 281 = some (.iaload, 1) := by decide +kernel
theorem D228_282 : pgDecT 228 282 = some (.iconst 1, 1) := by decide +kernel
theorem D228_283 : pgDecT 228 283 = some (.iload_n 3, 1) := by decide +kernel
theorem D228_284 : pgDecT 228 284 = some (.ishl, 1) := by decide +kernel
theorem D228_285 : pgDecT 228 285 = some (.ior, 1) := by decide +kernel
theorem D228_286 : pgDecT 228 286 = some (.iastore, 1) := by decide +kernel
theorem D228_287 : pgDecT 228 287 = some (.return_, 1) := by decide +kernel
theorem D228_261 : pgDecT 228 261 = some (.aload_n 0, 1) := by decide +kernel
theorem D228_262 : pgDecT 228 262 = some (.iconst 1, 1) := by decide +kernel
theorem D228_263 : pgDecT 228 263 = some (.putfield 289, 3) := by decide +kernel
theorem F228_289 : pgFf 228 289 = some (12, 48, 1) := by decide +kernel
theorem D228_266 : pgDecT 228 266 = some (.goto 21, 3) := by decide +kernel
theorem D228_208 : pgDecT 228 208 = some (.aload_n 0, 1) := by decide +kernel
theorem D228_209 : pgDecT 228 209 = some (.aload_n 0, 1) := by decide +kernel
theorem D228_210 : pgDecT 228 210 = some (.getfield 289, 3) := by decide +kernel
theorem D228_213 : pgDecT 228 213 = some (.ifCond .ne 23, 3) := by decide +kernel
theorem D228_236 : pgDecT 228 236 = some (.iconst 1, 1) := by decide +kernel
theorem D228_237 : pgDecT 228 237 = some (.goto 4, 3) := by decide +kernel
theorem D228_241 : pgDecT 228 241 = some (.putfield 289, 3) := by decide +kernel
theorem D228_244 : pgDecT 228 244 = some (.goto 43, 3) := by decide +kernel
theorem D228_216 : pgDecT 228 216 = some (.aload_n 0, 1) := by decide +kernel
theorem D228_217 : pgDecT 228 217 = some (.getfield 292, 3) := by decide +kernel
theorem F228_292 : pgFf 228 292 = some (12, 53, 0) := by decide +kernel
theorem D228_220 : pgDecT 228 220 = some (.iconst (-1), 1) := by decide +kernel
theorem D228_221 : pgDecT 228 221 = some (.if_icmp .eq 15, 3) := by decide +kernel
theorem D228_224 : pgDecT 228 224 = some (.aload_n 0, 1) := by decide +kernel
theorem D228_225 : pgDecT 228 225 = some (.aload_n 0, 1) := by decide +kernel
theorem D228_226 : pgDecT 228 226 = some (.getfield 292, 3) := by decide +kernel
theorem D228_229 : pgDecT 228 229 = some (.iload_n 3, 1) := by decide +kernel
theorem D228_230 : pgDecT 228 230 = some (.invokevirtual 295, 3) := by decide +kernel
theorem I228_295 : pgIi 228 295 = some (229, 2, 12) := by decide +kernel
theorem D228_233 : pgDecT 228 233 = some (.ifCond .ne 7, 3) := by decide +kernel
theorem D228_240 : pgDecT 228 240 = some (.iconst 0, 1) := by decide +kernel
theorem D228_169 : pgDecT 228 169 = some (.aload_n 0, 1) := by decide +kernel
theorem D228_170 : pgDecT 228 170 = some (.aload_n 0, 1) := by decide +kernel
theorem D228_171 : pgDecT 228 171 = some (.getfield 286, 3) := by decide +kernel
theorem F228_286 : pgFf 228 286 = some (12, 47, 1) := by decide +kernel
theorem D228_174 : pgDecT 228 174 = some (.ifCond .ne 17, 3) := by decide +kernel
theorem D228_191 : pgDecT 228 191 = some (.iconst 1, 1) := by decide +kernel
theorem D228_192 : pgDecT 228 192 = some (.goto 4, 3) := by decide +kernel
theorem D228_196 : pgDecT 228 196 = some (.putfield 286, 3) := by decide +kernel
theorem D228_199 : pgDecT 228 199 = some (.goto 88, 3) := by decide +kernel
theorem D228_177 : pgDecT 228 177 = some (.aload_n 0, 1) := by decide +kernel
theorem D228_178 : pgDecT 228 178 = some (.getfield 28, 3) := by decide +kernel
theorem F228_28 : pgFf 228 28 = some (12, 9, 3) := by decide +kernel
theorem D228_181 : pgDecT 228 181 = some (.iconst 3, 1) := by decide +kernel
theorem D228_182 : pgDecT 228 182 = some (.iload_n 3, 1) := by decide +kernel
theorem D228_183 : pgDecT 228 183 = some (.imul, 1) := by decide +kernel
theorem D228_184 : pgDecT 228 184 = some (.iload 6, 2) := by decide +kernel
theorem D228_186 : pgDecT 228 186 = some (.iadd, 1) := by decide +kernel
theorem D228_187 : pgDecT 228 187 = some (.baload, 1) := by decide +kernel
theorem D228_188 : pgDecT 228 188 = some (.ifCond .ne 7, 3) := by decide +kernel
theorem D228_195 : pgDecT 228 195 = some (.iconst 0, 1) := by decide +kernel
theorem D228_155 : pgDecT 228 155 = some (.aload_n 0, 1) := by decide +kernel
theorem D228_156 : pgDecT 228 156 = some (.iconst 1, 1) := by decide +kernel
theorem D228_157 : pgDecT 228 157 = some (.putfield 286, 3) := by decide +kernel
theorem D228_160 : pgDecT 228 160 = some (.goto 127, 3) := by decide +kernel
theorem D228_117 : pgDecT 228 117 = some (.aload_n 0, 1) := by decide +kernel
theorem D228_118 : pgDecT 228 118 = some (.aload_n 0, 1) := by decide +kernel
theorem D228_119 : pgDecT 228 119 = some (.getfield 286, 3) := by decide +kernel
theorem D228_122 : pgDecT 228 122 = some (.ifCond .ne 16, 3) := by decide +kernel
theorem D228_138 : pgDecT 228 138 = some (.iconst 1, 1) := by decide +kernel
theorem D228_139 : pgDecT 228 139 = some (.goto 4, 3) := by decide +kernel
theorem D228_143 : pgDecT 228 143 = some (.putfield 286, 3) := by decide +kernel
theorem D228_146 : pgDecT 228 146 = some (.goto 141, 3) := by decide +kernel
theorem D228_125 : pgDecT 228 125 = some (.aload_n 0, 1) := by decide +kernel
theorem D228_126 : pgDecT 228 126 = some (.getfield 28, 3) := by decide +kernel
theorem D228_129 : pgDecT 228 129 = some (.iconst 3, 1) := by decide +kernel
theorem D228_130 : pgDecT 228 130 = some (.iload_n 3, 1) := by decide +kernel
theorem D228_131 : pgDecT 228 131 = some (.imul, 1) := by decide +kernel
theorem D228_132 : pgDecT 228 132 = some (.iconst 2, 1) := by decide +kernel
theorem D228_133 : pgDecT 228 133 = some (.iadd, 1) := by decide +kernel
theorem D228_134 : pgDecT 228 134 = some (.baload, 1) := by decide +kernel
theorem D228_135 : pgDecT 228 135 = some (.ifCond .ne 7, 3) := by decide +kernel
theorem D228_142 : pgDecT 228 142 = some (.iconst 0, 1) := by decide +kernel
theorem D228_88 : pgDecT 228 88 = some (.iload 5, 2) := by decide +kernel
theorem D228_90 : pgDecT 228 90 = some (.iconst 3, 1) := by decide +kernel
theorem D228_91 : pgDecT 228 91 = some (.if_icmp .le 7, 3) := by decide +kernel
theorem D228_98 : pgDecT 228 98 = some (.iconst 0, 1) := by decide +kernel
theorem D228_23 : pgDecT 228 23 = some (.aload_n 0, 1) := by decide +kernel
theorem D228_24 : pgDecT 228 24 = some (.getfield 28, 3) := by decide +kernel
theorem D228_27 : pgDecT 228 27 = some (.iconst 3, 1) := by decide +kernel
theorem D228_28 : pgDecT 228 28 = some (.iload_n 3, 1) := by decide +kernel
theorem D228_29 : pgDecT 228 29 = some (.imul, 1) := by decide +kernel
theorem D228_30 : pgDecT 228 30 = some (.iconst 2, 1) := by decide +kernel
theorem D228_31 : pgDecT 228 31 = some (.iadd, 1) := by decide +kernel
theorem D228_32 : pgDecT 228 32 = some (.baload, 1) := by decide +kernel
theorem D228_33 : pgDecT 228 33 = some (.ifCond .eq 47, 3) := by decide +kernel
theorem D228_36 : pgDecT 228 36 = some (.aload_n 0, 1) := by decide +kernel
theorem D228_37 : pgDecT 228 37 = some (.getfield 32, 3) := by decide +kernel
theorem F228_32 : pgFf 228 32 = some (12, 10, 3) := by decide +kernel
theorem D228_40 : pgDecT 228 40 = some (.iconst 3, 1) := by decide +kernel
theorem D228_41 : pgDecT 228 41 = some (.iload_n 3, 1) := by decide +kernel
theorem D228_42 : pgDecT 228 42 = some (.imul, 1) := by decide +kernel
theorem D228_43 : pgDecT 228 43 = some (.iconst 2, 1) := by decide +kernel
theorem D228_44 : pgDecT 228 44 = some (.iadd, 1) := by decide +kernel
theorem D228_45 : pgDecT 228 45 = some (.iaload, 1) := by decide +kernel
theorem D228_46 : pgDecT 228 46 = some (.iconst (-1), 1) := by decide +kernel
theorem D228_47 : pgDecT 228 47 = some (.if_icmp .eq 33, 3) := by decide +kernel
theorem D228_50 : pgDecT 228 50 = some (.aload_n 0, 1) := by decide +kernel
theorem D228_51 : pgDecT 228 51 = some (.getfield 32, 3) := by decide +kernel
theorem D228_54 : pgDecT 228 54 = some (.iconst 3, 1) := by decide +kernel
theorem D228_55 : pgDecT 228 55 = some (.iload_n 3, 1) := by decide +kernel
theorem D228_56 : pgDecT 228 56 = some (.imul, 1) := by decide +kernel
theorem D228_57 : pgDecT 228 57 = some (.iconst 2, 1) := by decide +kernel
theorem D228_58 : pgDecT 228 58 = some (.iadd, 1) := by decide +kernel
theorem D228_59 : pgDecT 228 59 = some (.iaload, 1) := by decide +kernel
theorem D228_60 : pgDecT 228 60 = some (.istore_n 3, 1) := by decide +kernel
theorem D228_61 : pgDecT 228 61 = some (.aload_n 0, 1) := by decide +kernel
theorem D228_62 : pgDecT 228 62 = some (.aload_n 0, 1) := by decide +kernel
theorem D228_63 : pgDecT 228 63 = some (.getfield 82, 3) := by decide +kernel
theorem F228_82 : pgFf 228 82 = some (12, 30, 3) := by decide +kernel
theorem D228_66 : pgDecT 228 66 = some (.iload 4, 2) := by decide +kernel
theorem D228_68 : pgDecT 228 68 = some (.iaload, 1) := by decide +kernel
theorem D228_69 : pgDecT 228 69 = some (.invokevirtual 240, 3) := by decide +kernel
theorem D228_72 : pgDecT 228 72 = some (.istore 4, 2) := by decide +kernel
theorem D228_74 : pgDecT 228 74 = some (.iinc 5 1, 3) := by decide +kernel
theorem D228_77 : pgDecT 228 77 = some (.goto (-65), 3) := by decide +kernel
/-! 228: DictionaryHouseModel.follow (II)V -/
def l228 : Nat → Nat → Mm → Int → Int → Int → Int → Int → Int → Option (Int × Mm)
  | 0, _, _, _, _, _, _, _, _ => none
  | f + 1, 12, M, x1, x2, x3, x4, x5, _ => if 0 ≤ x4 ∧ x4 < 4000 then (if ¬ (M 76 (Int.toNat x4)) = 3 then (l228 f 80 M x1 x2 x3 x4 x5 0) else (if 0 ≤ (((3 : Int) * x3) + 2) ∧ (((3 : Int) * x3) + 2) < 18 then (if (M 60 (Int.toNat (((3 : Int) * x3) + 2))) = 0 then (l228 f 80 M x1 x2 x3 x4 x5 0) else (if (M 61 (Int.toNat (((3 : Int) * x3) + 2))) = (-1) then (l228 f 80 M x1 x2 x3 x4 x5 0) else (f217 M (M 77 (Int.toNat x4))).bind (fun q12 => if rg (x5 + 1) then (l228 f 12 M x1 x2 (M 61 (Int.toNat (((3 : Int) * x3) + 2))) q12 (x5 + 1) 0) else none))) else none)) else none
  | f + 1, 80, M, x1, x2, x3, x4, x5, _ => if ¬ (M 53 49) = 0 then (l228 f 102 (up M 53 49 1) x1 x2 x3 x4 x5 0) else (if x5 ≤ 3 then (l228 f 102 (up M 53 49 0) x1 x2 x3 x4 x5 0) else (l228 f 102 (up M 53 49 1) x1 x2 x3 x4 x5 0))
  | f + 1, 102, M, x1, x2, x3, x4, x5, _ => if 0 ≤ x4 ∧ x4 < 4000 then (if ¬ (M 76 (Int.toNat x4)) = 3 then (if ¬ (M 76 (Int.toNat x4)) = 4 then (if 2 ≤ (M 76 (Int.toNat x4)) then (if ¬ (M 76 (Int.toNat x4)) = 5 then (f230 M x4).bind (fun q31 => if ¬ q31 = (-1) then (if 0 ≤ q31 ∧ q31 < 4000 then (some (0, (up M 93 (Int.toNat q31) (bOr (M 93 (Int.toNat q31)) (bShl 1 x3))))) else none) else (some (0, (up M 53 48 1)))) else (if ¬ (M 53 48) = 0 then (l228 f 244 (up M 53 48 1) x1 x2 x3 x4 x5 (M 76 (Int.toNat x4))) else (if (M 53 53) = (-1) then (l228 f 244 (up M 53 48 1) x1 x2 x3 x4 x5 (M 76 (Int.toNat x4))) else (f229 M (M 53 53) x3).bind (fun q48 => if ¬ q48 = 0 then (l228 f 244 (up M 53 48 0) x1 x2 x3 x4 x5 (M 76 (Int.toNat x4))) else (l228 f 244 (up M 53 48 1) x1 x2 x3 x4 x5 (M 76 (Int.toNat x4))))))) else (if ¬ (M 53 47) = 0 then (l228 f 199 (up M 53 47 1) x1 x2 x3 x4 x5 (M 76 (Int.toNat x4))) else (if 0 ≤ (((3 : Int) * x3) + (M 76 (Int.toNat x4))) ∧ (((3 : Int) * x3) + (M 76 (Int.toNat x4))) < 18 then (if ¬ (M 60 (Int.toNat (((3 : Int) * x3) + (M 76 (Int.toNat x4))))) = 0 then (l228 f 199 (up M 53 47 0) x1 x2 x3 x4 x5 (M 76 (Int.toNat x4))) else (l228 f 199 (up M 53 47 1) x1 x2 x3 x4 x5 (M 76 (Int.toNat x4)))) else none))) else (some (0, (up M 53 47 1)))) else (if ¬ (M 53 47) = 0 then (l228 f 146 (up M 53 47 1) x1 x2 x3 x4 x5 (M 76 (Int.toNat x4))) else (if 0 ≤ (((3 : Int) * x3) + 2) ∧ (((3 : Int) * x3) + 2) < 18 then (if ¬ (M 60 (Int.toNat (((3 : Int) * x3) + 2))) = 0 then (l228 f 146 (up M 53 47 0) x1 x2 x3 x4 x5 (M 76 (Int.toNat x4))) else (l228 f 146 (up M 53 47 1) x1 x2 x3 x4 x5 (M 76 (Int.toNat x4)))) else none))) else none
  | f + 1, 244, M, x1, x2, x3, x4, x5, x6 => some (0, M)
  | f + 1, 199, M, x1, x2, x3, x4, x5, x6 => some (0, M)
  | f + 1, 146, M, x1, x2, x3, x4, x5, x6 => some (0, M)
  | _, _, _, _, _, _, _, _, _ => none
theorem d228 {L : Nat} {xs : Nat → Int32} (f : Nat) : (∀ (M : Mm) (x1 x2 x3 x4 x5 : Int) (h : mvH) (v : Int) (M' : Mm), l228 f 12 M x1 x2 x3 x4 x5 0 = some (v, M') → rp h M → rg x1 → rg x2 → rg x3 → rg x4 → rg x5 → evx L xs 2 228 12 [(0, .inr (.inr (.inl (some 53)))), (1, .inl (iz x1)), (2, .inl (iz x2)), (3, .inl (iz x3)), (4, .inl (iz x4)), (5, .inl (iz x5))] [] h (.inl none, 0) M') ∧ (∀ (M : Mm) (x1 x2 x3 x4 x5 : Int) (h : mvH) (v : Int) (M' : Mm), l228 f 80 M x1 x2 x3 x4 x5 0 = some (v, M') → rp h M → rg x1 → rg x2 → rg x3 → rg x4 → rg x5 → evx L xs 2 228 80 [(0, .inr (.inr (.inl (some 53)))), (1, .inl (iz x1)), (2, .inl (iz x2)), (3, .inl (iz x3)), (4, .inl (iz x4)), (5, .inl (iz x5))] [] h (.inl none, 0) M') ∧ (∀ (M : Mm) (x1 x2 x3 x4 x5 : Int) (h : mvH) (v : Int) (M' : Mm), l228 f 102 M x1 x2 x3 x4 x5 0 = some (v, M') → rp h M → rg x1 → rg x2 → rg x3 → rg x4 → rg x5 → evx L xs 2 228 102 [(0, .inr (.inr (.inl (some 53)))), (1, .inl (iz x1)), (2, .inl (iz x2)), (3, .inl (iz x3)), (4, .inl (iz x4)), (5, .inl (iz x5))] [] h (.inl none, 0) M') ∧ (∀ (M : Mm) (x1 x2 x3 x4 x5 x6 : Int) (h : mvH) (v : Int) (M' : Mm), l228 f 244 M x1 x2 x3 x4 x5 x6 = some (v, M') → rp h M → rg x1 → rg x2 → rg x3 → rg x4 → rg x5 → rg x6 → evx L xs 2 228 244 [(0, .inr (.inr (.inl (some 53)))), (1, .inl (iz x1)), (2, .inl (iz x2)), (3, .inl (iz x3)), (4, .inl (iz x4)), (5, .inl (iz x5)), (6, .inl (iz x6))] [] h (.inl none, 0) M') ∧ (∀ (M : Mm) (x1 x2 x3 x4 x5 x6 : Int) (h : mvH) (v : Int) (M' : Mm), l228 f 199 M x1 x2 x3 x4 x5 x6 = some (v, M') → rp h M → rg x1 → rg x2 → rg x3 → rg x4 → rg x5 → rg x6 → evx L xs 2 228 199 [(0, .inr (.inr (.inl (some 53)))), (1, .inl (iz x1)), (2, .inl (iz x2)), (3, .inl (iz x3)), (4, .inl (iz x4)), (5, .inl (iz x5)), (6, .inl (iz x6))] [] h (.inl none, 0) M') ∧ (∀ (M : Mm) (x1 x2 x3 x4 x5 x6 : Int) (h : mvH) (v : Int) (M' : Mm), l228 f 146 M x1 x2 x3 x4 x5 x6 = some (v, M') → rp h M → rg x1 → rg x2 → rg x3 → rg x4 → rg x5 → rg x6 → evx L xs 2 228 146 [(0, .inr (.inr (.inl (some 53)))), (1, .inl (iz x1)), (2, .inl (iz x2)), (3, .inl (iz x3)), (4, .inl (iz x4)), (5, .inl (iz x5)), (6, .inl (iz x6))] [] h (.inl none, 0) M') := by
  induction f with
  | zero => exact ⟨(fun M x1 x2 x3 x4 x5 h v M' hs _ _ _ _ _ _ => by cases hs), (fun M x1 x2 x3 x4 x5 h v M' hs _ _ _ _ _ _ => by cases hs), (fun M x1 x2 x3 x4 x5 h v M' hs _ _ _ _ _ _ => by cases hs), (fun M x1 x2 x3 x4 x5 x6 h v M' hs _ _ _ _ _ _ _ => by cases hs), (fun M x1 x2 x3 x4 x5 x6 h v M' hs _ _ _ _ _ _ _ => by cases hs), (fun M x1 x2 x3 x4 x5 x6 h v M' hs _ _ _ _ _ _ _ => by cases hs)⟩
  | succ f ih =>
    refine ⟨?_, ?_, ?_, ?_, ?_, ?_⟩
    · intro M x1 x2 x3 x4 x5 h v M' hs R rx1 rx2 rx3 rx4 rx5
      rw [l228] at hs
      refine evx_F E228 D228_12 rfl rfl ?_
      refine evx_gfr E228 D228_13 F228_79 H53 rfl R ?_
      refine evx_F E228 D228_16 rfl rfl ?_
      obtain ⟨k6, hs⟩ := ck hs
      refine evx_ial E228 D228_18 H76 (by decide) R k6 ?_
      refine evx_F E228 D228_19 rfl rfl ?_
      by_cases cb7 : ¬ (M 76 (Int.toNat x4)) = 3
      · rw [if_pos cb7] at hs
        refine evx_F E228 D228_20 rfl (ifT (c2_ne_T (R.1 76 (Int.toNat x4)) (by decide) cb7)) ?_
        show evx _ _ _ _ _ [(0, .inr (.inr (.inl (some 53)))), (1, .inl (iz x1)), (2, .inl (iz x2)), (3, .inl (iz x3)), (4, .inl (iz x4)), (5, .inl (iz x5))] _ _ _ _
        exact evx_lv (lvLe_mk (fm rfl (fm rfl (fm rfl (fm rfl (fm rfl (fm rfl fn)))))) (fm rfl (fm rfl (fm rfl (fm rfl (fm rfl (fm rfl fn)))))) (fm rfl (fm rfl (fm rfl (fm rfl (fm rfl (fm rfl fn))))))) (ih.2.1 _ _ _ _ _ _ _ _ _ hs R rx1 rx2 rx3 rx4 rx5)
      · rw [if_neg cb7] at hs
        refine evx_F E228 D228_20 rfl (ifF (c2_ne_F (R.1 76 (Int.toNat x4)) (by decide) (by omega))) ?_
        refine evx_F E228 D228_23 rfl rfl ?_
        refine evx_gfr E228 D228_24 F228_28 H53 rfl R ?_
        refine evx_F E228 D228_27 rfl rfl ?_
        refine evx_F E228 D228_28 rfl rfl ?_
        refine evx_mul E228 D228_29 ?_
        refine evx_F E228 D228_30 rfl rfl ?_
        refine evx_add E228 D228_31 ?_
        obtain ⟨k8, hs⟩ := ck hs
        refine evx_bal E228 D228_32 H60 (by decide) R k8 ?_
        by_cases cb9 : (M 60 (Int.toNat (((3 : Int) * x3) + 2))) = 0
        · rw [if_pos cb9] at hs
          refine evx_F E228 D228_33 rfl (ifT (c1_eq_T (R.1 60 (Int.toNat (((3 : Int) * x3) + 2))) cb9)) ?_
          show evx _ _ _ _ _ [(0, .inr (.inr (.inl (some 53)))), (1, .inl (iz x1)), (2, .inl (iz x2)), (3, .inl (iz x3)), (4, .inl (iz x4)), (5, .inl (iz x5))] _ _ _ _
          exact evx_lv (lvLe_mk (fm rfl (fm rfl (fm rfl (fm rfl (fm rfl (fm rfl fn)))))) (fm rfl (fm rfl (fm rfl (fm rfl (fm rfl (fm rfl fn)))))) (fm rfl (fm rfl (fm rfl (fm rfl (fm rfl (fm rfl fn))))))) (ih.2.1 _ _ _ _ _ _ _ _ _ hs R rx1 rx2 rx3 rx4 rx5)
        · rw [if_neg cb9] at hs
          refine evx_F E228 D228_33 rfl (ifF (c1_eq_F (R.1 60 (Int.toNat (((3 : Int) * x3) + 2))) (by omega))) ?_
          refine evx_F E228 D228_36 rfl rfl ?_
          refine evx_gfr E228 D228_37 F228_32 H53 rfl R ?_
          refine evx_F E228 D228_40 rfl rfl ?_
          refine evx_F E228 D228_41 rfl rfl ?_
          refine evx_mul E228 D228_42 ?_
          refine evx_F E228 D228_43 rfl rfl ?_
          refine evx_add E228 D228_44 ?_
          refine evx_ial E228 D228_45 H61 (by decide) R k8 ?_
          refine evx_F E228 D228_46 rfl rfl ?_
          by_cases cb10 : (M 61 (Int.toNat (((3 : Int) * x3) + 2))) = (-1)
          · rw [if_pos cb10] at hs
            refine evx_F E228 D228_47 rfl (ifT (c2_eq_T (R.1 61 (Int.toNat (((3 : Int) * x3) + 2))) (by decide) cb10)) ?_
            show evx _ _ _ _ _ [(0, .inr (.inr (.inl (some 53)))), (1, .inl (iz x1)), (2, .inl (iz x2)), (3, .inl (iz x3)), (4, .inl (iz x4)), (5, .inl (iz x5))] _ _ _ _
            exact evx_lv (lvLe_mk (fm rfl (fm rfl (fm rfl (fm rfl (fm rfl (fm rfl fn)))))) (fm rfl (fm rfl (fm rfl (fm rfl (fm rfl (fm rfl fn)))))) (fm rfl (fm rfl (fm rfl (fm rfl (fm rfl (fm rfl fn))))))) (ih.2.1 _ _ _ _ _ _ _ _ _ hs R rx1 rx2 rx3 rx4 rx5)
          · rw [if_neg cb10] at hs
            refine evx_F E228 D228_47 rfl (ifF (c2_eq_F (R.1 61 (Int.toNat (((3 : Int) * x3) + 2))) (by decide) (by omega))) ?_
            refine evx_F E228 D228_50 rfl rfl ?_
            refine evx_gfr E228 D228_51 F228_32 H53 rfl R ?_
            refine evx_F E228 D228_54 rfl rfl ?_
            refine evx_F E228 D228_55 rfl rfl ?_
            refine evx_mul E228 D228_56 ?_
            refine evx_F E228 D228_57 rfl rfl ?_
            refine evx_add E228 D228_58 ?_
            refine evx_ial E228 D228_59 H61 (by decide) R k8 ?_
            refine evx_F E228 D228_60 rfl rfl ?_
            refine evx_F E228 D228_61 rfl rfl ?_
            refine evx_F E228 D228_62 rfl rfl ?_
            refine evx_gfr E228 D228_63 F228_82 H53 rfl R ?_
            refine evx_F E228 D228_66 rfl rfl ?_
            refine evx_ial E228 D228_68 H77 (by decide) R k6 ?_
            obtain ⟨q12, e11, hs⟩ := Option.bind_eq_some_iff.mp hs
            refine evx_cv (D := 1) E228 D228_69 I228_240 rfl rfl H53 ⟨Nat.le_of_ble_eq_true rfl, Nat.le_of_ble_eq_true rfl⟩ ⟨rfl, Nat.le_of_ble_eq_true rfl⟩ rfl R (evx_up (Nat.le_of_ble_eq_true rfl) (c217 R (R.1 77 (Int.toNat x4)) e11)) ?_
            intro h13 R14 w15
            have w15 : rg q12 := w15
            show evx _ _ _ _ _ _ (.inl (iz q12) :: _) _ _ _
            refine evx_F E228 D228_72 rfl rfl ?_
            refine evx_inc E228 D228_74 (Nat.le_of_ble_eq_true rfl) rfl ?_
            refine evx_F E228 D228_77 rfl rfl ?_
            obtain ⟨k16, hs⟩ := ck hs
            show evx _ _ _ _ _ [(5, .inl (iz (x5 + 1))), (4, .inl (iz q12)), (3, .inl (iz (M 61 (Int.toNat (((3 : Int) * x3) + 2))))), (0, .inr (.inr (.inl (some 53)))), (1, .inl (iz x1)), (2, .inl (iz x2))] _ _ _ _
            exact evx_lv (lvLe_mk (fm rfl (fm rfl (fm rfl (fm rfl (fm rfl (fm rfl fn)))))) (fm rfl (fm rfl (fm rfl (fm rfl (fm rfl (fm rfl fn)))))) (fm rfl (fm rfl (fm rfl (fm rfl (fm rfl (fm rfl fn))))))) (ih.1 _ _ _ _ _ _ _ _ _ hs R14 rx1 rx2 (R.1 61 (Int.toNat (((3 : Int) * x3) + 2))) w15 k16)
    · intro M x1 x2 x3 x4 x5 h v M' hs R rx1 rx2 rx3 rx4 rx5
      rw [l228] at hs
      refine evx_F E228 D228_80 rfl rfl ?_
      refine evx_F E228 D228_81 rfl rfl ?_
      refine evx_gfi (k := 49) E228 D228_82 F228_282 H53 rfl R ?_
      by_cases cb17 : ¬ (M 53 49) = 0
      · rw [if_pos cb17] at hs
        refine evx_F E228 D228_85 rfl (ifT (c1_ne_T (R.1 53 49) cb17)) ?_
        refine evx_F E228 D228_94 rfl rfl ?_
        refine evx_F E228 D228_95 rfl rfl ?_
        refine evx_pfi (k := 49) E228 D228_99 F228_282 H53 rfl R (by decide) rfl ?_
        intro h18 R19
        show evx _ _ _ _ _ [(0, .inr (.inr (.inl (some 53)))), (1, .inl (iz x1)), (2, .inl (iz x2)), (3, .inl (iz x3)), (4, .inl (iz x4)), (5, .inl (iz x5))] _ _ _ _
        exact evx_lv (lvLe_mk (fm rfl (fm rfl (fm rfl (fm rfl (fm rfl (fm rfl fn)))))) (fm rfl (fm rfl (fm rfl (fm rfl (fm rfl (fm rfl fn)))))) (fm rfl (fm rfl (fm rfl (fm rfl (fm rfl (fm rfl fn))))))) (ih.2.2.1 _ _ _ _ _ _ _ _ _ hs R19 rx1 rx2 rx3 rx4 rx5)
      · rw [if_neg cb17] at hs
        refine evx_F E228 D228_85 rfl (ifF (c1_ne_F (R.1 53 49) (by omega))) ?_
        refine evx_F E228 D228_88 rfl rfl ?_
        refine evx_F E228 D228_90 rfl rfl ?_
        by_cases cb20 : x5 ≤ 3
        · rw [if_pos cb20] at hs
          refine evx_F E228 D228_91 rfl (ifT (c2_le_T rx5 (by decide) cb20)) ?_
          refine evx_F E228 D228_98 rfl rfl ?_
          refine evx_pfi (k := 49) E228 D228_99 F228_282 H53 rfl R (by decide) rfl ?_
          intro h21 R22
          show evx _ _ _ _ _ [(0, .inr (.inr (.inl (some 53)))), (1, .inl (iz x1)), (2, .inl (iz x2)), (3, .inl (iz x3)), (4, .inl (iz x4)), (5, .inl (iz x5))] _ _ _ _
          exact evx_lv (lvLe_mk (fm rfl (fm rfl (fm rfl (fm rfl (fm rfl (fm rfl fn)))))) (fm rfl (fm rfl (fm rfl (fm rfl (fm rfl (fm rfl fn)))))) (fm rfl (fm rfl (fm rfl (fm rfl (fm rfl (fm rfl fn))))))) (ih.2.2.1 _ _ _ _ _ _ _ _ _ hs R22 rx1 rx2 rx3 rx4 rx5)
        · rw [if_neg cb20] at hs
          refine evx_F E228 D228_91 rfl (ifF (c2_le_F rx5 (by decide) (by omega))) ?_
          refine evx_F E228 D228_94 rfl rfl ?_
          refine evx_F E228 D228_95 rfl rfl ?_
          refine evx_pfi (k := 49) E228 D228_99 F228_282 H53 rfl R (by decide) rfl ?_
          intro h23 R24
          show evx _ _ _ _ _ [(0, .inr (.inr (.inl (some 53)))), (1, .inl (iz x1)), (2, .inl (iz x2)), (3, .inl (iz x3)), (4, .inl (iz x4)), (5, .inl (iz x5))] _ _ _ _
          exact evx_lv (lvLe_mk (fm rfl (fm rfl (fm rfl (fm rfl (fm rfl (fm rfl fn)))))) (fm rfl (fm rfl (fm rfl (fm rfl (fm rfl (fm rfl fn)))))) (fm rfl (fm rfl (fm rfl (fm rfl (fm rfl (fm rfl fn))))))) (ih.2.2.1 _ _ _ _ _ _ _ _ _ hs R24 rx1 rx2 rx3 rx4 rx5)
    · intro M x1 x2 x3 x4 x5 h v M' hs R rx1 rx2 rx3 rx4 rx5
      rw [l228] at hs
      refine evx_F E228 D228_102 rfl rfl ?_
      refine evx_gfr E228 D228_103 F228_79 H53 rfl R ?_
      refine evx_F E228 D228_106 rfl rfl ?_
      obtain ⟨k25, hs⟩ := ck hs
      refine evx_ial E228 D228_108 H76 (by decide) R k25 ?_
      refine evx_F E228 D228_109 rfl rfl ?_
      refine evx_F E228 D228_111 rfl rfl ?_
      refine evx_F E228 D228_113 rfl rfl ?_
      by_cases cb26 : ¬ (M 76 (Int.toNat x4)) = 3
      · rw [if_pos cb26] at hs
        refine evx_F E228 D228_114 rfl (ifT (c2_ne_T (R.1 76 (Int.toNat x4)) (by decide) cb26)) ?_
        refine evx_F E228 D228_149 rfl rfl ?_
        refine evx_F E228 D228_151 rfl rfl ?_
        by_cases cb27 : ¬ (M 76 (Int.toNat x4)) = 4
        · rw [if_pos cb27] at hs
          refine evx_F E228 D228_152 rfl (ifT (c2_ne_T (R.1 76 (Int.toNat x4)) (by decide) cb27)) ?_
          refine evx_F E228 D228_163 rfl rfl ?_
          refine evx_F E228 D228_165 rfl rfl ?_
          by_cases cb28 : 2 ≤ (M 76 (Int.toNat x4))
          · rw [if_pos cb28] at hs
            refine evx_F E228 D228_166 rfl (ifT (c2_ge_T (R.1 76 (Int.toNat x4)) (by decide) cb28)) ?_
            refine evx_F E228 D228_202 rfl rfl ?_
            refine evx_F E228 D228_204 rfl rfl ?_
            by_cases cb29 : ¬ (M 76 (Int.toNat x4)) = 5
            · rw [if_pos cb29] at hs
              refine evx_F E228 D228_205 rfl (ifT (c2_ne_T (R.1 76 (Int.toNat x4)) (by decide) cb29)) ?_
              refine evx_F E228 D228_247 rfl rfl ?_
              refine evx_F E228 D228_248 rfl rfl ?_
              obtain ⟨q31, e30, hs⟩ := Option.bind_eq_some_iff.mp hs
              refine evx_cv (D := 1) E228 D228_250 I228_298 rfl rfl H53 ⟨Nat.le_of_ble_eq_true rfl, Nat.le_of_ble_eq_true rfl⟩ ⟨rfl, Nat.le_of_ble_eq_true rfl⟩ rfl R (evx_up (Nat.le_of_ble_eq_true rfl) (c230 R rx4 e30)) ?_
              intro h32 R33 w34
              have w34 : rg q31 := w34
              show evx _ _ _ _ _ _ (.inl (iz q31) :: _) _ _ _
              refine evx_F E228 D228_253 rfl rfl ?_
              refine evx_F E228 D228_255 rfl rfl ?_
              refine evx_F E228 D228_257 rfl rfl ?_
              by_cases cb35 : ¬ q31 = (-1)
              · rw [if_pos cb35] at hs
                refine evx_F E228 D228_258 rfl (ifT (c2_ne_T w34 (by decide) cb35)) ?_
                refine evx_F E228 D228_269 rfl rfl ?_
                refine evx_gfr E228 D228_270 F228_130 H53 rfl R33 ?_
                refine evx_F E228 D228_273 rfl rfl ?_
                refine evx_F E228 D228_275 rfl rfl ?_
                refine evx_gfr E228 D228_276 F228_130 H53 rfl R33 ?_
                refine evx_F E228 D228_279 rfl rfl ?_
                obtain ⟨k36, hs⟩ := ck hs
                refine evx_ial E228 D228_281 H93 (by decide) R33 k36 ?_
                refine evx_F E228 D228_282 rfl rfl ?_
                refine evx_F E228 D228_283 rfl rfl ?_
                refine evx_ishl E228 D228_284 ?_
                refine evx_ior E228 D228_285 ?_
                refine evx_ias E228 D228_286 H93 (by decide) R33 k36 (iz_rg _) ?_
                intro h37 R38
                cases hs
                exact evx_ret E228 D228_287 rfl (fun d => rfl) rfl trivial R38
              · rw [if_neg cb35] at hs
                refine evx_F E228 D228_258 rfl (ifF (c2_ne_F w34 (by decide) (by omega))) ?_
                refine evx_F E228 D228_261 rfl rfl ?_
                refine evx_F E228 D228_262 rfl rfl ?_
                refine evx_pfi (k := 48) E228 D228_263 F228_289 H53 rfl R33 (by decide) rfl ?_
                intro h39 R40
                refine evx_F E228 D228_266 rfl rfl ?_
                cases hs
                exact evx_ret E228 D228_287 rfl (fun d => rfl) rfl trivial R40
            · rw [if_neg cb29] at hs
              refine evx_F E228 D228_205 rfl (ifF (c2_ne_F (R.1 76 (Int.toNat x4)) (by decide) (by omega))) ?_
              refine evx_F E228 D228_208 rfl rfl ?_
              refine evx_F E228 D228_209 rfl rfl ?_
              refine evx_gfi (k := 48) E228 D228_210 F228_289 H53 rfl R ?_
              by_cases cb41 : ¬ (M 53 48) = 0
              · rw [if_pos cb41] at hs
                refine evx_F E228 D228_213 rfl (ifT (c1_ne_T (R.1 53 48) cb41)) ?_
                refine evx_F E228 D228_236 rfl rfl ?_
                refine evx_F E228 D228_237 rfl rfl ?_
                refine evx_pfi (k := 48) E228 D228_241 F228_289 H53 rfl R (by decide) rfl ?_
                intro h42 R43
                show evx _ _ _ _ _ [(6, .inl (iz (M 76 (Int.toNat x4)))), (0, .inr (.inr (.inl (some 53)))), (1, .inl (iz x1)), (2, .inl (iz x2)), (3, .inl (iz x3)), (4, .inl (iz x4)), (5, .inl (iz x5))] _ _ _ _
                exact evx_lv (lvLe_mk (fm rfl (fm rfl (fm rfl (fm rfl (fm rfl (fm rfl (fm rfl fn))))))) (fm rfl (fm rfl (fm rfl (fm rfl (fm rfl (fm rfl (fm rfl fn))))))) (fm rfl (fm rfl (fm rfl (fm rfl (fm rfl (fm rfl (fm rfl fn)))))))) (ih.2.2.2.1 _ _ _ _ _ _ _ _ _ _ hs R43 rx1 rx2 rx3 rx4 rx5 (R.1 76 (Int.toNat x4)))
              · rw [if_neg cb41] at hs
                refine evx_F E228 D228_213 rfl (ifF (c1_ne_F (R.1 53 48) (by omega))) ?_
                refine evx_F E228 D228_216 rfl rfl ?_
                refine evx_gfi (k := 53) E228 D228_217 F228_292 H53 rfl R ?_
                refine evx_F E228 D228_220 rfl rfl ?_
                by_cases cb44 : (M 53 53) = (-1)
                · rw [if_pos cb44] at hs
                  refine evx_F E228 D228_221 rfl (ifT (c2_eq_T (R.1 53 53) (by decide) cb44)) ?_
                  refine evx_F E228 D228_236 rfl rfl ?_
                  refine evx_F E228 D228_237 rfl rfl ?_
                  refine evx_pfi (k := 48) E228 D228_241 F228_289 H53 rfl R (by decide) rfl ?_
                  intro h45 R46
                  show evx _ _ _ _ _ [(6, .inl (iz (M 76 (Int.toNat x4)))), (0, .inr (.inr (.inl (some 53)))), (1, .inl (iz x1)), (2, .inl (iz x2)), (3, .inl (iz x3)), (4, .inl (iz x4)), (5, .inl (iz x5))] _ _ _ _
                  exact evx_lv (lvLe_mk (fm rfl (fm rfl (fm rfl (fm rfl (fm rfl (fm rfl (fm rfl fn))))))) (fm rfl (fm rfl (fm rfl (fm rfl (fm rfl (fm rfl (fm rfl fn))))))) (fm rfl (fm rfl (fm rfl (fm rfl (fm rfl (fm rfl (fm rfl fn)))))))) (ih.2.2.2.1 _ _ _ _ _ _ _ _ _ _ hs R46 rx1 rx2 rx3 rx4 rx5 (R.1 76 (Int.toNat x4)))
                · rw [if_neg cb44] at hs
                  refine evx_F E228 D228_221 rfl (ifF (c2_eq_F (R.1 53 53) (by decide) (by omega))) ?_
                  refine evx_F E228 D228_224 rfl rfl ?_
                  refine evx_F E228 D228_225 rfl rfl ?_
                  refine evx_gfi (k := 53) E228 D228_226 F228_292 H53 rfl R ?_
                  refine evx_F E228 D228_229 rfl rfl ?_
                  obtain ⟨q48, e47, hs⟩ := Option.bind_eq_some_iff.mp hs
                  refine evx_cv (D := 1) E228 D228_230 I228_295 rfl rfl H53 ⟨Nat.le_of_ble_eq_true rfl, Nat.le_of_ble_eq_true rfl⟩ ⟨rfl, Nat.le_of_ble_eq_true rfl⟩ rfl R (evx_up (Nat.le_of_ble_eq_true rfl) (c229 R (R.1 53 53) rx3 e47)) ?_
                  intro h49 R50 w51
                  have w51 : rg q48 := w51
                  show evx _ _ _ _ _ _ (.inl (iz q48) :: _) _ _ _
                  by_cases cb52 : ¬ q48 = 0
                  · rw [if_pos cb52] at hs
                    refine evx_F E228 D228_233 rfl (ifT (c1_ne_T w51 cb52)) ?_
                    refine evx_F E228 D228_240 rfl rfl ?_
                    refine evx_pfi (k := 48) E228 D228_241 F228_289 H53 rfl R50 (by decide) rfl ?_
                    intro h53 R54
                    show evx _ _ _ _ _ [(6, .inl (iz (M 76 (Int.toNat x4)))), (0, .inr (.inr (.inl (some 53)))), (1, .inl (iz x1)), (2, .inl (iz x2)), (3, .inl (iz x3)), (4, .inl (iz x4)), (5, .inl (iz x5))] _ _ _ _
                    exact evx_lv (lvLe_mk (fm rfl (fm rfl (fm rfl (fm rfl (fm rfl (fm rfl (fm rfl fn))))))) (fm rfl (fm rfl (fm rfl (fm rfl (fm rfl (fm rfl (fm rfl fn))))))) (fm rfl (fm rfl (fm rfl (fm rfl (fm rfl (fm rfl (fm rfl fn)))))))) (ih.2.2.2.1 _ _ _ _ _ _ _ _ _ _ hs R54 rx1 rx2 rx3 rx4 rx5 (R.1 76 (Int.toNat x4)))
                  · rw [if_neg cb52] at hs
                    refine evx_F E228 D228_233 rfl (ifF (c1_ne_F w51 (by omega))) ?_
                    refine evx_F E228 D228_236 rfl rfl ?_
                    refine evx_F E228 D228_237 rfl rfl ?_
                    refine evx_pfi (k := 48) E228 D228_241 F228_289 H53 rfl R50 (by decide) rfl ?_
                    intro h55 R56
                    show evx _ _ _ _ _ [(6, .inl (iz (M 76 (Int.toNat x4)))), (0, .inr (.inr (.inl (some 53)))), (1, .inl (iz x1)), (2, .inl (iz x2)), (3, .inl (iz x3)), (4, .inl (iz x4)), (5, .inl (iz x5))] _ _ _ _
                    exact evx_lv (lvLe_mk (fm rfl (fm rfl (fm rfl (fm rfl (fm rfl (fm rfl (fm rfl fn))))))) (fm rfl (fm rfl (fm rfl (fm rfl (fm rfl (fm rfl (fm rfl fn))))))) (fm rfl (fm rfl (fm rfl (fm rfl (fm rfl (fm rfl (fm rfl fn)))))))) (ih.2.2.2.1 _ _ _ _ _ _ _ _ _ _ hs R56 rx1 rx2 rx3 rx4 rx5 (R.1 76 (Int.toNat x4)))
          · rw [if_neg cb28] at hs
            refine evx_F E228 D228_166 rfl (ifF (c2_ge_F (R.1 76 (Int.toNat x4)) (by decide) (by omega))) ?_
            refine evx_F E228 D228_169 rfl rfl ?_
            refine evx_F E228 D228_170 rfl rfl ?_
            refine evx_gfi (k := 47) E228 D228_171 F228_286 H53 rfl R ?_
            by_cases cb57 : ¬ (M 53 47) = 0
            · rw [if_pos cb57] at hs
              refine evx_F E228 D228_174 rfl (ifT (c1_ne_T (R.1 53 47) cb57)) ?_
              refine evx_F E228 D228_191 rfl rfl ?_
              refine evx_F E228 D228_192 rfl rfl ?_
              refine evx_pfi (k := 47) E228 D228_196 F228_286 H53 rfl R (by decide) rfl ?_
              intro h58 R59
              show evx _ _ _ _ _ [(6, .inl (iz (M 76 (Int.toNat x4)))), (0, .inr (.inr (.inl (some 53)))), (1, .inl (iz x1)), (2, .inl (iz x2)), (3, .inl (iz x3)), (4, .inl (iz x4)), (5, .inl (iz x5))] _ _ _ _
              exact evx_lv (lvLe_mk (fm rfl (fm rfl (fm rfl (fm rfl (fm rfl (fm rfl (fm rfl fn))))))) (fm rfl (fm rfl (fm rfl (fm rfl (fm rfl (fm rfl (fm rfl fn))))))) (fm rfl (fm rfl (fm rfl (fm rfl (fm rfl (fm rfl (fm rfl fn)))))))) (ih.2.2.2.2.1 _ _ _ _ _ _ _ _ _ _ hs R59 rx1 rx2 rx3 rx4 rx5 (R.1 76 (Int.toNat x4)))
            · rw [if_neg cb57] at hs
              refine evx_F E228 D228_174 rfl (ifF (c1_ne_F (R.1 53 47) (by omega))) ?_
              refine evx_F E228 D228_177 rfl rfl ?_
              refine evx_gfr E228 D228_178 F228_28 H53 rfl R ?_
              refine evx_F E228 D228_181 rfl rfl ?_
              refine evx_F E228 D228_182 rfl rfl ?_
              refine evx_mul E228 D228_183 ?_
              refine evx_F E228 D228_184 rfl rfl ?_
              refine evx_add E228 D228_186 ?_
              obtain ⟨k60, hs⟩ := ck hs
              refine evx_bal E228 D228_187 H60 (by decide) R k60 ?_
              by_cases cb61 : ¬ (M 60 (Int.toNat (((3 : Int) * x3) + (M 76 (Int.toNat x4))))) = 0
              · rw [if_pos cb61] at hs
                refine evx_F E228 D228_188 rfl (ifT (c1_ne_T (R.1 60 (Int.toNat (((3 : Int) * x3) + (M 76 (Int.toNat x4))))) cb61)) ?_
                refine evx_F E228 D228_195 rfl rfl ?_
                refine evx_pfi (k := 47) E228 D228_196 F228_286 H53 rfl R (by decide) rfl ?_
                intro h62 R63
                show evx _ _ _ _ _ [(6, .inl (iz (M 76 (Int.toNat x4)))), (0, .inr (.inr (.inl (some 53)))), (1, .inl (iz x1)), (2, .inl (iz x2)), (3, .inl (iz x3)), (4, .inl (iz x4)), (5, .inl (iz x5))] _ _ _ _
                exact evx_lv (lvLe_mk (fm rfl (fm rfl (fm rfl (fm rfl (fm rfl (fm rfl (fm rfl fn))))))) (fm rfl (fm rfl (fm rfl (fm rfl (fm rfl (fm rfl (fm rfl fn))))))) (fm rfl (fm rfl (fm rfl (fm rfl (fm rfl (fm rfl (fm rfl fn)))))))) (ih.2.2.2.2.1 _ _ _ _ _ _ _ _ _ _ hs R63 rx1 rx2 rx3 rx4 rx5 (R.1 76 (Int.toNat x4)))
              · rw [if_neg cb61] at hs
                refine evx_F E228 D228_188 rfl (ifF (c1_ne_F (R.1 60 (Int.toNat (((3 : Int) * x3) + (M 76 (Int.toNat x4))))) (by omega))) ?_
                refine evx_F E228 D228_191 rfl rfl ?_
                refine evx_F E228 D228_192 rfl rfl ?_
                refine evx_pfi (k := 47) E228 D228_196 F228_286 H53 rfl R (by decide) rfl ?_
                intro h64 R65
                show evx _ _ _ _ _ [(6, .inl (iz (M 76 (Int.toNat x4)))), (0, .inr (.inr (.inl (some 53)))), (1, .inl (iz x1)), (2, .inl (iz x2)), (3, .inl (iz x3)), (4, .inl (iz x4)), (5, .inl (iz x5))] _ _ _ _
                exact evx_lv (lvLe_mk (fm rfl (fm rfl (fm rfl (fm rfl (fm rfl (fm rfl (fm rfl fn))))))) (fm rfl (fm rfl (fm rfl (fm rfl (fm rfl (fm rfl (fm rfl fn))))))) (fm rfl (fm rfl (fm rfl (fm rfl (fm rfl (fm rfl (fm rfl fn)))))))) (ih.2.2.2.2.1 _ _ _ _ _ _ _ _ _ _ hs R65 rx1 rx2 rx3 rx4 rx5 (R.1 76 (Int.toNat x4)))
        · rw [if_neg cb27] at hs
          refine evx_F E228 D228_152 rfl (ifF (c2_ne_F (R.1 76 (Int.toNat x4)) (by decide) (by omega))) ?_
          refine evx_F E228 D228_155 rfl rfl ?_
          refine evx_F E228 D228_156 rfl rfl ?_
          refine evx_pfi (k := 47) E228 D228_157 F228_286 H53 rfl R (by decide) rfl ?_
          intro h66 R67
          refine evx_F E228 D228_160 rfl rfl ?_
          cases hs
          exact evx_ret E228 D228_287 rfl (fun d => rfl) rfl trivial R67
      · rw [if_neg cb26] at hs
        refine evx_F E228 D228_114 rfl (ifF (c2_ne_F (R.1 76 (Int.toNat x4)) (by decide) (by omega))) ?_
        refine evx_F E228 D228_117 rfl rfl ?_
        refine evx_F E228 D228_118 rfl rfl ?_
        refine evx_gfi (k := 47) E228 D228_119 F228_286 H53 rfl R ?_
        by_cases cb68 : ¬ (M 53 47) = 0
        · rw [if_pos cb68] at hs
          refine evx_F E228 D228_122 rfl (ifT (c1_ne_T (R.1 53 47) cb68)) ?_
          refine evx_F E228 D228_138 rfl rfl ?_
          refine evx_F E228 D228_139 rfl rfl ?_
          refine evx_pfi (k := 47) E228 D228_143 F228_286 H53 rfl R (by decide) rfl ?_
          intro h69 R70
          show evx _ _ _ _ _ [(6, .inl (iz (M 76 (Int.toNat x4)))), (0, .inr (.inr (.inl (some 53)))), (1, .inl (iz x1)), (2, .inl (iz x2)), (3, .inl (iz x3)), (4, .inl (iz x4)), (5, .inl (iz x5))] _ _ _ _
          exact evx_lv (lvLe_mk (fm rfl (fm rfl (fm rfl (fm rfl (fm rfl (fm rfl (fm rfl fn))))))) (fm rfl (fm rfl (fm rfl (fm rfl (fm rfl (fm rfl (fm rfl fn))))))) (fm rfl (fm rfl (fm rfl (fm rfl (fm rfl (fm rfl (fm rfl fn)))))))) (ih.2.2.2.2.2 _ _ _ _ _ _ _ _ _ _ hs R70 rx1 rx2 rx3 rx4 rx5 (R.1 76 (Int.toNat x4)))
        · rw [if_neg cb68] at hs
          refine evx_F E228 D228_122 rfl (ifF (c1_ne_F (R.1 53 47) (by omega))) ?_
          refine evx_F E228 D228_125 rfl rfl ?_
          refine evx_gfr E228 D228_126 F228_28 H53 rfl R ?_
          refine evx_F E228 D228_129 rfl rfl ?_
          refine evx_F E228 D228_130 rfl rfl ?_
          refine evx_mul E228 D228_131 ?_
          refine evx_F E228 D228_132 rfl rfl ?_
          refine evx_add E228 D228_133 ?_
          obtain ⟨k71, hs⟩ := ck hs
          refine evx_bal E228 D228_134 H60 (by decide) R k71 ?_
          by_cases cb72 : ¬ (M 60 (Int.toNat (((3 : Int) * x3) + 2))) = 0
          · rw [if_pos cb72] at hs
            refine evx_F E228 D228_135 rfl (ifT (c1_ne_T (R.1 60 (Int.toNat (((3 : Int) * x3) + 2))) cb72)) ?_
            refine evx_F E228 D228_142 rfl rfl ?_
            refine evx_pfi (k := 47) E228 D228_143 F228_286 H53 rfl R (by decide) rfl ?_
            intro h73 R74
            show evx _ _ _ _ _ [(6, .inl (iz (M 76 (Int.toNat x4)))), (0, .inr (.inr (.inl (some 53)))), (1, .inl (iz x1)), (2, .inl (iz x2)), (3, .inl (iz x3)), (4, .inl (iz x4)), (5, .inl (iz x5))] _ _ _ _
            exact evx_lv (lvLe_mk (fm rfl (fm rfl (fm rfl (fm rfl (fm rfl (fm rfl (fm rfl fn))))))) (fm rfl (fm rfl (fm rfl (fm rfl (fm rfl (fm rfl (fm rfl fn))))))) (fm rfl (fm rfl (fm rfl (fm rfl (fm rfl (fm rfl (fm rfl fn)))))))) (ih.2.2.2.2.2 _ _ _ _ _ _ _ _ _ _ hs R74 rx1 rx2 rx3 rx4 rx5 (R.1 76 (Int.toNat x4)))
          · rw [if_neg cb72] at hs
            refine evx_F E228 D228_135 rfl (ifF (c1_ne_F (R.1 60 (Int.toNat (((3 : Int) * x3) + 2))) (by omega))) ?_
            refine evx_F E228 D228_138 rfl rfl ?_
            refine evx_F E228 D228_139 rfl rfl ?_
            refine evx_pfi (k := 47) E228 D228_143 F228_286 H53 rfl R (by decide) rfl ?_
            intro h75 R76
            show evx _ _ _ _ _ [(6, .inl (iz (M 76 (Int.toNat x4)))), (0, .inr (.inr (.inl (some 53)))), (1, .inl (iz x1)), (2, .inl (iz x2)), (3, .inl (iz x3)), (4, .inl (iz x4)), (5, .inl (iz x5))] _ _ _ _
            exact evx_lv (lvLe_mk (fm rfl (fm rfl (fm rfl (fm rfl (fm rfl (fm rfl (fm rfl fn))))))) (fm rfl (fm rfl (fm rfl (fm rfl (fm rfl (fm rfl (fm rfl fn))))))) (fm rfl (fm rfl (fm rfl (fm rfl (fm rfl (fm rfl (fm rfl fn)))))))) (ih.2.2.2.2.2 _ _ _ _ _ _ _ _ _ _ hs R76 rx1 rx2 rx3 rx4 rx5 (R.1 76 (Int.toNat x4)))
    · intro M x1 x2 x3 x4 x5 x6 h v M' hs R rx1 rx2 rx3 rx4 rx5 rx6
      rw [l228] at hs
      refine evx_F E228 D228_244 rfl rfl ?_
      cases hs
      exact evx_ret E228 D228_287 rfl (fun d => rfl) rfl trivial R
    · intro M x1 x2 x3 x4 x5 x6 h v M' hs R rx1 rx2 rx3 rx4 rx5 rx6
      rw [l228] at hs
      refine evx_F E228 D228_199 rfl rfl ?_
      cases hs
      exact evx_ret E228 D228_287 rfl (fun d => rfl) rfl trivial R
    · intro M x1 x2 x3 x4 x5 x6 h v M' hs R rx1 rx2 rx3 rx4 rx5 rx6
      rw [l228] at hs
      refine evx_F E228 D228_146 rfl rfl ?_
      cases hs
      exact evx_ret E228 D228_287 rfl (fun d => rfl) rfl trivial R
def f228 (M : Mm) (x1 : Int) (x2 : Int) : Option (Int × Mm) := (f217 M x2).bind (fun q2 => l228 FU 12 M x1 x2 x1 q2 0 0)
theorem c228 {L : Nat} {xs : Nat → Int32} {h : mvH} {M : Mm} {x1 x2 : Int} {v : Int} {M' : Mm} (R : rp h M) (rx1 : rg x1) (rx2 : rg x2) (hs : f228 M x1 x2 = some (v, M')) : evx L xs 2 228 0 [(0, .inr (.inr (.inl (some 53)))), (1, .inl (iz x1)), (2, .inl (iz x2))] [] h (.inl none, 0) M' := by
  unfold f228 at hs
  refine evx_F E228 D228_0 rfl rfl ?_
  refine evx_F E228 D228_1 rfl rfl ?_
  refine evx_F E228 D228_2 rfl rfl ?_
  refine evx_F E228 D228_3 rfl rfl ?_
  obtain ⟨q2, e1, hs⟩ := Option.bind_eq_some_iff.mp hs
  refine evx_cv (D := 1) E228 D228_4 I228_240 rfl rfl H53 ⟨Nat.le_of_ble_eq_true rfl, Nat.le_of_ble_eq_true rfl⟩ ⟨rfl, Nat.le_of_ble_eq_true rfl⟩ rfl R (evx_up (Nat.le_of_ble_eq_true rfl) (c217 R rx2 e1)) ?_
  intro h3 R4 w5
  have w5 : rg q2 := w5
  show evx _ _ _ _ _ _ (.inl (iz q2) :: _) _ _ _
  refine evx_F E228 D228_7 rfl rfl ?_
  refine evx_F E228 D228_9 rfl rfl ?_
  refine evx_F E228 D228_10 rfl rfl ?_
  show evx _ _ _ _ _ [(5, .inl (iz 0)), (4, .inl (iz q2)), (3, .inl (iz x1)), (0, .inr (.inr (.inl (some 53)))), (1, .inl (iz x1)), (2, .inl (iz x2))] _ _ _ _
  exact evx_lv (lvLe_mk (fm rfl (fm rfl (fm rfl (fm rfl (fm rfl (fm rfl fn)))))) (fm rfl (fm rfl (fm rfl (fm rfl (fm rfl (fm rfl fn)))))) (fm rfl (fm rfl (fm rfl (fm rfl (fm rfl (fm rfl fn))))))) ((d228 FU).1 _ _ _ _ _ _ _ _ _ hs R4 rx1 rx2 rx1 w5 (by decide))
