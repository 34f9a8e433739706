/-! More methods as functions, printed by a program. -/
set_option maxRecDepth 20000 in
theorem E239 : pgMm 239 = some (⟨"DictionaryHouseModel", "checkMethod", "(IIII)I"⟩, prog_14_method_53_code, 8, (some .int), []) := rfl
theorem D239_0 : pgDecT 239 0 = some (.aload_n 0, 1) := by decide +kernel
theorem D239_1 : pgDecT 239 1 = some (.iload 4, 2) := by decide +kernel
theorem D239_3 : pgDecT 239 3 = some (.invokevirtual 310, 3) := by decide +kernel
theorem I239_310 : pgIi 239 310 = some (211, 1, 12) := by decide +kernel
theorem D239_6 : pgDecT 239 6 = some (.istore 5, 2) := by decide +kernel
theorem D239_8 : pgDecT 239 8 = some (.iload_n 2, 1) := by decide +kernel
theorem D239_9 : pgDecT 239 9 = some (.iconst 2, 1) := by decide +kernel
theorem D239_10 : pgDecT 239 10 = some (.if_icmp .ne 19, 3) := by decide +kernel
theorem D239_29 : pgDecT 239 29 = some (.aload_n 0, 1) := by decide +kernel
theorem D239_30 : pgDecT 239 30 = some (.iload_n 2, 1) := by decide +kernel
theorem D239_31 : pgDecT 239 31 = some (.iconst 0, 1) := by decide +kernel
theorem D239_32 : pgDecT 239 32 = some (.iconst 0, 1) := by decide +kernel
theorem D239_33 : pgDecT 239 33 = some (.invokevirtual 229, 3) := by decide +kernel
theorem I239_229 : pgIi 239 229 = some (214, 3, 12) := by decide +kernel
theorem D239_36 : pgDecT 239 36 = some (.istore 6, 2) := by decide +kernel
theorem D239_38 : pgDecT 239 38 = some (.iconst 2, 1) := by decide +kernel
theorem D239_39 : pgDecT 239 39 = some (.istore 7, 2) := by decide +kernel
theorem D239_41 : pgDecT 239 41 = some (.iload 7, 2) := by decide +kernel
theorem D239_13 : pgDecT 239 13 = some (.aload_n 0, 1) := by decide +kernel
theorem D239_14 : pgDecT 239 14 = some (.iconst 3, 1) := by decide +kernel
theorem D239_15 : pgDecT 239 15 = some (.aload_n 0, 1) := by decide +kernel
theorem D239_16 : pgDecT 239 16 = some (.iconst 5, 1) := by decide +kernel
theorem D239_17 : pgDecT 239 17 = some (.iconst 0, 1) := by decide +kernel
theorem D239_18 : pgDecT 239 18 = some (.iconst 0, 1) := by decide +kernel
theorem D239_19 : pgDecT 239 19 = some (.invokevirtual 229, 3) := by decide +kernel
theorem D239_22 : pgDecT 239 22 = some (.iconst 0, 1) := by decide +kernel
theorem D239_23 : pgDecT 239 23 = some (.invokevirtual 229, 3) := by decide +kernel
theorem D239_26 : pgDecT 239 26 = some (.goto 10, 3) := by decide +kernel
theorem D239_43 : pgDecT 239 43 = some (.bipush 10, 2) := by decide +kernel
theorem D239_45 : pgDecT 239 45 = some (.if_icmp .ge 18, 3) := by decide +kernel
theorem D239_63 : pgDecT 239 63 = some (.iload 5, 2) := by decide +kernel
theorem D239_65 : pgDecT 239 65 = some (.ifCond .eq 37, 3) := by decide +kernel
theorem D239_102 : pgDecT 239 102 = some (.iconst (-1), 1) := by decide +kernel
theorem D239_103 : pgDecT 239 103 = some (.ireturn, 1) := by decide +kernel
theorem D239_68 : pgDecT 239 68 = some (.aload_n 0, 1) := by decide +kernel
theorem D239_69 : pgDecT 239 69 = some (.aload_n 0, 1) := by decide +kernel
theorem D239_70 : pgDecT 239 70 = some (.getfield 106, 3) := by decide +kernel
theorem F239_106 : pgFf 239 106 = some (12, 38, 3) := by decide +kernel
theorem D239_73 : pgDecT 239 73 = some (.iconst 0, 1) := by decide +kernel
theorem D239_74 : pgDecT 239 74 = some (.iaload, 1) := by decide +kernel
theorem D239_75 : pgDecT 239 75 = some (.aload_n 0, 1) := by decide +kernel
theorem D239_76 : pgDecT 239 76 = some (.aload_n 0, 1) := by decide +kernel
theorem D239_77 : pgDecT 239 77 = some (.getfield 25, 3) := by decide +kernel
theorem F239_25 : pgFf 239 25 = some (12, 8, 3) := by decide +kernel
theorem D239_80 : pgDecT 239 80 = some (.iconst 3, 1) := by decide +kernel
theorem D239_81 : pgDecT 239 81 = some (.iload_n 1, 1) := by decide +kernel
theorem D239_82 : pgDecT 239 82 = some (.imul, 1) := by decide +kernel
theorem D239_83 : pgDecT 239 83 = some (.iload_n 3, 1) := by decide +kernel
theorem D239_84 : pgDecT 239 84 = some (.iadd, 1) := by decide +kernel
theorem D239_85 : pgDecT 239 85 = some (.iaload, 1) := by decide +kernel
theorem D239_86 : pgDecT 239 86 = some (.invokevirtual 253, 3) := by decide +kernel
theorem I239_253 : pgIi 239 253 = some (223, 1, 12) := by decide +kernel
theorem D239_89 : pgDecT 239 89 = some (.invokevirtual 256, 3) := by decide +kernel
theorem I239_256 : pgIi 239 256 = some (216, 2, 12) := by decide +kernel
theorem D239_92 : pgDecT 239 92 = some (.ifCond .eq 10, 3) := by decide +kernel
theorem D239_95 : pgDecT 239 95 = some (.aload_n 0, 1) := by decide +kernel
theorem D239_96 : pgDecT 239 96 = some (.invokevirtual 313, 3) := by decide +kernel
theorem I239_313 : pgIi 239 313 = some (225, 0, 12) := by decide +kernel
theorem D239_99 : pgDecT 239 99 = some (.ifCond .eq 5, 3) := by decide +kernel
theorem D239_104 : pgDecT 239 104 = some (.aload_n 0, 1) := by decide +kernel
theorem D239_105 : pgDecT 239 105 = some (.iconst 0, 1) := by decide +kernel
theorem D239_106 : pgDecT 239 106 = some (.putfield 279, 3) := by decide +kernel
theorem F239_279 : pgFf 239 279 = some (12, 50, 0) := by decide +kernel
theorem D239_109 : pgDecT 239 109 = some (.aload_n 0, 1) := by decide +kernel
theorem D239_110 : pgDecT 239 110 = some (.invokevirtual 320, 3) := by decide +kernel
theorem I239_320 : pgIi 239 320 = some (227, 0, 12) := by decide +kernel
theorem D239_113 : pgDecT 239 113 = some (.aload_n 0, 1) := by decide +kernel
theorem D239_114 : pgDecT 239 114 = some (.getfield 286, 3) := by decide +kernel
theorem F239_286 : pgFf 239 286 = some (12, 47, 1) := by decide +kernel
theorem D239_117 : pgDecT 239 117 = some (.ifCond .eq 6, 3) := by decide +kernel
theorem D239_123 : pgDecT 239 123 = some (.aload_n 0, 1) := by decide +kernel
theorem D239_124 : pgDecT 239 124 = some (.getfield 289, 3) := by decide +kernel
theorem F239_289 : pgFf 239 289 = some (12, 48, 1) := by decide +kernel
theorem D239_127 : pgDecT 239 127 = some (.ifCond .eq 6, 3) := by decide +kernel
theorem D239_133 : pgDecT 239 133 = some (.aload_n 0, 1) := by decide +kernel
theorem D239_134 : pgDecT 239 134 = some (.getfield 282, 3) := by decide +kernel
theorem F239_282 : pgFf 239 282 = some (12, 49, 1) := by decide +kernel
theorem D239_137 : pgDecT 239 137 = some (.ifCond .eq 6, 3) := by decide +kernel
theorem D239_143 : pgDecT 239 143 = some (.aload_n 0, 1) := by decide +kernel
theorem D239_144 : pgDecT 239 144 = some (.iload_n 1, 1) := by decide +kernel
theorem D239_145 : pgDecT 239 145 = some (.iload_n 2, 1) := by decide +kernel
theorem D239_146 : pgDecT 239 146 = some (.iload_n 3, 1) := by decide +kernel
theorem D239_147 : pgDecT 239 147 = some (.invokestatic 335, 3) := by decide +kernel
theorem I239_335 : pgIi 239 335 = some (240, 3, 100) := by decide +kernel
theorem D239_150 : pgDecT 239 150 = some (.invokevirtual 332, 3) := by decide +kernel
theorem I239_332 : pgIi 239 332 = some (234, 1, 12) := by decide +kernel
theorem D239_153 : pgDecT 239 153 = some (.iconst 0, 1) := by decide +kernel
theorem D239_154 : pgDecT 239 154 = some (.ireturn, 1) := by decide +kernel
theorem D239_140 : pgDecT 239 140 = some (.bipush (-4), 2) := by decide +kernel
theorem D239_142 : pgDecT 239 142 = some (.ireturn, 1) := by decide +kernel
theorem D239_130 : pgDecT 239 130 = some (.bipush (-3), 2) := by decide +kernel
theorem D239_132 : pgDecT 239 132 = some (.ireturn, 1) := by decide +kernel
theorem D239_120 : pgDecT 239 120 = some (.bipush (-2), 2) := by decide +kernel
theorem D239_122 : pgDecT 239 122 = some (.ireturn, 1) := by decide +kernel
theorem D239_48 : pgDecT 239 48 = some (.aload_n 0, 1) := by decide +kernel
theorem D239_49 : pgDecT 239 49 = some (.getfield 100, 3) := by decide +kernel
theorem F239_100 : pgFf 239 100 = some (12, 36, 3) := by decide +kernel
theorem D239_52 : pgDecT 239 52 = some (.iload 7, 2) := by decide +kernel
theorem D239_54 : pgDecT 239 54 = some (.iload 6, 2) := by decide +kernel
theorem D239_56 : pgDecT 239 56 = some (.iastore, 1) := by decide +kernel
theorem D239_57 : pgDecT 239 57 = some (.iinc 7 1, 3) := by decide +kernel
theorem D239_60 : pgDecT 239 60 = some (.goto (-19), 3) := by decide +kernel
/-! 239: DictionaryHouseModel.checkMethod (IIII)I -/
def l239 : Nat → Nat → Mm → Int → Int → Int → Int → Int → Int → Int → Option (Int × Mm)
  | 0, _, _, _, _, _, _, _, _, _ => none
  | f + 1, 41, M, x1, x2, x3, x4, x5, x6, x7 => if 10 ≤ x7 then (if x5 = 0 then (some ((-1), M)) else (if 0 ≤ (((3 : Int) * x1) + x3) ∧ (((3 : Int) * x1) + x3) < 18 then (f223 M (M 59 (Int.toNat (((3 : Int) * x1) + x3)))).bind (fun zq30 => (f216 zq30.2 (M 85 (Int.toNat 0)) zq30.1).bind (fun zq36 => if zq36.1 = 0 then (some ((-1), zq36.2)) else (f225 zq36.2).bind (fun zq43 => if zq43.1 = 0 then (f227 (up zq43.2 53 50 0)).bind (fun zq52 => if (zq52.2 53 47) = 0 then (if (zq52.2 53 48) = 0 then (if (zq52.2 53 49) = 0 then (f240 zq52.2 x1 x2 x3).bind (fun q61 => (f234 zq52.2 q61).bind (fun zq66 => some (0, zq66.2))) else (some ((-4), zq52.2))) else (some ((-3), zq52.2))) else (some ((-2), zq52.2))) else (some ((-1), zq43.2))))) else none)) else (if 0 ≤ x7 ∧ x7 < 40 then (if rg (x7 + 1) then (l239 f 41 (up M 83 (Int.toNat x7) x6) x1 x2 x3 x4 x5 x6 (x7 + 1)) else none) else none)
  | _, _, _, _, _, _, _, _, _, _ => none
theorem d239 {L : Nat} {xs : Nat → Int32} (f : Nat) : (∀ (M : Mm) (x1 x2 x3 x4 x5 x6 x7 : Int) (h : mvH) (v : Int) (M' : Mm), l239 f 41 M x1 x2 x3 x4 x5 x6 x7 = some (v, M') → rp h M → rg x1 → rg x2 → rg x3 → rg x4 → rg x5 → rg x6 → rg x7 → evx L xs 7 239 41 [(0, .inr (.inr (.inl (some 53)))), (1, .inl (iz x1)), (2, .inl (iz x2)), (3, .inl (iz x3)), (4, .inl (iz x4)), (5, .inl (iz x5)), (6, .inl (iz x6)), (7, .inl (iz x7))] [] h (.inl (some (.inl v)), 0) M') := by
  induction f with
  | zero => exact (fun M x1 x2 x3 x4 x5 x6 x7 h v M' hs _ _ _ _ _ _ _ _ => by cases hs)
  | succ f ih =>
    intro M x1 x2 x3 x4 x5 x6 x7 h v M' hs R rx1 rx2 rx3 rx4 rx5 rx6 rx7
    rw [l239] at hs
    refine evx_F E239 D239_41 rfl rfl ?_
    refine evx_k (k := 10) E239 D239_43 rfl (by decide) ?_
    by_cases cb26 : 10 ≤ x7
    · rw [if_pos cb26] at hs
      refine evx_F E239 D239_45 rfl (ifT (c2_ge_T rx7 (by decide) cb26)) ?_
      refine evx_F E239 D239_63 rfl rfl ?_
      by_cases cb27 : x5 = 0
      · rw [if_pos cb27] at hs
        refine evx_F E239 D239_65 rfl (ifT (c1_eq_T rx5 cb27)) ?_
        refine evx_F E239 D239_102 rfl rfl ?_
        cases hs
        exact evx_ret E239 D239_103 rfl (fun d => rfl) rfl (show rg _ from (by decide)) R
      · rw [if_neg cb27] at hs
        refine evx_F E239 D239_65 rfl (ifF (c1_eq_F rx5 (by omega))) ?_
        refine evx_F E239 D239_68 rfl rfl ?_
        refine evx_F E239 D239_69 rfl rfl ?_
        refine evx_gfr E239 D239_70 F239_106 H53 rfl R ?_
        refine evx_F E239 D239_73 rfl rfl ?_
        refine evx_ial E239 D239_74 H85 (by decide) R (by decide) ?_
        refine evx_F E239 D239_75 rfl rfl ?_
        refine evx_F E239 D239_76 rfl rfl ?_
        refine evx_gfr E239 D239_77 F239_25 H53 rfl R ?_
        refine evx_F E239 D239_80 rfl rfl ?_
        refine evx_F E239 D239_81 rfl rfl ?_
        refine evx_mul E239 D239_82 ?_
        refine evx_F E239 D239_83 rfl rfl ?_
        refine evx_add E239 D239_84 ?_
        obtain ⟨k28, hs⟩ := ck hs
        refine evx_ial E239 D239_85 H59 (by decide) R k28 ?_
        obtain ⟨⟨q30, M34⟩, e29, hs⟩ := Option.bind_eq_some_iff.mp hs
        dsimp only at hs
        refine evx_cv (D := 6) E239 D239_86 I239_253 rfl rfl H53 ⟨Nat.le_of_ble_eq_true rfl, Nat.le_of_ble_eq_true rfl⟩ ⟨rfl, Nat.le_of_ble_eq_true rfl⟩ rfl R (evx_up (Nat.le_of_ble_eq_true rfl) (c223 R (R.1 59 (Int.toNat (((3 : Int) * x1) + x3))) e29)) ?_
        intro h31 R32 w33
        have w33 : rg q30 := w33
        show evx _ _ _ _ _ _ (.inl (iz q30) :: _) _ _ _
        obtain ⟨⟨q36, M40⟩, e35, hs⟩ := Option.bind_eq_some_iff.mp hs
        dsimp only at hs
        refine evx_cv (D := 6) E239 D239_89 I239_256 rfl rfl H53 ⟨Nat.le_of_ble_eq_true rfl, Nat.le_of_ble_eq_true rfl⟩ ⟨rfl, Nat.le_of_ble_eq_true rfl⟩ rfl R32 (evx_up (Nat.le_of_ble_eq_true rfl) (c216 R32 (R.1 85 (Int.toNat 0)) w33 e35)) ?_
        intro h37 R38 w39
        have w39 : rg q36 := w39
        show evx _ _ _ _ _ _ (.inl (iz q36) :: _) _ _ _
        by_cases cb41 : q36 = 0
        · rw [if_pos cb41] at hs
          refine evx_F E239 D239_92 rfl (ifT (c1_eq_T w39 cb41)) ?_
          refine evx_F E239 D239_102 rfl rfl ?_
          cases hs
          exact evx_ret E239 D239_103 rfl (fun d => rfl) rfl (show rg _ from (by decide)) R38
        · rw [if_neg cb41] at hs
          refine evx_F E239 D239_92 rfl (ifF (c1_eq_F w39 (by omega))) ?_
          refine evx_F E239 D239_95 rfl rfl ?_
          obtain ⟨⟨q43, M47⟩, e42, hs⟩ := Option.bind_eq_some_iff.mp hs
          dsimp only at hs
          refine evx_cv (D := 6) E239 D239_96 I239_313 rfl rfl H53 ⟨Nat.le_of_ble_eq_true rfl, Nat.le_of_ble_eq_true rfl⟩ ⟨rfl, Nat.le_of_ble_eq_true rfl⟩ rfl R38 (evx_up (Nat.le_of_ble_eq_true rfl) (c225 R38  e42)) ?_
          intro h44 R45 w46
          have w46 : rg q43 := w46
          show evx _ _ _ _ _ _ (.inl (iz q43) :: _) _ _ _
          by_cases cb48 : q43 = 0
          · rw [if_pos cb48] at hs
            refine evx_F E239 D239_99 rfl (ifT (c1_eq_T w46 cb48)) ?_
            refine evx_F E239 D239_104 rfl rfl ?_
            refine evx_F E239 D239_105 rfl rfl ?_
            refine evx_pfi (k := 50) E239 D239_106 F239_279 H53 rfl R45 (by decide) rfl ?_
            intro h49 R50
            refine evx_F E239 D239_109 rfl rfl ?_
            obtain ⟨⟨q52, M56⟩, e51, hs⟩ := Option.bind_eq_some_iff.mp hs
            dsimp only at hs
            refine evx_cv (D := 6) E239 D239_110 I239_320 rfl rfl H53 ⟨Nat.le_of_ble_eq_true rfl, Nat.le_of_ble_eq_true rfl⟩ ⟨rfl, Nat.le_of_ble_eq_true rfl⟩ rfl R50 (evx_up (Nat.le_of_ble_eq_true rfl) (c227 R50  e51)) ?_
            intro h53 R54 w55
            refine evx_F E239 D239_113 rfl rfl ?_
            refine evx_gfi (k := 47) E239 D239_114 F239_286 H53 rfl R54 ?_
            by_cases cb57 : (M56 53 47) = 0
            · rw [if_pos cb57] at hs
              refine evx_F E239 D239_117 rfl (ifT (c1_eq_T (R54.1 53 47) cb57)) ?_
              refine evx_F E239 D239_123 rfl rfl ?_
              refine evx_gfi (k := 48) E239 D239_124 F239_289 H53 rfl R54 ?_
              by_cases cb58 : (M56 53 48) = 0
              · rw [if_pos cb58] at hs
                refine evx_F E239 D239_127 rfl (ifT (c1_eq_T (R54.1 53 48) cb58)) ?_
                refine evx_F E239 D239_133 rfl rfl ?_
                refine evx_gfi (k := 49) E239 D239_134 F239_282 H53 rfl R54 ?_
                by_cases cb59 : (M56 53 49) = 0
                · rw [if_pos cb59] at hs
                  refine evx_F E239 D239_137 rfl (ifT (c1_eq_T (R54.1 53 49) cb59)) ?_
                  refine evx_F E239 D239_143 rfl rfl ?_
                  refine evx_F E239 D239_144 rfl rfl ?_
                  refine evx_F E239 D239_145 rfl rfl ?_
                  refine evx_F E239 D239_146 rfl rfl ?_
                  obtain ⟨q61, e60, hs⟩ := Option.bind_eq_some_iff.mp hs
                  refine evx_cs (D := 6) E239 D239_147 I239_335 rfl rfl (Nat.le_of_ble_eq_true rfl) ⟨rfl, Nat.le_of_ble_eq_true rfl⟩ rfl (evx_up (Nat.le_of_ble_eq_true rfl) (c240 R54 rx1 rx2 rx3 e60)) ?_
                  intro h62 R63 w64
                  have w64 : rg q61 := w64
                  show evx _ _ _ _ _ _ (.inl (iz q61) :: _) _ _ _
                  obtain ⟨⟨q66, M70⟩, e65, hs⟩ := Option.bind_eq_some_iff.mp hs
                  dsimp only at hs
                  refine evx_cv (D := 6) E239 D239_150 I239_332 rfl rfl H53 ⟨Nat.le_of_ble_eq_true rfl, Nat.le_of_ble_eq_true rfl⟩ ⟨rfl, Nat.le_of_ble_eq_true rfl⟩ rfl R63 (evx_up (Nat.le_of_ble_eq_true rfl) (c234 R63 w64 e65)) ?_
                  intro h67 R68 w69
                  refine evx_F E239 D239_153 rfl rfl ?_
                  cases hs
                  exact evx_ret E239 D239_154 rfl (fun d => rfl) rfl (show rg _ from (by decide)) R68
                · rw [if_neg cb59] at hs
                  refine evx_F E239 D239_137 rfl (ifF (c1_eq_F (R54.1 53 49) (by omega))) ?_
                  refine evx_k (k := -4) E239 D239_140 rfl (by decide) ?_
                  cases hs
                  exact evx_ret E239 D239_142 rfl (fun d => rfl) rfl (show rg _ from (by decide)) R54
              · rw [if_neg cb58] at hs
                refine evx_F E239 D239_127 rfl (ifF (c1_eq_F (R54.1 53 48) (by omega))) ?_
                refine evx_k (k := -3) E239 D239_130 rfl (by decide) ?_
                cases hs
                exact evx_ret E239 D239_132 rfl (fun d => rfl) rfl (show rg _ from (by decide)) R54
            · rw [if_neg cb57] at hs
              refine evx_F E239 D239_117 rfl (ifF (c1_eq_F (R54.1 53 47) (by omega))) ?_
              refine evx_k (k := -2) E239 D239_120 rfl (by decide) ?_
              cases hs
              exact evx_ret E239 D239_122 rfl (fun d => rfl) rfl (show rg _ from (by decide)) R54
          · rw [if_neg cb48] at hs
            refine evx_F E239 D239_99 rfl (ifF (c1_eq_F w46 (by omega))) ?_
            refine evx_F E239 D239_102 rfl rfl ?_
            cases hs
            exact evx_ret E239 D239_103 rfl (fun d => rfl) rfl (show rg _ from (by decide)) R45
    · rw [if_neg cb26] at hs
      refine evx_F E239 D239_45 rfl (ifF (c2_ge_F rx7 (by decide) (by omega))) ?_
      refine evx_F E239 D239_48 rfl rfl ?_
      refine evx_gfr E239 D239_49 F239_100 H53 rfl R ?_
      refine evx_F E239 D239_52 rfl rfl ?_
      refine evx_F E239 D239_54 rfl rfl ?_
      obtain ⟨k71, hs⟩ := ck hs
      refine evx_ias E239 D239_56 H83 (by decide) R k71 rx6 ?_
      intro h72 R73
      refine evx_inc E239 D239_57 (Nat.le_of_ble_eq_true rfl) rfl ?_
      refine evx_F E239 D239_60 rfl rfl ?_
      obtain ⟨k74, hs⟩ := ck hs
      show evx _ _ _ _ _ [(7, .inl (iz (x7 + 1))), (0, .inr (.inr (.inl (some 53)))), (1, .inl (iz x1)), (2, .inl (iz x2)), (3, .inl (iz x3)), (4, .inl (iz x4)), (5, .inl (iz x5)), (6, .inl (iz x6))] _ _ _ _
      exact evx_lv (lvLe_mk (fm rfl (fm rfl (fm rfl (fm rfl (fm rfl (fm rfl (fm rfl (fm rfl fn)))))))) (fm rfl (fm rfl (fm rfl (fm rfl (fm rfl (fm rfl (fm rfl (fm rfl fn)))))))) (fm rfl (fm rfl (fm rfl (fm rfl (fm rfl (fm rfl (fm rfl (fm rfl fn))))))))) (ih _ _ _ _ _ _ _ _ _ _ _ hs R73 rx1 rx2 rx3 rx4 rx5 rx6 k74)
def f239 (M : Mm) (x1 : Int) (x2 : Int) (x3 : Int) (x4 : Int) : Option (Int × Mm) := (f211 M x4).bind (fun zq2 => if ¬ x2 = 2 then (f214 zq2.2 x2 0 0).bind (fun zq9 => l239 FU 41 zq9.2 x1 x2 x3 x4 zq2.1 zq9.1 2) else (f214 zq2.2 5 0 0).bind (fun zq15 => (f214 zq15.2 3 zq15.1 0).bind (fun zq21 => l239 FU 41 zq21.2 x1 x2 x3 x4 zq2.1 zq21.1 2)))
theorem c239 {L : Nat} {xs : Nat → Int32} {h : mvH} {M : Mm} {x1 x2 x3 x4 : Int} {v : Int} {M' : Mm} (R : rp h M) (rx1 : rg x1) (rx2 : rg x2) (rx3 : rg x3) (rx4 : rg x4) (hs : f239 M x1 x2 x3 x4 = some (v, M')) : evx L xs 7 239 0 [(0, .inr (.inr (.inl (some 53)))), (1, .inl (iz x1)), (2, .inl (iz x2)), (3, .inl (iz x3)), (4, .inl (iz x4))] [] h (.inl (some (.inl v)), 0) M' := by
  unfold f239 at hs
  refine evx_F E239 D239_0 rfl rfl ?_
  refine evx_F E239 D239_1 rfl rfl ?_
  obtain ⟨⟨q2, M6⟩, e1, hs⟩ := Option.bind_eq_some_iff.mp hs
  dsimp only at hs
  refine evx_cv (D := 6) E239 D239_3 I239_310 rfl rfl H53 ⟨Nat.le_of_ble_eq_true rfl, Nat.le_of_ble_eq_true rfl⟩ ⟨rfl, Nat.le_of_ble_eq_true rfl⟩ rfl R (evx_up (Nat.le_of_ble_eq_true rfl) (c211 R rx4 e1)) ?_
  intro h3 R4 w5
  have w5 : rg q2 := w5
  show evx _ _ _ _ _ _ (.inl (iz q2) :: _) _ _ _
  refine evx_F E239 D239_6 rfl rfl ?_
  refine evx_F E239 D239_8 rfl rfl ?_
  refine evx_F E239 D239_9 rfl rfl ?_
  by_cases cb7 : ¬ x2 = 2
  · rw [if_pos cb7] at hs
    refine evx_F E239 D239_10 rfl (ifT (c2_ne_T rx2 (by decide) cb7)) ?_
    refine evx_F E239 D239_29 rfl rfl ?_
    refine evx_F E239 D239_30 rfl rfl ?_
    refine evx_F E239 D239_31 rfl rfl ?_
    refine evx_F E239 D239_32 rfl rfl ?_
    obtain ⟨⟨q9, M13⟩, e8, hs⟩ := Option.bind_eq_some_iff.mp hs
    dsimp only at hs
    refine evx_cv (D := 6) E239 D239_33 I239_229 rfl rfl H53 ⟨Nat.le_of_ble_eq_true rfl, Nat.le_of_ble_eq_true rfl⟩ ⟨rfl, Nat.le_of_ble_eq_true rfl⟩ rfl R4 (evx_up (Nat.le_of_ble_eq_true rfl) (c214 R4 rx2 (by decide) (by decide) e8)) ?_
    intro h10 R11 w12
    have w12 : rg q9 := w12
    show evx _ _ _ _ _ _ (.inl (iz q9) :: _) _ _ _
    refine evx_F E239 D239_36 rfl rfl ?_
    refine evx_F E239 D239_38 rfl rfl ?_
    refine evx_F E239 D239_39 rfl rfl ?_
    show evx _ _ _ _ _ [(7, .inl (iz 2)), (6, .inl (iz q9)), (5, .inl (iz q2)), (0, .inr (.inr (.inl (some 53)))), (1, .inl (iz x1)), (2, .inl (iz x2)), (3, .inl (iz x3)), (4, .inl (iz x4))] _ _ _ _
    exact evx_lv (lvLe_mk (fm rfl (fm rfl (fm rfl (fm rfl (fm rfl (fm rfl (fm rfl (fm rfl fn)))))))) (fm rfl (fm rfl (fm rfl (fm rfl (fm rfl (fm rfl (fm rfl (fm rfl fn)))))))) (fm rfl (fm rfl (fm rfl (fm rfl (fm rfl (fm rfl (fm rfl (fm rfl fn))))))))) ((d239 FU) _ _ _ _ _ _ _ _ _ _ _ hs R11 rx1 rx2 rx3 rx4 w5 w12 (by decide))
  · rw [if_neg cb7] at hs
    refine evx_F E239 D239_10 rfl (ifF (c2_ne_F rx2 (by decide) (by omega))) ?_
    refine evx_F E239 D239_13 rfl rfl ?_
    refine evx_F E239 D239_14 rfl rfl ?_
    refine evx_F E239 D239_15 rfl rfl ?_
    refine evx_F E239 D239_16 rfl rfl ?_
    refine evx_F E239 D239_17 rfl rfl ?_
    refine evx_F E239 D239_18 rfl rfl ?_
    obtain ⟨⟨q15, M19⟩, e14, hs⟩ := Option.bind_eq_some_iff.mp hs
    dsimp only at hs
    refine evx_cv (D := 6) E239 D239_19 I239_229 rfl rfl H53 ⟨Nat.le_of_ble_eq_true rfl, Nat.le_of_ble_eq_true rfl⟩ ⟨rfl, Nat.le_of_ble_eq_true rfl⟩ rfl R4 (evx_up (Nat.le_of_ble_eq_true rfl) (c214 R4 (by decide) (by decide) (by decide) e14)) ?_
    intro h16 R17 w18
    have w18 : rg q15 := w18
    show evx _ _ _ _ _ _ (.inl (iz q15) :: _) _ _ _
    refine evx_F E239 D239_22 rfl rfl ?_
    obtain ⟨⟨q21, M25⟩, e20, hs⟩ := Option.bind_eq_some_iff.mp hs
    dsimp only at hs
    refine evx_cv (D := 6) E239 D239_23 I239_229 rfl rfl H53 ⟨Nat.le_of_ble_eq_true rfl, Nat.le_of_ble_eq_true rfl⟩ ⟨rfl, Nat.le_of_ble_eq_true rfl⟩ rfl R17 (evx_up (Nat.le_of_ble_eq_true rfl) (c214 R17 (by decide) w18 (by decide) e20)) ?_
    intro h22 R23 w24
    have w24 : rg q21 := w24
    show evx _ _ _ _ _ _ (.inl (iz q21) :: _) _ _ _
    refine evx_F E239 D239_26 rfl rfl ?_
    refine evx_F E239 D239_36 rfl rfl ?_
    refine evx_F E239 D239_38 rfl rfl ?_
    refine evx_F E239 D239_39 rfl rfl ?_
    show evx _ _ _ _ _ [(7, .inl (iz 2)), (6, .inl (iz q21)), (5, .inl (iz q2)), (0, .inr (.inr (.inl (some 53)))), (1, .inl (iz x1)), (2, .inl (iz x2)), (3, .inl (iz x3)), (4, .inl (iz x4))] _ _ _ _
    exact evx_lv (lvLe_mk (fm rfl (fm rfl (fm rfl (fm rfl (fm rfl (fm rfl (fm rfl (fm rfl fn)))))))) (fm rfl (fm rfl (fm rfl (fm rfl (fm rfl (fm rfl (fm rfl (fm rfl fn)))))))) (fm rfl (fm rfl (fm rfl (fm rfl (fm rfl (fm rfl (fm rfl (fm rfl fn))))))))) ((d239 FU) _ _ _ _ _ _ _ _ _ _ _ hs R23 rx1 rx2 rx3 rx4 w5 w24 (by decide))
set_option maxRecDepth 20000 in
theorem E241 : pgMm 241 = some (⟨"DictionaryHouseModel", "run", "(II)I"⟩, prog_14_method_66_code, 5, (some .int), []) := rfl
theorem D241_0 : pgDecT 241 0 = some (.iload_n 1, 1) := by decide +kernel
theorem D241_1 : pgDecT 241 1 = some (.ifCond .lt 27, 3) := by decide +kernel
theorem D241_28 : pgDecT 241 28 = some (.iconst 0, 1) := by decide +kernel
theorem D241_29 : pgDecT 241 29 = some (.istore_n 3, 1) := by decide +kernel
theorem D241_30 : pgDecT 241 30 = some (.aload_n 0, 1) := by decide +kernel
theorem D241_31 : pgDecT 241 31 = some (.iload_n 3, 1) := by decide +kernel
theorem D241_32 : pgDecT 241 32 = some (.ifCond .ne 7, 3) := by decide +kernel
theorem D241_35 : pgDecT 241 35 = some (.iconst 1, 1) := by decide +kernel
theorem D241_36 : pgDecT 241 36 = some (.goto 30, 3) := by decide +kernel
theorem D241_66 : pgDecT 241 66 = some (.putfield 182, 3) := by decide +kernel
theorem F241_182 : pgFf 241 182 = some (12, 0, 0) := by decide +kernel
theorem D241_69 : pgDecT 241 69 = some (.aload_n 0, 1) := by decide +kernel
theorem D241_70 : pgDecT 241 70 = some (.getfield 182, 3) := by decide +kernel
theorem D241_73 : pgDecT 241 73 = some (.ifCond .eq 5, 3) := by decide +kernel
theorem D241_76 : pgDecT 241 76 = some (.iconst 0, 1) := by decide +kernel
theorem D241_77 : pgDecT 241 77 = some (.ireturn, 1) := by decide +kernel
theorem D241_4 : pgDecT 241 4 = some (.iload_n 1, 1) := by decide +kernel
theorem D241_5 : pgDecT 241 5 = some (.aload_n 0, 1) := by decide +kernel
theorem D241_6 : pgDecT 241 6 = some (.getfield 223, 3) := by decide +kernel
theorem F241_223 : pgFf 241 223 = some (12, 17, 0) := by decide +kernel
theorem D241_9 : pgDecT 241 9 = some (.if_icmp .ge 19, 3) := by decide +kernel
theorem D241_12 : pgDecT 241 12 = some (.iload_n 2, 1) := by decide +kernel
theorem D241_13 : pgDecT 241 13 = some (.iconst 1, 1) := by decide +kernel
theorem D241_14 : pgDecT 241 14 = some (.if_icmp .lt 14, 3) := by decide +kernel
theorem D241_17 : pgDecT 241 17 = some (.iload_n 2, 1) := by decide +kernel
theorem D241_18 : pgDecT 241 18 = some (.sipush 300, 3) := by decide +kernel
theorem D241_21 : pgDecT 241 21 = some (.if_icmp .gt 7, 3) := by decide +kernel
theorem D241_24 : pgDecT 241 24 = some (.iconst 1, 1) := by decide +kernel
theorem D241_25 : pgDecT 241 25 = some (.goto 4, 3) := by decide +kernel
theorem D241_39 : pgDecT 241 39 = some (.aload_n 0, 1) := by decide +kernel
theorem D241_40 : pgDecT 241 40 = some (.getfield 59, 3) := by decide +kernel
theorem F241_59 : pgFf 241 59 = some (12, 21, 3) := by decide +kernel
theorem D241_43 : pgDecT 241 43 = some (.iload_n 1, 1) := by decide +kernel
theorem D241_44 : pgDecT 241 44 = some (.iaload, 1) := by decide +kernel
theorem D241_45 : pgDecT 241 45 = some (.ifCond .gt 16, 3) := by decide +kernel
theorem D241_61 : pgDecT 241 61 = some (.iconst 2, 1) := by decide +kernel
theorem D241_62 : pgDecT 241 62 = some (.goto 4, 3) := by decide +kernel
theorem D241_48 : pgDecT 241 48 = some (.aload_n 0, 1) := by decide +kernel
theorem D241_49 : pgDecT 241 49 = some (.aload_n 0, 1) := by decide +kernel
theorem D241_50 : pgDecT 241 50 = some (.getfield 53, 3) := by decide +kernel
theorem F241_53 : pgFf 241 53 = some (12, 19, 3) := by decide +kernel
theorem D241_53 : pgDecT 241 53 = some (.iload_n 1, 1) := by decide +kernel
theorem D241_54 : pgDecT 241 54 = some (.iaload, 1) := by decide +kernel
theorem D241_55 : pgDecT 241 55 = some (.invokevirtual 403, 3) := by decide +kernel
theorem I241_403 : pgIi 241 403 = some (242, 1, 12) := by decide +kernel
theorem D241_58 : pgDecT 241 58 = some (.ifCond .ne 7, 3) := by decide +kernel
theorem D241_65 : pgDecT 241 65 = some (.iconst 0, 1) := by decide +kernel
theorem D241_78 : pgDecT 241 78 = some (.aload_n 0, 1) := by decide +kernel
theorem D241_79 : pgDecT 241 79 = some (.iconst 0, 1) := by decide +kernel
theorem D241_80 : pgDecT 241 80 = some (.putfield 351, 3) := by decide +kernel
theorem F241_351 : pgFf 241 351 = some (12, 58, 0) := by decide +kernel
theorem D241_83 : pgDecT 241 83 = some (.aload_n 0, 1) := by decide +kernel
theorem D241_84 : pgDecT 241 84 = some (.iload_n 2, 1) := by decide +kernel
theorem D241_85 : pgDecT 241 85 = some (.putfield 354, 3) := by decide +kernel
theorem F241_354 : pgFf 241 354 = some (12, 59, 0) := by decide +kernel
theorem D241_88 : pgDecT 241 88 = some (.aload_n 0, 1) := by decide +kernel
theorem D241_89 : pgDecT 241 89 = some (.iconst 0, 1) := by decide +kernel
theorem D241_90 : pgDecT 241 90 = some (.putfield 357, 3) := by decide +kernel
theorem F241_357 : pgFf 241 357 = some (12, 60, 1) := by decide +kernel
theorem D241_93 : pgDecT 241 93 = some (.aload_n 0, 1) := by decide +kernel
theorem D241_94 : pgDecT 241 94 = some (.iconst 0, 1) := by decide +kernel
theorem D241_95 : pgDecT 241 95 = some (.putfield 348, 3) := by decide +kernel
theorem F241_348 : pgFf 241 348 = some (12, 61, 0) := by decide +kernel
theorem D241_98 : pgDecT 241 98 = some (.aload_n 0, 1) := by decide +kernel
theorem D241_99 : pgDecT 241 99 = some (.iconst 1, 1) := by decide +kernel
theorem D241_100 : pgDecT 241 100 = some (.putfield 386, 3) := by decide +kernel
theorem F241_386 : pgFf 241 386 = some (12, 68, 0) := by decide +kernel
theorem D241_103 : pgDecT 241 103 = some (.aload_n 0, 1) := by decide +kernel
theorem D241_104 : pgDecT 241 104 = some (.iconst 0, 1) := by decide +kernel
theorem D241_105 : pgDecT 241 105 = some (.putfield 345, 3) := by decide +kernel
theorem F241_345 : pgFf 241 345 = some (12, 71, 0) := by decide +kernel
theorem D241_108 : pgDecT 241 108 = some (.aload_n 0, 1) := by decide +kernel
theorem D241_109 : pgDecT 241 109 = some (.iconst 0, 1) := by decide +kernel
theorem D241_110 : pgDecT 241 110 = some (.iload_n 1, 1) := by decide +kernel
theorem D241_111 : pgDecT 241 111 = some (.aload_n 0, 1) := by decide +kernel
theorem D241_112 : pgDecT 241 112 = some (.getfield 50, 3) := by decide +kernel
theorem F241_50 : pgFf 241 50 = some (12, 18, 3) := by decide +kernel
theorem D241_115 : pgDecT 241 115 = some (.iload_n 1, 1) := by decide +kernel
theorem D241_116 : pgDecT 241 116 = some (.iaload, 1) := by decide +kernel
theorem D241_117 : pgDecT 241 117 = some (.iconst 0, 1) := by decide +kernel
theorem D241_118 : pgDecT 241 118 = some (.iconst (-1), 1) := by decide +kernel
theorem D241_119 : pgDecT 241 119 = some (.iconst 0, 1) := by decide +kernel
theorem D241_120 : pgDecT 241 120 = some (.invokevirtual 376, 3) := by decide +kernel
theorem I241_376 : pgIi 241 376 = some (243, 6, 12) := by decide +kernel
theorem D241_123 : pgDecT 241 123 = some (.aload_n 0, 1) := by decide +kernel
theorem D241_124 : pgDecT 241 124 = some (.getfield 345, 3) := by decide +kernel
theorem D241_127 : pgDecT 241 127 = some (.ifCond .le 17, 3) := by decide +kernel
theorem D241_144 : pgDecT 241 144 = some (.aload_n 0, 1) := by decide +kernel
theorem D241_145 : pgDecT 241 145 = some (.getfield 357, 3) := by decide +kernel
theorem D241_148 : pgDecT 241 148 = some (.ifCond .eq 5, 3) := by decide +kernel
theorem D241_153 : pgDecT 241 153 = some (.aload_n 0, 1) := by decide +kernel
theorem D241_154 : pgDecT 241 154 = some (.iconst 1, 1) := by decide +kernel
theorem D241_155 : pgDecT 241 155 = some (.putfield 409, 3) := by decide +kernel
theorem F241_409 : pgFf 241 409 = some (12, 54, 1) := by decide +kernel
theorem D241_158 : pgDecT 241 158 = some (.aload_n 0, 1) := by decide +kernel
theorem D241_159 : pgDecT 241 159 = some (.aload_n 0, 1) := by decide +kernel
theorem D241_160 : pgDecT 241 160 = some (.getfield 53, 3) := by decide +kernel
theorem D241_163 : pgDecT 241 163 = some (.iload_n 1, 1) := by decide +kernel
theorem D241_164 : pgDecT 241 164 = some (.iaload, 1) := by decide +kernel
theorem D241_165 : pgDecT 241 165 = some (.iconst 1, 1) := by decide +kernel
theorem D241_166 : pgDecT 241 166 = some (.if_icmp .le 7, 3) := by decide +kernel
theorem D241_173 : pgDecT 241 173 = some (.iconst 0, 1) := by decide +kernel
theorem D241_174 : pgDecT 241 174 = some (.putfield 412, 3) := by decide +kernel
theorem F241_412 : pgFf 241 412 = some (12, 55, 1) := by decide +kernel
theorem D241_177 : pgDecT 241 177 = some (.aload_n 0, 1) := by decide +kernel
theorem D241_178 : pgDecT 241 178 = some (.iconst 0, 1) := by decide +kernel
theorem D241_179 : pgDecT 241 179 = some (.putfield 415, 3) := by decide +kernel
theorem F241_415 : pgFf 241 415 = some (12, 56, 0) := by decide +kernel
theorem D241_182 : pgDecT 241 182 = some (.aload_n 0, 1) := by decide +kernel
theorem D241_183 : pgDecT 241 183 = some (.getfield 373, 3) := by decide +kernel
theorem F241_373 : pgFf 241 373 = some (12, 78, 0) := by decide +kernel
theorem D241_186 : pgDecT 241 186 = some (.istore 4, 2) := by decide +kernel
theorem D241_188 : pgDecT 241 188 = some (.aload_n 0, 1) := by decide +kernel
theorem D241_189 : pgDecT 241 189 = some (.getfield 412, 3) := by decide +kernel
theorem D241_192 : pgDecT 241 192 = some (.ifCond .ne 21, 3) := by decide +kernel
theorem D241_195 : pgDecT 241 195 = some (.aload_n 0, 1) := by decide +kernel
theorem D241_196 : pgDecT 241 196 = some (.getfield 133, 3) := by decide +kernel
theorem F241_133 : pgFf 241 133 = some (12, 57, 3) := by decide +kernel
theorem D241_199 : pgDecT 241 199 = some (.iconst 0, 1) := by decide +kernel
theorem D241_200 : pgDecT 241 200 = some (.aload_n 0, 1) := by decide +kernel
theorem D241_201 : pgDecT 241 201 = some (.getfield 139, 3) := by decide +kernel
theorem F241_139 : pgFf 241 139 = some (12, 63, 3) := by decide +kernel
theorem D241_204 : pgDecT 241 204 = some (.iload 4, 2) := by decide +kernel
theorem D241_206 : pgDecT 241 206 = some (.iaload, 1) := by decide +kernel
theorem D241_207 : pgDecT 241 207 = some (.iastore, 1) := by decide +kernel
theorem D241_208 : pgDecT 241 208 = some (.aload_n 0, 1) := by decide +kernel
theorem D241_209 : pgDecT 241 209 = some (.iconst 1, 1) := by decide +kernel
theorem D241_210 : pgDecT 241 210 = some (.putfield 415, 3) := by decide +kernel
theorem D241_213 : pgDecT 241 213 = some (.aload_n 0, 1) := by decide +kernel
theorem D241_169 : pgDecT 241 169 = some (.iconst 1, 1) := by decide +kernel
theorem D241_170 : pgDecT 241 170 = some (.goto 4, 3) := by decide +kernel
theorem D241_151 : pgDecT 241 151 = some (.iconst (-1), 1) := by decide +kernel
theorem D241_152 : pgDecT 241 152 = some (.ireturn, 1) := by decide +kernel
theorem D241_130 : pgDecT 241 130 = some (.aload_n 0, 1) := by decide +kernel
theorem D241_131 : pgDecT 241 131 = some (.getfield 357, 3) := by decide +kernel
theorem D241_134 : pgDecT 241 134 = some (.ifCond .ne 10, 3) := by decide +kernel
theorem D241_137 : pgDecT 241 137 = some (.aload_n 0, 1) := by decide +kernel
theorem D241_138 : pgDecT 241 138 = some (.invokevirtual 406, 3) := by decide +kernel
theorem I241_406 : pgIi 241 406 = some (244, 0, 12) := by decide +kernel
theorem D241_141 : pgDecT 241 141 = some (.goto (-18), 3) := by decide +kernel
theorem D241_214 : pgDecT 241 214 = some (.getfield 412, 3) := by decide +kernel
theorem D241_217 : pgDecT 241 217 = some (.ifCond .eq 57, 3) := by decide +kernel
theorem D241_274 : pgDecT 241 274 = some (.aload_n 0, 1) := by decide +kernel
theorem D241_275 : pgDecT 241 275 = some (.getfield 351, 3) := by decide +kernel
theorem D241_278 : pgDecT 241 278 = some (.ireturn, 1) := by decide +kernel
theorem D241_220 : pgDecT 241 220 = some (.aload_n 0, 1) := by decide +kernel
theorem D241_221 : pgDecT 241 221 = some (.getfield 136, 3) := by decide +kernel
theorem F241_136 : pgFf 241 136 = some (12, 62, 3) := by decide +kernel
theorem D241_224 : pgDecT 241 224 = some (.iload 4, 2) := by decide +kernel
theorem D241_226 : pgDecT 241 226 = some (.iaload, 1) := by decide +kernel
theorem D241_227 : pgDecT 241 227 = some (.iconst 3, 1) := by decide +kernel
theorem D241_228 : pgDecT 241 228 = some (.if_icmp .ne 46, 3) := by decide +kernel
theorem D241_231 : pgDecT 241 231 = some (.aload_n 0, 1) := by decide +kernel
theorem D241_232 : pgDecT 241 232 = some (.getfield 133, 3) := by decide +kernel
theorem D241_235 : pgDecT 241 235 = some (.aload_n 0, 1) := by decide +kernel
theorem D241_236 : pgDecT 241 236 = some (.getfield 415, 3) := by decide +kernel
theorem D241_239 : pgDecT 241 239 = some (.aload_n 0, 1) := by decide +kernel
theorem D241_240 : pgDecT 241 240 = some (.getfield 139, 3) := by decide +kernel
theorem D241_243 : pgDecT 241 243 = some (.aload_n 0, 1) := by decide +kernel
theorem D241_244 : pgDecT 241 244 = some (.getfield 139, 3) := by decide +kernel
theorem D241_247 : pgDecT 241 247 = some (.iload 4, 2) := by decide +kernel
theorem D241_249 : pgDecT 241 249 = some (.iaload, 1) := by decide +kernel
theorem D241_250 : pgDecT 241 250 = some (.iaload, 1) := by decide +kernel
theorem D241_251 : pgDecT 241 251 = some (.iastore, 1) := by decide +kernel
theorem D241_252 : pgDecT 241 252 = some (.aload_n 0, 1) := by decide +kernel
theorem D241_253 : pgDecT 241 253 = some (.dup, 1) := by decide +kernel
theorem D241_254 : pgDecT 241 254 = some (.getfield 415, 3) := by decide +kernel
theorem D241_257 : pgDecT 241 257 = some (.iconst 1, 1) := by decide +kernel
theorem D241_258 : pgDecT 241 258 = some (.iadd, 1) := by decide +kernel
theorem D241_259 : pgDecT 241 259 = some (.putfield 415, 3) := by decide +kernel
theorem D241_262 : pgDecT 241 262 = some (.aload_n 0, 1) := by decide +kernel
theorem D241_263 : pgDecT 241 263 = some (.getfield 142, 3) := by decide +kernel
theorem F241_142 : pgFf 241 142 = some (12, 64, 3) := by decide +kernel
theorem D241_266 : pgDecT 241 266 = some (.iload 4, 2) := by decide +kernel
theorem D241_268 : pgDecT 241 268 = some (.iaload, 1) := by decide +kernel
theorem D241_269 : pgDecT 241 269 = some (.istore 4, 2) := by decide +kernel
theorem D241_271 : pgDecT 241 271 = some (.goto (-58), 3) := by decide +kernel
/-! 241: DictionaryHouseModel.run (II)I -/
def l241 : Nat → Nat → Mm → Int → Int → Int → Int → Option (Int × Mm)
  | 0, _, _, _, _, _, _ => none
  | f + 1, 28, M, x1, x2, _, _ => l241 f 30 M x1 x2 0 0
  | f + 1, 30, M, x1, x2, x3, _ => if ¬ x3 = 0 then (if 0 ≤ x1 ∧ x1 < 20 then (if 0 < (M 70 (Int.toNat x1)) then (l241 f 69 (up M 53 0 2) x1 x2 x3 0) else (f242 M (M 68 (Int.toNat x1))).bind (fun q11 => if ¬ q11 = 0 then (l241 f 69 (up M 53 0 0) x1 x2 x3 0) else (l241 f 69 (up M 53 0 2) x1 x2 x3 0))) else none) else (l241 f 69 (up M 53 0 1) x1 x2 x3 0)
  | f + 1, 69, M, x1, x2, x3, _ => if (M 53 0) = 0 then (if 0 ≤ x1 ∧ x1 < 20 then (f243 (up (up (up (up (up (up M 53 58 0) 53 59 x2) 53 60 0) 53 61 0) 53 68 1) 53 71 0) 0 x1 (M 67 (Int.toNat x1)) 0 (-1) 0).bind (fun zq37 => l241 f 123 zq37.2 x1 x2 x3 0) else none) else (some (0, M))
  | f + 1, 123, M, x1, x2, x3, _ => if (M 53 71) ≤ 0 then (l241 f 144 M x1 x2 x3 0) else (if ¬ (M 53 60) = 0 then (l241 f 144 M x1 x2 x3 0) else (f244 M).bind (fun zq45 => l241 f 123 zq45.2 x1 x2 x3 0))
  | f + 1, 144, M, x1, x2, x3, _ => if (M 53 60) = 0 then (if 0 ≤ x1 ∧ x1 < 20 then (if (M 68 (Int.toNat x1)) ≤ 1 then (l241 f 177 (up (up M 53 54 1) 53 55 0) x1 x2 x3 0) else (l241 f 177 (up (up M 53 54 1) 53 55 1) x1 x2 x3 0)) else none) else (some ((-1), M))
  | f + 1, 177, M, x1, x2, x3, _ => if ¬ (M 53 55) = 0 then (l241 f 213 (up M 53 56 0) x1 x2 x3 (M 53 78)) else (if 0 ≤ (M 53 78) ∧ (M 53 78) < 6000 then (l241 f 213 (up (up (up M 53 56 0) 94 (Int.toNat 0) (M 96 (Int.toNat (M 53 78)))) 53 56 1) x1 x2 x3 (M 53 78)) else none)
  | f + 1, 213, M, x1, x2, x3, x4 => if (M 53 55) = 0 then (l241 f 274 M x1 x2 x3 x4) else (if 0 ≤ x4 ∧ x4 < 6000 then (if ¬ (M 95 (Int.toNat x4)) = 3 then (l241 f 274 M x1 x2 x3 x4) else (if 0 ≤ (M 96 (Int.toNat x4)) ∧ (M 96 (Int.toNat x4)) < 6000 then (if 0 ≤ (M 53 56) ∧ (M 53 56) < 400 then (if rg ((M 53 56) + 1) then (l241 f 213 (up (up M 94 (Int.toNat (M 53 56)) (M 96 (Int.toNat (M 96 (Int.toNat x4))))) 53 56 ((M 53 56) + 1)) x1 x2 x3 (M 97 (Int.toNat x4))) else none) else none) else none)) else none)
  | f + 1, 274, M, x1, x2, x3, x4 => some ((M 53 58), M)
  | _, _, _, _, _, _, _ => none
theorem d241 {L : Nat} {xs : Nat → Int32} (f : Nat) : (∀ (M : Mm) (x1 x2 : Int) (h : mvH) (v : Int) (M' : Mm), l241 f 28 M x1 x2 0 0 = some (v, M') → rp h M → rg x1 → rg x2 → evx L xs 5 241 28 [(0, .inr (.inr (.inl (some 53)))), (1, .inl (iz x1)), (2, .inl (iz x2))] [] h (.inl (some (.inl v)), 0) M') ∧ (∀ (M : Mm) (x1 x2 x3 : Int) (h : mvH) (v : Int) (M' : Mm), l241 f 30 M x1 x2 x3 0 = some (v, M') → rp h M → rg x1 → rg x2 → rg x3 → evx L xs 5 241 30 [(0, .inr (.inr (.inl (some 53)))), (1, .inl (iz x1)), (2, .inl (iz x2)), (3, .inl (iz x3))] [] h (.inl (some (.inl v)), 0) M') ∧ (∀ (M : Mm) (x1 x2 x3 : Int) (h : mvH) (v : Int) (M' : Mm), l241 f 69 M x1 x2 x3 0 = some (v, M') → rp h M → rg x1 → rg x2 → rg x3 → evx L xs 5 241 69 [(0, .inr (.inr (.inl (some 53)))), (1, .inl (iz x1)), (2, .inl (iz x2)), (3, .inl (iz x3))] [] h (.inl (some (.inl v)), 0) M') ∧ (∀ (M : Mm) (x1 x2 x3 : Int) (h : mvH) (v : Int) (M' : Mm), l241 f 123 M x1 x2 x3 0 = some (v, M') → rp h M → rg x1 → rg x2 → rg x3 → evx L xs 5 241 123 [(0, .inr (.inr (.inl (some 53)))), (1, .inl (iz x1)), (2, .inl (iz x2)), (3, .inl (iz x3))] [] h (.inl (some (.inl v)), 0) M') ∧ (∀ (M : Mm) (x1 x2 x3 : Int) (h : mvH) (v : Int) (M' : Mm), l241 f 144 M x1 x2 x3 0 = some (v, M') → rp h M → rg x1 → rg x2 → rg x3 → evx L xs 5 241 144 [(0, .inr (.inr (.inl (some 53)))), (1, .inl (iz x1)), (2, .inl (iz x2)), (3, .inl (iz x3))] [] h (.inl (some (.inl v)), 0) M') ∧ (∀ (M : Mm) (x1 x2 x3 : Int) (h : mvH) (v : Int) (M' : Mm), l241 f 177 M x1 x2 x3 0 = some (v, M') → rp h M → rg x1 → rg x2 → rg x3 → evx L xs 5 241 177 [(0, .inr (.inr (.inl (some 53)))), (1, .inl (iz x1)), (2, .inl (iz x2)), (3, .inl (iz x3))] [] h (.inl (some (.inl v)), 0) M') ∧ (∀ (M : Mm) (x1 x2 x3 x4 : Int) (h : mvH) (v : Int) (M' : Mm), l241 f 213 M x1 x2 x3 x4 = some (v, M') → rp h M → rg x1 → rg x2 → rg x3 → rg x4 → evx L xs 5 241 213 [(0, .inr (.inr (.inl (some 53)))), (1, .inl (iz x1)), (2, .inl (iz x2)), (3, .inl (iz x3)), (4, .inl (iz x4))] [] h (.inl (some (.inl v)), 0) M') ∧ (∀ (M : Mm) (x1 x2 x3 x4 : Int) (h : mvH) (v : Int) (M' : Mm), l241 f 274 M x1 x2 x3 x4 = some (v, M') → rp h M → rg x1 → rg x2 → rg x3 → rg x4 → evx L xs 5 241 274 [(0, .inr (.inr (.inl (some 53)))), (1, .inl (iz x1)), (2, .inl (iz x2)), (3, .inl (iz x3)), (4, .inl (iz x4))] [] h (.inl (some (.inl v)), 0) M') := by
  induction f with
  | zero => exact ⟨(fun M x1 x2 h v M' hs _ _ _ => by cases hs), (fun M x1 x2 x3 h v M' hs _ _ _ _ => by cases hs), (fun M x1 x2 x3 h v M' hs _ _ _ _ => by cases hs), (fun M x1 x2 x3 h v M' hs _ _ _ _ => by cases hs), (fun M x1 x2 x3 h v M' hs _ _ _ _ => by cases hs), (fun M x1 x2 x3 h v M' hs _ _ _ _ => by cases hs), (fun M x1 x2 x3 x4 h v M' hs _ _ _ _ _ => by cases hs), (fun M x1 x2 x3 x4 h v M' hs _ _ _ _ _ => by cases hs)⟩
  | succ f ih =>
    refine ⟨?_, ?_, ?_, ?_, ?_, ?_, ?_, ?_⟩
    · intro M x1 x2 h v M' hs R rx1 rx2
      rw [l241] at hs
      refine evx_F E241 D241_28 rfl rfl ?_
      refine evx_F E241 D241_29 rfl rfl ?_
      show evx _ _ _ _ _ [(3, .inl (iz 0)), (0, .inr (.inr (.inl (some 53)))), (1, .inl (iz x1)), (2, .inl (iz x2))] _ _ _ _
      exact evx_lv (lvLe_mk (fm rfl (fm rfl (fm rfl (fm rfl fn)))) (fm rfl (fm rfl (fm rfl (fm rfl fn)))) (fm rfl (fm rfl (fm rfl (fm rfl fn))))) (ih.2.1 _ _ _ _ _ _ _ hs R rx1 rx2 (by decide))
    · intro M x1 x2 x3 h v M' hs R rx1 rx2 rx3
      rw [l241] at hs
      refine evx_F E241 D241_30 rfl rfl ?_
      refine evx_F E241 D241_31 rfl rfl ?_
      by_cases cb5 : ¬ x3 = 0
      · rw [if_pos cb5] at hs
        refine evx_F E241 D241_32 rfl (ifT (c1_ne_T rx3 cb5)) ?_
        refine evx_F E241 D241_39 rfl rfl ?_
        refine evx_gfr E241 D241_40 F241_59 H53 rfl R ?_
        refine evx_F E241 D241_43 rfl rfl ?_
        obtain ⟨k6, hs⟩ := ck hs
        refine evx_ial E241 D241_44 H70 (by decide) R k6 ?_
        by_cases cb7 : 0 < (M 70 (Int.toNat x1))
        · rw [if_pos cb7] at hs
          refine evx_F E241 D241_45 rfl (ifT (c1_gt_T (R.1 70 (Int.toNat x1)) cb7)) ?_
          refine evx_F E241 D241_61 rfl rfl ?_
          refine evx_F E241 D241_62 rfl rfl ?_
          refine evx_pfi (k := 0) E241 D241_66 F241_182 H53 rfl R (by decide) rfl ?_
          intro h8 R9
          show evx _ _ _ _ _ [(0, .inr (.inr (.inl (some 53)))), (1, .inl (iz x1)), (2, .inl (iz x2)), (3, .inl (iz x3))] _ _ _ _
          exact evx_lv (lvLe_mk (fm rfl (fm rfl (fm rfl (fm rfl fn)))) (fm rfl (fm rfl (fm rfl (fm rfl fn)))) (fm rfl (fm rfl (fm rfl (fm rfl fn))))) (ih.2.2.1 _ _ _ _ _ _ _ hs R9 rx1 rx2 rx3)
        · rw [if_neg cb7] at hs
          refine evx_F E241 D241_45 rfl (ifF (c1_gt_F (R.1 70 (Int.toNat x1)) (by omega))) ?_
          refine evx_F E241 D241_48 rfl rfl ?_
          refine evx_F E241 D241_49 rfl rfl ?_
          refine evx_gfr E241 D241_50 F241_53 H53 rfl R ?_
          refine evx_F E241 D241_53 rfl rfl ?_
          refine evx_ial E241 D241_54 H68 (by decide) R k6 ?_
          obtain ⟨q11, e10, hs⟩ := Option.bind_eq_some_iff.mp hs
          refine evx_cv (D := 4) E241 D241_55 I241_403 rfl rfl H53 ⟨Nat.le_of_ble_eq_true rfl, Nat.le_of_ble_eq_true rfl⟩ ⟨rfl, Nat.le_of_ble_eq_true rfl⟩ rfl R (evx_up (Nat.le_of_ble_eq_true rfl) (c242 R (R.1 68 (Int.toNat x1)) e10)) ?_
          intro h12 R13 w14
          have w14 : rg q11 := w14
          show evx _ _ _ _ _ _ (.inl (iz q11) :: _) _ _ _
          by_cases cb15 : ¬ q11 = 0
          · rw [if_pos cb15] at hs
            refine evx_F E241 D241_58 rfl (ifT (c1_ne_T w14 cb15)) ?_
            refine evx_F E241 D241_65 rfl rfl ?_
            refine evx_pfi (k := 0) E241 D241_66 F241_182 H53 rfl R13 (by decide) rfl ?_
            intro h16 R17
            show evx _ _ _ _ _ [(0, .inr (.inr (.inl (some 53)))), (1, .inl (iz x1)), (2, .inl (iz x2)), (3, .inl (iz x3))] _ _ _ _
            exact evx_lv (lvLe_mk (fm rfl (fm rfl (fm rfl (fm rfl fn)))) (fm rfl (fm rfl (fm rfl (fm rfl fn)))) (fm rfl (fm rfl (fm rfl (fm rfl fn))))) (ih.2.2.1 _ _ _ _ _ _ _ hs R17 rx1 rx2 rx3)
          · rw [if_neg cb15] at hs
            refine evx_F E241 D241_58 rfl (ifF (c1_ne_F w14 (by omega))) ?_
            refine evx_F E241 D241_61 rfl rfl ?_
            refine evx_F E241 D241_62 rfl rfl ?_
            refine evx_pfi (k := 0) E241 D241_66 F241_182 H53 rfl R13 (by decide) rfl ?_
            intro h18 R19
            show evx _ _ _ _ _ [(0, .inr (.inr (.inl (some 53)))), (1, .inl (iz x1)), (2, .inl (iz x2)), (3, .inl (iz x3))] _ _ _ _
            exact evx_lv (lvLe_mk (fm rfl (fm rfl (fm rfl (fm rfl fn)))) (fm rfl (fm rfl (fm rfl (fm rfl fn)))) (fm rfl (fm rfl (fm rfl (fm rfl fn))))) (ih.2.2.1 _ _ _ _ _ _ _ hs R19 rx1 rx2 rx3)
      · rw [if_neg cb5] at hs
        refine evx_F E241 D241_32 rfl (ifF (c1_ne_F rx3 (by omega))) ?_
        refine evx_F E241 D241_35 rfl rfl ?_
        refine evx_F E241 D241_36 rfl rfl ?_
        refine evx_pfi (k := 0) E241 D241_66 F241_182 H53 rfl R (by decide) rfl ?_
        intro h20 R21
        show evx _ _ _ _ _ [(0, .inr (.inr (.inl (some 53)))), (1, .inl (iz x1)), (2, .inl (iz x2)), (3, .inl (iz x3))] _ _ _ _
        exact evx_lv (lvLe_mk (fm rfl (fm rfl (fm rfl (fm rfl fn)))) (fm rfl (fm rfl (fm rfl (fm rfl fn)))) (fm rfl (fm rfl (fm rfl (fm rfl fn))))) (ih.2.2.1 _ _ _ _ _ _ _ hs R21 rx1 rx2 rx3)
    · intro M x1 x2 x3 h v M' hs R rx1 rx2 rx3
      rw [l241] at hs
      refine evx_F E241 D241_69 rfl rfl ?_
      refine evx_gfi (k := 0) E241 D241_70 F241_182 H53 rfl R ?_
      by_cases cb22 : (M 53 0) = 0
      · rw [if_pos cb22] at hs
        refine evx_F E241 D241_73 rfl (ifT (c1_eq_T (R.1 53 0) cb22)) ?_
        refine evx_F E241 D241_78 rfl rfl ?_
        refine evx_F E241 D241_79 rfl rfl ?_
        refine evx_pfi (k := 58) E241 D241_80 F241_351 H53 rfl R (by decide) rfl ?_
        intro h23 R24
        refine evx_F E241 D241_83 rfl rfl ?_
        refine evx_F E241 D241_84 rfl rfl ?_
        refine evx_pfi (k := 59) E241 D241_85 F241_354 H53 rfl R24 rx2 rfl ?_
        intro h25 R26
        refine evx_F E241 D241_88 rfl rfl ?_
        refine evx_F E241 D241_89 rfl rfl ?_
        refine evx_pfi (k := 60) E241 D241_90 F241_357 H53 rfl R26 (by decide) rfl ?_
        intro h27 R28
        refine evx_F E241 D241_93 rfl rfl ?_
        refine evx_F E241 D241_94 rfl rfl ?_
        refine evx_pfi (k := 61) E241 D241_95 F241_348 H53 rfl R28 (by decide) rfl ?_
        intro h29 R30
        refine evx_F E241 D241_98 rfl rfl ?_
        refine evx_F E241 D241_99 rfl rfl ?_
        refine evx_pfi (k := 68) E241 D241_100 F241_386 H53 rfl R30 (by decide) rfl ?_
        intro h31 R32
        refine evx_F E241 D241_103 rfl rfl ?_
        refine evx_F E241 D241_104 rfl rfl ?_
        refine evx_pfi (k := 71) E241 D241_105 F241_345 H53 rfl R32 (by decide) rfl ?_
        intro h33 R34
        refine evx_F E241 D241_108 rfl rfl ?_
        refine evx_F E241 D241_109 rfl rfl ?_
        refine evx_F E241 D241_110 rfl rfl ?_
        refine evx_F E241 D241_111 rfl rfl ?_
        refine evx_gfr E241 D241_112 F241_50 H53 rfl R34 ?_
        refine evx_F E241 D241_115 rfl rfl ?_
        obtain ⟨k35, hs⟩ := ck hs
        refine evx_ial E241 D241_116 H67 (by decide) R34 k35 ?_
        show evx _ _ _ _ _ _ (.inl (iz (M 67 (Int.toNat x1))) :: _) _ _ _
        refine evx_F E241 D241_117 rfl rfl ?_
        refine evx_F E241 D241_118 rfl rfl ?_
        refine evx_F E241 D241_119 rfl rfl ?_
        obtain ⟨⟨q37, M41⟩, e36, hs⟩ := Option.bind_eq_some_iff.mp hs
        dsimp only at hs
        refine evx_cv (D := 4) E241 D241_120 I241_376 rfl rfl H53 ⟨Nat.le_of_ble_eq_true rfl, Nat.le_of_ble_eq_true rfl⟩ ⟨rfl, Nat.le_of_ble_eq_true rfl⟩ rfl R34 (evx_up (Nat.le_of_ble_eq_true rfl) (c243 R34 (by decide) rx1 (R34.1 67 (Int.toNat x1)) (by decide) (by decide) (by decide) e36)) ?_
        intro h38 R39 w40
        show evx _ _ _ _ _ [(0, .inr (.inr (.inl (some 53)))), (1, .inl (iz x1)), (2, .inl (iz x2)), (3, .inl (iz x3))] _ _ _ _
        exact evx_lv (lvLe_mk (fm rfl (fm rfl (fm rfl (fm rfl fn)))) (fm rfl (fm rfl (fm rfl (fm rfl fn)))) (fm rfl (fm rfl (fm rfl (fm rfl fn))))) (ih.2.2.2.1 _ _ _ _ _ _ _ hs R39 rx1 rx2 rx3)
      · rw [if_neg cb22] at hs
        refine evx_F E241 D241_73 rfl (ifF (c1_eq_F (R.1 53 0) (by omega))) ?_
        refine evx_F E241 D241_76 rfl rfl ?_
        cases hs
        exact evx_ret E241 D241_77 rfl (fun d => rfl) rfl (show rg _ from (by decide)) R
    · intro M x1 x2 x3 h v M' hs R rx1 rx2 rx3
      rw [l241] at hs
      refine evx_F E241 D241_123 rfl rfl ?_
      refine evx_gfi (k := 71) E241 D241_124 F241_345 H53 rfl R ?_
      by_cases cb42 : (M 53 71) ≤ 0
      · rw [if_pos cb42] at hs
        refine evx_F E241 D241_127 rfl (ifT (c1_le_T (R.1 53 71) cb42)) ?_
        show evx _ _ _ _ _ [(0, .inr (.inr (.inl (some 53)))), (1, .inl (iz x1)), (2, .inl (iz x2)), (3, .inl (iz x3))] _ _ _ _
        exact evx_lv (lvLe_mk (fm rfl (fm rfl (fm rfl (fm rfl fn)))) (fm rfl (fm rfl (fm rfl (fm rfl fn)))) (fm rfl (fm rfl (fm rfl (fm rfl fn))))) (ih.2.2.2.2.1 _ _ _ _ _ _ _ hs R rx1 rx2 rx3)
      · rw [if_neg cb42] at hs
        refine evx_F E241 D241_127 rfl (ifF (c1_le_F (R.1 53 71) (by omega))) ?_
        refine evx_F E241 D241_130 rfl rfl ?_
        refine evx_gfi (k := 60) E241 D241_131 F241_357 H53 rfl R ?_
        by_cases cb43 : ¬ (M 53 60) = 0
        · rw [if_pos cb43] at hs
          refine evx_F E241 D241_134 rfl (ifT (c1_ne_T (R.1 53 60) cb43)) ?_
          show evx _ _ _ _ _ [(0, .inr (.inr (.inl (some 53)))), (1, .inl (iz x1)), (2, .inl (iz x2)), (3, .inl (iz x3))] _ _ _ _
          exact evx_lv (lvLe_mk (fm rfl (fm rfl (fm rfl (fm rfl fn)))) (fm rfl (fm rfl (fm rfl (fm rfl fn)))) (fm rfl (fm rfl (fm rfl (fm rfl fn))))) (ih.2.2.2.2.1 _ _ _ _ _ _ _ hs R rx1 rx2 rx3)
        · rw [if_neg cb43] at hs
          refine evx_F E241 D241_134 rfl (ifF (c1_ne_F (R.1 53 60) (by omega))) ?_
          refine evx_F E241 D241_137 rfl rfl ?_
          obtain ⟨⟨q45, M49⟩, e44, hs⟩ := Option.bind_eq_some_iff.mp hs
          dsimp only at hs
          refine evx_cv (D := 4) E241 D241_138 I241_406 rfl rfl H53 ⟨Nat.le_of_ble_eq_true rfl, Nat.le_of_ble_eq_true rfl⟩ ⟨rfl, Nat.le_of_ble_eq_true rfl⟩ rfl R (evx_up (Nat.le_of_ble_eq_true rfl) (c244 R  e44)) ?_
          intro h46 R47 w48
          refine evx_F E241 D241_141 rfl rfl ?_
          show evx _ _ _ _ _ [(0, .inr (.inr (.inl (some 53)))), (1, .inl (iz x1)), (2, .inl (iz x2)), (3, .inl (iz x3))] _ _ _ _
          exact evx_lv (lvLe_mk (fm rfl (fm rfl (fm rfl (fm rfl fn)))) (fm rfl (fm rfl (fm rfl (fm rfl fn)))) (fm rfl (fm rfl (fm rfl (fm rfl fn))))) (ih.2.2.2.1 _ _ _ _ _ _ _ hs R47 rx1 rx2 rx3)
    · intro M x1 x2 x3 h v M' hs R rx1 rx2 rx3
      rw [l241] at hs
      refine evx_F E241 D241_144 rfl rfl ?_
      refine evx_gfi (k := 60) E241 D241_145 F241_357 H53 rfl R ?_
      by_cases cb50 : (M 53 60) = 0
      · rw [if_pos cb50] at hs
        refine evx_F E241 D241_148 rfl (ifT (c1_eq_T (R.1 53 60) cb50)) ?_
        refine evx_F E241 D241_153 rfl rfl ?_
        refine evx_F E241 D241_154 rfl rfl ?_
        refine evx_pfi (k := 54) E241 D241_155 F241_409 H53 rfl R (by decide) rfl ?_
        intro h51 R52
        refine evx_F E241 D241_158 rfl rfl ?_
        refine evx_F E241 D241_159 rfl rfl ?_
        refine evx_gfr E241 D241_160 F241_53 H53 rfl R52 ?_
        refine evx_F E241 D241_163 rfl rfl ?_
        obtain ⟨k53, hs⟩ := ck hs
        refine evx_ial E241 D241_164 H68 (by decide) R52 k53 ?_
        show evx _ _ _ _ _ _ (.inl (iz (M 68 (Int.toNat x1))) :: _) _ _ _
        refine evx_F E241 D241_165 rfl rfl ?_
        by_cases cb54 : (M 68 (Int.toNat x1)) ≤ 1
        · rw [if_pos cb54] at hs
          refine evx_F E241 D241_166 rfl (ifT (c2_le_T (R52.1 68 (Int.toNat x1)) (by decide) cb54)) ?_
          refine evx_F E241 D241_173 rfl rfl ?_
          refine evx_pfi (k := 55) E241 D241_174 F241_412 H53 rfl R52 (by decide) rfl ?_
          intro h55 R56
          show evx _ _ _ _ _ [(0, .inr (.inr (.inl (some 53)))), (1, .inl (iz x1)), (2, .inl (iz x2)), (3, .inl (iz x3))] _ _ _ _
          exact evx_lv (lvLe_mk (fm rfl (fm rfl (fm rfl (fm rfl fn)))) (fm rfl (fm rfl (fm rfl (fm rfl fn)))) (fm rfl (fm rfl (fm rfl (fm rfl fn))))) (ih.2.2.2.2.2.1 _ _ _ _ _ _ _ hs R56 rx1 rx2 rx3)
        · rw [if_neg cb54] at hs
          refine evx_F E241 D241_166 rfl (ifF (c2_le_F (R52.1 68 (Int.toNat x1)) (by decide) (by omega))) ?_
          refine evx_F E241 D241_169 rfl rfl ?_
          refine evx_F E241 D241_170 rfl rfl ?_
          refine evx_pfi (k := 55) E241 D241_174 F241_412 H53 rfl R52 (by decide) rfl ?_
          intro h57 R58
          show evx _ _ _ _ _ [(0, .inr (.inr (.inl (some 53)))), (1, .inl (iz x1)), (2, .inl (iz x2)), (3, .inl (iz x3))] _ _ _ _
          exact evx_lv (lvLe_mk (fm rfl (fm rfl (fm rfl (fm rfl fn)))) (fm rfl (fm rfl (fm rfl (fm rfl fn)))) (fm rfl (fm rfl (fm rfl (fm rfl fn))))) (ih.2.2.2.2.2.1 _ _ _ _ _ _ _ hs R58 rx1 rx2 rx3)
      · rw [if_neg cb50] at hs
        refine evx_F E241 D241_148 rfl (ifF (c1_eq_F (R.1 53 60) (by omega))) ?_
        refine evx_F E241 D241_151 rfl rfl ?_
        cases hs
        exact evx_ret E241 D241_152 rfl (fun d => rfl) rfl (show rg _ from (by decide)) R
    · intro M x1 x2 x3 h v M' hs R rx1 rx2 rx3
      rw [l241] at hs
      refine evx_F E241 D241_177 rfl rfl ?_
      refine evx_F E241 D241_178 rfl rfl ?_
      refine evx_pfi (k := 56) E241 D241_179 F241_415 H53 rfl R (by decide) rfl ?_
      intro h59 R60
      refine evx_F E241 D241_182 rfl rfl ?_
      refine evx_gfi (k := 78) E241 D241_183 F241_373 H53 rfl R60 ?_
      show evx _ _ _ _ _ _ (.inl (iz (M 53 78)) :: _) _ _ _
      refine evx_F E241 D241_186 rfl rfl ?_
      refine evx_F E241 D241_188 rfl rfl ?_
      refine evx_gfi (k := 55) E241 D241_189 F241_412 H53 rfl R60 ?_
      show evx _ _ _ _ _ _ (.inl (iz (M 53 55)) :: _) _ _ _
      by_cases cb61 : ¬ (M 53 55) = 0
      · rw [if_pos cb61] at hs
        refine evx_F E241 D241_192 rfl (ifT (c1_ne_T (R60.1 53 55) cb61)) ?_
        show evx _ _ _ _ _ [(4, .inl (iz (M 53 78))), (0, .inr (.inr (.inl (some 53)))), (1, .inl (iz x1)), (2, .inl (iz x2)), (3, .inl (iz x3))] _ _ _ _
        exact evx_lv (lvLe_mk (fm rfl (fm rfl (fm rfl (fm rfl (fm rfl fn))))) (fm rfl (fm rfl (fm rfl (fm rfl (fm rfl fn))))) (fm rfl (fm rfl (fm rfl (fm rfl (fm rfl fn)))))) (ih.2.2.2.2.2.2.1 _ _ _ _ _ _ _ _ hs R60 rx1 rx2 rx3 (R60.1 53 78))
      · rw [if_neg cb61] at hs
        refine evx_F E241 D241_192 rfl (ifF (c1_ne_F (R60.1 53 55) (by omega))) ?_
        refine evx_F E241 D241_195 rfl rfl ?_
        refine evx_gfr E241 D241_196 F241_133 H53 rfl R60 ?_
        refine evx_F E241 D241_199 rfl rfl ?_
        refine evx_F E241 D241_200 rfl rfl ?_
        refine evx_gfr E241 D241_201 F241_139 H53 rfl R60 ?_
        refine evx_F E241 D241_204 rfl rfl ?_
        obtain ⟨k62, hs⟩ := ck hs
        refine evx_ial E241 D241_206 H96 (by decide) R60 k62 ?_
        show evx _ _ _ _ _ _ (.inl (iz (M 96 (Int.toNat (M 53 78)))) :: _) _ _ _
        refine evx_ias E241 D241_207 H94 (by decide) R60 (by decide) (R60.1 96 (Int.toNat (M 53 78))) ?_
        intro h63 R64
        refine evx_F E241 D241_208 rfl rfl ?_
        refine evx_F E241 D241_209 rfl rfl ?_
        refine evx_pfi (k := 56) E241 D241_210 F241_415 H53 rfl R64 (by decide) rfl ?_
        intro h65 R66
        show evx _ _ _ _ _ [(4, .inl (iz (M 53 78))), (0, .inr (.inr (.inl (some 53)))), (1, .inl (iz x1)), (2, .inl (iz x2)), (3, .inl (iz x3))] _ _ _ _
        exact evx_lv (lvLe_mk (fm rfl (fm rfl (fm rfl (fm rfl (fm rfl fn))))) (fm rfl (fm rfl (fm rfl (fm rfl (fm rfl fn))))) (fm rfl (fm rfl (fm rfl (fm rfl (fm rfl fn)))))) (ih.2.2.2.2.2.2.1 _ _ _ _ _ _ _ _ hs R66 rx1 rx2 rx3 (R60.1 53 78))
    · intro M x1 x2 x3 x4 h v M' hs R rx1 rx2 rx3 rx4
      rw [l241] at hs
      refine evx_F E241 D241_213 rfl rfl ?_
      refine evx_gfi (k := 55) E241 D241_214 F241_412 H53 rfl R ?_
      by_cases cb67 : (M 53 55) = 0
      · rw [if_pos cb67] at hs
        refine evx_F E241 D241_217 rfl (ifT (c1_eq_T (R.1 53 55) cb67)) ?_
        show evx _ _ _ _ _ [(0, .inr (.inr (.inl (some 53)))), (1, .inl (iz x1)), (2, .inl (iz x2)), (3, .inl (iz x3)), (4, .inl (iz x4))] _ _ _ _
        exact evx_lv (lvLe_mk (fm rfl (fm rfl (fm rfl (fm rfl (fm rfl fn))))) (fm rfl (fm rfl (fm rfl (fm rfl (fm rfl fn))))) (fm rfl (fm rfl (fm rfl (fm rfl (fm rfl fn)))))) (ih.2.2.2.2.2.2.2 _ _ _ _ _ _ _ _ hs R rx1 rx2 rx3 rx4)
      · rw [if_neg cb67] at hs
        refine evx_F E241 D241_217 rfl (ifF (c1_eq_F (R.1 53 55) (by omega))) ?_
        refine evx_F E241 D241_220 rfl rfl ?_
        refine evx_gfr E241 D241_221 F241_136 H53 rfl R ?_
        refine evx_F E241 D241_224 rfl rfl ?_
        obtain ⟨k68, hs⟩ := ck hs
        refine evx_ial E241 D241_226 H95 (by decide) R k68 ?_
        refine evx_F E241 D241_227 rfl rfl ?_
        by_cases cb69 : ¬ (M 95 (Int.toNat x4)) = 3
        · rw [if_pos cb69] at hs
          refine evx_F E241 D241_228 rfl (ifT (c2_ne_T (R.1 95 (Int.toNat x4)) (by decide) cb69)) ?_
          show evx _ _ _ _ _ [(0, .inr (.inr (.inl (some 53)))), (1, .inl (iz x1)), (2, .inl (iz x2)), (3, .inl (iz x3)), (4, .inl (iz x4))] _ _ _ _
          exact evx_lv (lvLe_mk (fm rfl (fm rfl (fm rfl (fm rfl (fm rfl fn))))) (fm rfl (fm rfl (fm rfl (fm rfl (fm rfl fn))))) (fm rfl (fm rfl (fm rfl (fm rfl (fm rfl fn)))))) (ih.2.2.2.2.2.2.2 _ _ _ _ _ _ _ _ hs R rx1 rx2 rx3 rx4)
        · rw [if_neg cb69] at hs
          refine evx_F E241 D241_228 rfl (ifF (c2_ne_F (R.1 95 (Int.toNat x4)) (by decide) (by omega))) ?_
          refine evx_F E241 D241_231 rfl rfl ?_
          refine evx_gfr E241 D241_232 F241_133 H53 rfl R ?_
          refine evx_F E241 D241_235 rfl rfl ?_
          refine evx_gfi (k := 56) E241 D241_236 F241_415 H53 rfl R ?_
          refine evx_F E241 D241_239 rfl rfl ?_
          refine evx_gfr E241 D241_240 F241_139 H53 rfl R ?_
          refine evx_F E241 D241_243 rfl rfl ?_
          refine evx_gfr E241 D241_244 F241_139 H53 rfl R ?_
          refine evx_F E241 D241_247 rfl rfl ?_
          refine evx_ial E241 D241_249 H96 (by decide) R k68 ?_
          obtain ⟨k70, hs⟩ := ck hs
          refine evx_ial E241 D241_250 H96 (by decide) R k70 ?_
          obtain ⟨k71, hs⟩ := ck hs
          refine evx_ias E241 D241_251 H94 (by decide) R k71 (R.1 96 (Int.toNat (M 96 (Int.toNat x4)))) ?_
          intro h72 R73
          refine evx_F E241 D241_252 rfl rfl ?_
          refine evx_F E241 D241_253 rfl rfl ?_
          refine evx_gfi (k := 56) E241 D241_254 F241_415 H53 rfl R73 ?_
          show evx _ _ _ _ _ _ (.inl (iz (M 53 56)) :: _) _ _ _
          refine evx_F E241 D241_257 rfl rfl ?_
          refine evx_add E241 D241_258 ?_
          obtain ⟨k74, hs⟩ := ck hs
          refine evx_pfi (k := 56) E241 D241_259 F241_415 H53 rfl R73 k74 rfl ?_
          intro h75 R76
          refine evx_F E241 D241_262 rfl rfl ?_
          refine evx_gfr E241 D241_263 F241_142 H53 rfl R76 ?_
          refine evx_F E241 D241_266 rfl rfl ?_
          refine evx_ial E241 D241_268 H97 (by decide) R76 k68 ?_
          show evx _ _ _ _ _ _ (.inl (iz (M 97 (Int.toNat x4))) :: _) _ _ _
          refine evx_F E241 D241_269 rfl rfl ?_
          refine evx_F E241 D241_271 rfl rfl ?_
          show evx _ _ _ _ _ [(4, .inl (iz (M 97 (Int.toNat x4)))), (0, .inr (.inr (.inl (some 53)))), (1, .inl (iz x1)), (2, .inl (iz x2)), (3, .inl (iz x3))] _ _ _ _
          exact evx_lv (lvLe_mk (fm rfl (fm rfl (fm rfl (fm rfl (fm rfl fn))))) (fm rfl (fm rfl (fm rfl (fm rfl (fm rfl fn))))) (fm rfl (fm rfl (fm rfl (fm rfl (fm rfl fn)))))) (ih.2.2.2.2.2.2.1 _ _ _ _ _ _ _ _ hs R76 rx1 rx2 rx3 (R76.1 97 (Int.toNat x4)))
    · intro M x1 x2 x3 x4 h v M' hs R rx1 rx2 rx3 rx4
      rw [l241] at hs
      refine evx_F E241 D241_274 rfl rfl ?_
      refine evx_gfi (k := 58) E241 D241_275 F241_351 H53 rfl R ?_
      cases hs
      exact evx_ret E241 D241_278 rfl (fun d => rfl) rfl (show rg _ from (R.1 53 58)) R
def f241 (M : Mm) (x1 : Int) (x2 : Int) : Option (Int × Mm) := if x1 < 0 then (l241 FU 28 M x1 x2 0 0) else (if (M 53 17) ≤ x1 then (l241 FU 28 M x1 x2 0 0) else (if x2 < 1 then (l241 FU 28 M x1 x2 0 0) else (if 300 < x2 then (l241 FU 28 M x1 x2 0 0) else (l241 FU 30 M x1 x2 1 0))))
theorem c241 {L : Nat} {xs : Nat → Int32} {h : mvH} {M : Mm} {x1 x2 : Int} {v : Int} {M' : Mm} (R : rp h M) (rx1 : rg x1) (rx2 : rg x2) (hs : f241 M x1 x2 = some (v, M')) : evx L xs 5 241 0 [(0, .inr (.inr (.inl (some 53)))), (1, .inl (iz x1)), (2, .inl (iz x2))] [] h (.inl (some (.inl v)), 0) M' := by
  unfold f241 at hs
  refine evx_F E241 D241_0 rfl rfl ?_
  by_cases cb1 : x1 < 0
  · rw [if_pos cb1] at hs
    refine evx_F E241 D241_1 rfl (ifT (c1_lt_T rx1 cb1)) ?_
    show evx _ _ _ _ _ [(0, .inr (.inr (.inl (some 53)))), (1, .inl (iz x1)), (2, .inl (iz x2))] _ _ _ _
    exact evx_lv (lvLe_mk (fm rfl (fm rfl (fm rfl fn))) (fm rfl (fm rfl (fm rfl fn))) (fm rfl (fm rfl (fm rfl fn)))) ((d241 FU).1 _ _ _ _ _ _ hs R rx1 rx2)
  · rw [if_neg cb1] at hs
    refine evx_F E241 D241_1 rfl (ifF (c1_lt_F rx1 (by omega))) ?_
    refine evx_F E241 D241_4 rfl rfl ?_
    refine evx_F E241 D241_5 rfl rfl ?_
    refine evx_gfi (k := 17) E241 D241_6 F241_223 H53 rfl R ?_
    by_cases cb2 : (M 53 17) ≤ x1
    · rw [if_pos cb2] at hs
      refine evx_F E241 D241_9 rfl (ifT (c2_ge_T rx1 (R.1 53 17) cb2)) ?_
      show evx _ _ _ _ _ [(0, .inr (.inr (.inl (some 53)))), (1, .inl (iz x1)), (2, .inl (iz x2))] _ _ _ _
      exact evx_lv (lvLe_mk (fm rfl (fm rfl (fm rfl fn))) (fm rfl (fm rfl (fm rfl fn))) (fm rfl (fm rfl (fm rfl fn)))) ((d241 FU).1 _ _ _ _ _ _ hs R rx1 rx2)
    · rw [if_neg cb2] at hs
      refine evx_F E241 D241_9 rfl (ifF (c2_ge_F rx1 (R.1 53 17) (by omega))) ?_
      refine evx_F E241 D241_12 rfl rfl ?_
      refine evx_F E241 D241_13 rfl rfl ?_
      by_cases cb3 : x2 < 1
      · rw [if_pos cb3] at hs
        refine evx_F E241 D241_14 rfl (ifT (c2_lt_T rx2 (by decide) cb3)) ?_
        show evx _ _ _ _ _ [(0, .inr (.inr (.inl (some 53)))), (1, .inl (iz x1)), (2, .inl (iz x2))] _ _ _ _
        exact evx_lv (lvLe_mk (fm rfl (fm rfl (fm rfl fn))) (fm rfl (fm rfl (fm rfl fn))) (fm rfl (fm rfl (fm rfl fn)))) ((d241 FU).1 _ _ _ _ _ _ hs R rx1 rx2)
      · rw [if_neg cb3] at hs
        refine evx_F E241 D241_14 rfl (ifF (c2_lt_F rx2 (by decide) (by omega))) ?_
        refine evx_F E241 D241_17 rfl rfl ?_
        refine evx_k (k := 300) E241 D241_18 rfl (by decide) ?_
        by_cases cb4 : 300 < x2
        · rw [if_pos cb4] at hs
          refine evx_F E241 D241_21 rfl (ifT (c2_gt_T rx2 (by decide) cb4)) ?_
          show evx _ _ _ _ _ [(0, .inr (.inr (.inl (some 53)))), (1, .inl (iz x1)), (2, .inl (iz x2))] _ _ _ _
          exact evx_lv (lvLe_mk (fm rfl (fm rfl (fm rfl fn))) (fm rfl (fm rfl (fm rfl fn))) (fm rfl (fm rfl (fm rfl fn)))) ((d241 FU).1 _ _ _ _ _ _ hs R rx1 rx2)
        · rw [if_neg cb4] at hs
          refine evx_F E241 D241_21 rfl (ifF (c2_gt_F rx2 (by decide) (by omega))) ?_
          refine evx_F E241 D241_24 rfl rfl ?_
          refine evx_F E241 D241_25 rfl rfl ?_
          refine evx_F E241 D241_29 rfl rfl ?_
          show evx _ _ _ _ _ [(3, .inl (iz 1)), (0, .inr (.inr (.inl (some 53)))), (1, .inl (iz x1)), (2, .inl (iz x2))] _ _ _ _
          exact evx_lv (lvLe_mk (fm rfl (fm rfl (fm rfl (fm rfl fn)))) (fm rfl (fm rfl (fm rfl (fm rfl fn)))) (fm rfl (fm rfl (fm rfl (fm rfl fn))))) ((d241 FU).2.1 _ _ _ _ _ _ _ hs R rx1 rx2 (by decide))
set_option maxRecDepth 20000 in
theorem E24 : pgMm 24 = some (⟨"DictionaryHouseLaw", "type", "(LDictionaryHouse;I[J)I"⟩, method_5_code, 4, (some .int), [(0, 9, 12, 13), (0, 9, 15, 15)]) := rfl
theorem D24_0 : pgDecT 24 0 = some (.aload_n 2, 1) := by decide +kernel
theorem D24_1 : pgDecT 24 1 = some (.iconst 0, 1) := by decide +kernel
theorem D24_2 : pgDecT 24 2 = some (.aload_n 0, 1) := by decide +kernel
theorem D24_3 : pgDecT 24 3 = some (.iload_n 1, 1) := by decide +kernel
theorem D24_4 : pgDecT 24 4 = some (.invokevirtual 21, 3) := by decide +kernel
theorem I24_21 : pgIi 24 21 = some (25, 1, 11) := by decide +kernel
theorem D24_7 : pgDecT 24 7 = some (.i2l, 1) := by decide +kernel
theorem D24_8 : pgDecT 24 8 = some (.lastore, 1) := by decide +kernel
theorem D24_9 : pgDecT 24 9 = some (.goto 9, 3) := by decide +kernel
theorem D24_18 : pgDecT 24 18 = some (.iconst 0, 1) := by decide +kernel
theorem D24_19 : pgDecT 24 19 = some (.ireturn, 1) := by decide +kernel
theorem D24_13 : pgDecT 24 13 = some (.iconst 1, 1) := by decide +kernel
theorem D24_14 : pgDecT 24 14 = some (.ireturn, 1) := by decide +kernel
theorem D24_16 : pgDecT 24 16 = some (.iconst 2, 1) := by decide +kernel
theorem D24_17 : pgDecT 24 17 = some (.ireturn, 1) := by decide +kernel
/-! 24_0_109: DictionaryHouseLaw.type (LDictionaryHouse;I[J)I -/
def f24_0_109 (M : Mm) (x1 : Int) : Option (Int × Mm) := (f25 M x1).bind (fun zq2 => if zq2.1 = 0 then (some (0, (up zq2.2.2 109 (Int.toNat 0) zq2.2.1))) else if zq2.1 = 1 then (some (1, zq2.2.2)) else (some (2, zq2.2.2)))
theorem c24_0_109 {L : Nat} {xs : Nat → Int32} {h : mvH} {M : Mm} {x1 : Int} {v : Int} {M' : Mm} (R : rp h M) (rx1 : rg x1) (hs : f24_0_109 M x1 = some (v, M')) : evx L xs 10 24 0 [(0, .inr (.inr (.inl (some 0)))), (1, .inl (iz x1)), (2, .inr (.inr (.inl (some 109))))] [] h (ow v) M' := by
  unfold f24_0_109 at hs
  refine evx_F E24 D24_0 rfl rfl ?_
  refine evx_F E24 D24_1 rfl rfl ?_
  refine evx_F E24 D24_2 rfl rfl ?_
  refine evx_F E24 D24_3 rfl rfl ?_
  obtain ⟨⟨kq7, q2, M6⟩, e1, hs⟩ := Option.bind_eq_some_iff.mp hs
  dsimp only at hs
  have ge1 := c25 (L := L) (xs := xs) R rx1 e1
  by_cases cb8 : kq7 = 0
  · rw [if_pos cb8] at hs
    subst cb8
    refine evx_cv (D := 9) E24 D24_4 I24_21 rfl rfl H0 ⟨Nat.le_of_ble_eq_true rfl, Nat.le_of_ble_eq_true rfl⟩ ⟨rfl, Nat.le_of_ble_eq_true rfl⟩ rfl R (evx_up (Nat.le_of_ble_eq_true rfl) ge1) ?_
    intro h3 R4 w5
    have w5 : rg q2 := w5
    show evx _ _ _ _ _ _ (.inl (iz q2) :: _) _ _ _
    refine evx_F E24 D24_7 rfl rfl ?_
    refine evx_las E24 D24_8 H109 (by decide) R4 (by decide) w5 ?_
    intro h9 R10
    refine evx_F E24 D24_9 rfl rfl ?_
    refine evx_F E24 D24_18 rfl rfl ?_
    cases hs
    exact evx_ret E24 D24_19 rfl (fun d => rfl) rfl (show rg _ from (by decide)) R10
  · rw [if_neg cb8] at hs
    by_cases cb11 : kq7 = 1
    · rw [if_pos cb11] at hs
      rw [cb11, ot_1] at ge1
      cases hs
      show evx _ _ _ _ _ _ _ _ (.inl (some (.inl 1)), 1 + 0) _
      refine evx_cat (n1 := 1) (n2 := 0) (D := 9) E24 D24_4 I24_21 rfl rfl H0 ⟨Nat.le_of_ble_eq_true rfl, Nat.le_of_ble_eq_true rfl⟩ ⟨rfl, Nat.le_of_ble_eq_true rfl⟩ rfl rfl R (evx_up (Nat.le_of_ble_eq_true rfl) ge1) ?_
      intro h12 R13
      show evx _ _ _ _ _ [(0, .inr (.inr (.inl (some 0)))), (1, .inl (iz x1)), (2, .inr (.inr (.inl (some 109))))] _ _ _ _
      refine evx_F E24 D24_13 rfl rfl ?_
      exact evx_ret E24 D24_14 rfl (fun d => rfl) rfl (show rg _ from (by decide)) R13
    · rw [if_neg cb11] at hs
      rw [ot_2 cb8 cb11] at ge1
      cases hs
      show evx _ _ _ _ _ _ _ _ (.inl (some (.inl 2)), 1 + 0) _
      refine evx_cat (n1 := 1) (n2 := 0) (D := 9) E24 D24_4 I24_21 rfl rfl H0 ⟨Nat.le_of_ble_eq_true rfl, Nat.le_of_ble_eq_true rfl⟩ ⟨rfl, Nat.le_of_ble_eq_true rfl⟩ rfl rfl R (evx_up (Nat.le_of_ble_eq_true rfl) ge1) ?_
      intro h14 R15
      show evx _ _ _ _ _ [(0, .inr (.inr (.inl (some 0)))), (1, .inl (iz x1)), (2, .inr (.inr (.inl (some 109))))] _ _ _ _
      refine evx_F E24 D24_16 rfl rfl ?_
      exact evx_ret E24 D24_17 rfl (fun d => rfl) rfl (show rg _ from (by decide)) R15
set_option maxRecDepth 20000 in
theorem E76 : pgMm 76 = some (⟨"DictionaryHouse$Typing", "findTypeAt", "(I)Z"⟩, prog_12_method_14_code, 3, (some .boolean), []) := rfl
theorem D76_0 : pgDecT 76 0 = some (.aload_n 0, 1) := by decide +kernel
theorem D76_1 : pgDecT 76 1 = some (.iload_n 1, 1) := by decide +kernel
theorem D76_2 : pgDecT 76 2 = some (.invokevirtual 112, 3) := by decide +kernel
theorem I76_112 : pgIi 76 112 = some (77, 1, 10) := by decide +kernel
theorem D76_5 : pgDecT 76 5 = some (.istore_n 2, 1) := by decide +kernel
theorem D76_6 : pgDecT 76 6 = some (.aload_n 0, 1) := by decide +kernel
theorem D76_7 : pgDecT 76 7 = some (.iload_n 1, 1) := by decide +kernel
theorem D76_8 : pgDecT 76 8 = some (.invokevirtual 115, 3) := by decide +kernel
theorem I76_115 : pgIi 76 115 = some (78, 1, 10) := by decide +kernel
theorem D76_11 : pgDecT 76 11 = some (.tableswitch 189 0 5 #[37, 52, 71, 78, 126, 162], 37) := by decide +kernel
theorem D76_48 : pgDecT 76 48 = some (.aload_n 0, 1) := by decide +kernel
theorem D76_49 : pgDecT 76 49 = some (.getfield 12, 3) := by decide +kernel
theorem F76_12 : pgFf 76 12 = some (10, 4, 3) := by decide +kernel
theorem D76_52 : pgDecT 76 52 = some (.aload_n 0, 1) := by decide +kernel
theorem D76_53 : pgDecT 76 53 = some (.getfield 25, 3) := by decide +kernel
theorem F76_25 : pgFf 76 25 = some (10, 7, 3) := by decide +kernel
theorem D76_56 : pgDecT 76 56 = some (.iload_n 1, 1) := by decide +kernel
theorem D76_57 : pgDecT 76 57 = some (.iaload, 1) := by decide +kernel
theorem D76_58 : pgDecT 76 58 = some (.iconst 0, 1) := by decide +kernel
theorem D76_59 : pgDecT 76 59 = some (.invokevirtual 96, 3) := by decide +kernel
theorem I76_96 : pgIi 76 96 = some (79, 2, 5) := by decide +kernel
theorem D76_62 : pgDecT 76 62 = some (.ireturn, 1) := by decide +kernel
theorem D76_63 : pgDecT 76 63 = some (.aload_n 0, 1) := by decide +kernel
theorem D76_64 : pgDecT 76 64 = some (.getfield 12, 3) := by decide +kernel
theorem D76_67 : pgDecT 76 67 = some (.aload_n 0, 1) := by decide +kernel
theorem D76_68 : pgDecT 76 68 = some (.getfield 25, 3) := by decide +kernel
theorem D76_71 : pgDecT 76 71 = some (.iload_n 1, 1) := by decide +kernel
theorem D76_72 : pgDecT 76 72 = some (.iaload, 1) := by decide +kernel
theorem D76_73 : pgDecT 76 73 = some (.aload_n 0, 1) := by decide +kernel
theorem D76_74 : pgDecT 76 74 = some (.iload_n 2, 1) := by decide +kernel
theorem D76_75 : pgDecT 76 75 = some (.invokevirtual 118, 3) := by decide +kernel
theorem I76_118 : pgIi 76 118 = some (82, 1, 10) := by decide +kernel
theorem D76_78 : pgDecT 76 78 = some (.invokevirtual 96, 3) := by decide +kernel
theorem D76_81 : pgDecT 76 81 = some (.ireturn, 1) := by decide +kernel
theorem D76_82 : pgDecT 76 82 = some (.aload_n 0, 1) := by decide +kernel
theorem D76_83 : pgDecT 76 83 = some (.iload_n 1, 1) := by decide +kernel
theorem D76_84 : pgDecT 76 84 = some (.iload_n 2, 1) := by decide +kernel
theorem D76_85 : pgDecT 76 85 = some (.invokevirtual 121, 3) := by decide +kernel
theorem I76_121 : pgIi 76 121 = some (84, 2, 10) := by decide +kernel
theorem D76_88 : pgDecT 76 88 = some (.ireturn, 1) := by decide +kernel
theorem D76_89 : pgDecT 76 89 = some (.aload_n 0, 1) := by decide +kernel
theorem D76_90 : pgDecT 76 90 = some (.getfield 28, 3) := by decide +kernel
theorem F76_28 : pgFf 76 28 = some (10, 8, 3) := by decide +kernel
theorem D76_93 : pgDecT 76 93 = some (.iload_n 1, 1) := by decide +kernel
theorem D76_94 : pgDecT 76 94 = some (.aload_n 0, 1) := by decide +kernel
theorem D76_95 : pgDecT 76 95 = some (.getfield 12, 3) := by decide +kernel
theorem D76_98 : pgDecT 76 98 = some (.iconst 2, 1) := by decide +kernel
theorem D76_99 : pgDecT 76 99 = some (.iconst (-1), 1) := by decide +kernel
theorem D76_100 : pgDecT 76 100 = some (.iconst (-1), 1) := by decide +kernel
theorem D76_101 : pgDecT 76 101 = some (.invokevirtual 80, 3) := by decide +kernel
theorem I76_80 : pgIi 76 80 = some (74, 3, 5) := by decide +kernel
theorem D76_104 : pgDecT 76 104 = some (.iastore, 1) := by decide +kernel
theorem D76_105 : pgDecT 76 105 = some (.aload_n 0, 1) := by decide +kernel
theorem D76_106 : pgDecT 76 106 = some (.getfield 12, 3) := by decide +kernel
theorem D76_109 : pgDecT 76 109 = some (.aload_n 0, 1) := by decide +kernel
theorem D76_110 : pgDecT 76 110 = some (.getfield 25, 3) := by decide +kernel
theorem D76_113 : pgDecT 76 113 = some (.iload_n 1, 1) := by decide +kernel
theorem D76_114 : pgDecT 76 114 = some (.iaload, 1) := by decide +kernel
theorem D76_115 : pgDecT 76 115 = some (.aload_n 0, 1) := by decide +kernel
theorem D76_116 : pgDecT 76 116 = some (.aload_n 0, 1) := by decide +kernel
theorem D76_117 : pgDecT 76 117 = some (.getfield 28, 3) := by decide +kernel
theorem D76_120 : pgDecT 76 120 = some (.iload_n 1, 1) := by decide +kernel
theorem D76_121 : pgDecT 76 121 = some (.iaload, 1) := by decide +kernel
theorem D76_122 : pgDecT 76 122 = some (.aload_n 0, 1) := by decide +kernel
theorem D76_123 : pgDecT 76 123 = some (.getfield 25, 3) := by decide +kernel
theorem D76_126 : pgDecT 76 126 = some (.iload_n 1, 1) := by decide +kernel
theorem D76_127 : pgDecT 76 127 = some (.iconst 1, 1) := by decide +kernel
theorem D76_128 : pgDecT 76 128 = some (.iadd, 1) := by decide +kernel
theorem D76_129 : pgDecT 76 129 = some (.iaload, 1) := by decide +kernel
theorem D76_130 : pgDecT 76 130 = some (.invokevirtual 124, 3) := by decide +kernel
theorem I76_124 : pgIi 76 124 = some (83, 2, 10) := by decide +kernel
theorem D76_133 : pgDecT 76 133 = some (.invokevirtual 96, 3) := by decide +kernel
theorem D76_136 : pgDecT 76 136 = some (.ireturn, 1) := by decide +kernel
theorem D76_137 : pgDecT 76 137 = some (.aload_n 0, 1) := by decide +kernel
theorem D76_138 : pgDecT 76 138 = some (.getfield 12, 3) := by decide +kernel
theorem D76_141 : pgDecT 76 141 = some (.aload_n 0, 1) := by decide +kernel
theorem D76_142 : pgDecT 76 142 = some (.getfield 25, 3) := by decide +kernel
theorem D76_145 : pgDecT 76 145 = some (.iload_n 1, 1) := by decide +kernel
theorem D76_146 : pgDecT 76 146 = some (.iconst 1, 1) := by decide +kernel
theorem D76_147 : pgDecT 76 147 = some (.iadd, 1) := by decide +kernel
theorem D76_148 : pgDecT 76 148 = some (.iaload, 1) := by decide +kernel
theorem D76_149 : pgDecT 76 149 = some (.aload_n 0, 1) := by decide +kernel
theorem D76_150 : pgDecT 76 150 = some (.aload_n 0, 1) := by decide +kernel
theorem D76_151 : pgDecT 76 151 = some (.getfield 25, 3) := by decide +kernel
theorem D76_154 : pgDecT 76 154 = some (.aload_n 0, 1) := by decide +kernel
theorem D76_155 : pgDecT 76 155 = some (.iload_n 1, 1) := by decide +kernel
theorem D76_156 : pgDecT 76 156 = some (.invokevirtual 106, 3) := by decide +kernel
theorem I76_106 : pgIi 76 106 = some (71, 1, 10) := by decide +kernel
theorem D76_159 : pgDecT 76 159 = some (.iaload, 1) := by decide +kernel
theorem D76_160 : pgDecT 76 160 = some (.aload_n 0, 1) := by decide +kernel
theorem D76_161 : pgDecT 76 161 = some (.getfield 25, 3) := by decide +kernel
theorem D76_164 : pgDecT 76 164 = some (.iload_n 1, 1) := by decide +kernel
theorem D76_165 : pgDecT 76 165 = some (.iaload, 1) := by decide +kernel
theorem D76_166 : pgDecT 76 166 = some (.invokevirtual 124, 3) := by decide +kernel
theorem D76_169 : pgDecT 76 169 = some (.invokevirtual 96, 3) := by decide +kernel
theorem D76_172 : pgDecT 76 172 = some (.ireturn, 1) := by decide +kernel
theorem D76_173 : pgDecT 76 173 = some (.aload_n 0, 1) := by decide +kernel
theorem D76_174 : pgDecT 76 174 = some (.iload_n 1, 1) := by decide +kernel
theorem D76_175 : pgDecT 76 175 = some (.aload_n 0, 1) := by decide +kernel
theorem D76_176 : pgDecT 76 176 = some (.getfield 48, 3) := by decide +kernel
theorem F76_48 : pgFf 76 48 = some (10, 1, 3) := by decide +kernel
theorem D76_179 : pgDecT 76 179 = some (.iload_n 2, 1) := by decide +kernel
theorem D76_180 : pgDecT 76 180 = some (.aload_n 0, 1) := by decide +kernel
theorem D76_181 : pgDecT 76 181 = some (.getfield 52, 3) := by decide +kernel
theorem F76_52 : pgFf 76 52 = some (10, 2, 3) := by decide +kernel
theorem D76_184 : pgDecT 76 184 = some (.aload_n 0, 1) := by decide +kernel
theorem D76_185 : pgDecT 76 185 = some (.getfield 18, 3) := by decide +kernel
theorem F76_18 : pgFf 76 18 = some (10, 5, 3) := by decide +kernel
theorem D76_188 : pgDecT 76 188 = some (.iload_n 1, 1) := by decide +kernel
theorem D76_189 : pgDecT 76 189 = some (.iaload, 1) := by decide +kernel
theorem D76_190 : pgDecT 76 190 = some (.invokevirtual 109, 3) := by decide +kernel
theorem I76_109 : pgIi 76 109 = some (72, 1, 4) := by decide +kernel
theorem D76_193 : pgDecT 76 193 = some (.invokevirtual 127, 3) := by decide +kernel
theorem I76_127 : pgIi 76 127 = some (85, 2, 1) := by decide +kernel
theorem D76_196 : pgDecT 76 196 = some (.invokevirtual 132, 3) := by decide +kernel
theorem I76_132 : pgIi 76 132 = some (86, 2, 10) := by decide +kernel
theorem D76_199 : pgDecT 76 199 = some (.ireturn, 1) := by decide +kernel
theorem D76_200 : pgDecT 76 200 = some (.aload_n 0, 1) := by decide +kernel
theorem D76_201 : pgDecT 76 201 = some (.iload_n 1, 1) := by decide +kernel
theorem D76_202 : pgDecT 76 202 = some (.aload_n 0, 1) := by decide +kernel
theorem D76_203 : pgDecT 76 203 = some (.getfield 56, 3) := by decide +kernel
theorem F76_56 : pgFf 76 56 = some (10, 3, 3) := by decide +kernel
theorem D76_206 : pgDecT 76 206 = some (.iload_n 2, 1) := by decide +kernel
theorem D76_207 : pgDecT 76 207 = some (.invokevirtual 135, 3) := by decide +kernel
theorem I76_135 : pgIi 76 135 = some (94, 1, 3) := by decide +kernel
theorem D76_210 : pgDecT 76 210 = some (.invokevirtual 132, 3) := by decide +kernel
theorem D76_213 : pgDecT 76 213 = some (.ireturn, 1) := by decide +kernel
/-! 76: DictionaryHouse$Typing.findTypeAt (I)Z -/
def f76 (M : Mm) (x1 : Int) : Option (Int × Mm) := (f77 M x1).bind (fun q2 => (f78 M x1).bind (fun q7 => if q7 = 0 then (if 0 ≤ x1 ∧ x1 < 60 then (f79 M (M 36 (Int.toNat x1)) 0).bind (fun zq14 => if zq14.1 = 0 ∨ zq14.1 = 1 then (some (zq14.1, zq14.2)) else none) else none) else (if q7 = 1 then (if 0 ≤ x1 ∧ x1 < 60 then (f82 M q2).bind (fun zq23 => (f79 zq23.2 (M 36 (Int.toNat x1)) zq23.1).bind (fun zq29 => if zq29.1 = 0 ∨ zq29.1 = 1 then (some (zq29.1, zq29.2)) else none)) else none) else (if q7 = 2 then (f84 M x1 q2).bind (fun zq37 => if zq37.1 = 0 ∨ zq37.1 = 1 then (some (zq37.1, zq37.2)) else none) else (if q7 = 3 then (f74 M 2 (-1) (-1)).bind (fun zq45 => if 0 ≤ x1 ∧ x1 < 60 then (if 0 ≤ (x1 + 1) ∧ (x1 + 1) < 60 then (f83 (up zq45.2 37 (Int.toNat x1) zq45.1) ((up zq45.2 37 (Int.toNat x1) zq45.1) 37 (Int.toNat x1)) (zq45.2 36 (Int.toNat (x1 + 1)))).bind (fun zq55 => (f79 zq55.2 (zq45.2 36 (Int.toNat x1)) zq55.1).bind (fun zq61 => if zq61.1 = 0 ∨ zq61.1 = 1 then (some (zq61.1, zq61.2)) else none)) else none) else none) else (if q7 = 4 then (if 0 ≤ (x1 + 1) ∧ (x1 + 1) < 60 then (f71 M x1).bind (fun q70 => if 0 ≤ q70 ∧ q70 < 60 then (if 0 ≤ x1 ∧ x1 < 60 then (f83 M (M 36 (Int.toNat q70)) (M 36 (Int.toNat x1))).bind (fun zq77 => (f79 zq77.2 (M 36 (Int.toNat (x1 + 1))) zq77.1).bind (fun zq83 => if zq83.1 = 0 ∨ zq83.1 = 1 then (some (zq83.1, zq83.2)) else none)) else none) else none) else none) else (if q7 = 5 then (if 0 ≤ x1 ∧ x1 < 60 then (f72 M (M 34 (Int.toNat x1))).bind (fun q92 => (f85 M q2 q92).bind (fun q97 => (f86 M x1 q97).bind (fun zq102 => if zq102.1 = 0 ∨ zq102.1 = 1 then (some (zq102.1, zq102.2)) else none))) else none) else ((f94 M q2).bind (fun q109 => (f86 M x1 q109).bind (fun zq114 => if zq114.1 = 0 ∨ zq114.1 = 1 then (some (zq114.1, zq114.2)) else none))))))))))
theorem c76 {L : Nat} {xs : Nat → Int32} {h : mvH} {M : Mm} {x1 : Int} {v : Int} {M' : Mm} (R : rp h M) (rx1 : rg x1) (hs : f76 M x1 = some (v, M')) : evx L xs 5 76 0 [(0, .inr (.inr (.inl (some 24)))), (1, .inl (iz x1))] [] h (.inl (some (.inl v)), 0) M' := by
  unfold f76 at hs
  refine evx_F E76 D76_0 rfl rfl ?_
  refine evx_F E76 D76_1 rfl rfl ?_
  obtain ⟨q2, e1, hs⟩ := Option.bind_eq_some_iff.mp hs
  refine evx_cv (D := 4) E76 D76_2 I76_112 rfl rfl H24 ⟨Nat.le_of_ble_eq_true rfl, Nat.le_of_ble_eq_true rfl⟩ ⟨rfl, Nat.le_of_ble_eq_true rfl⟩ rfl R (evx_up (Nat.le_of_ble_eq_true rfl) (c77 R rx1 e1)) ?_
  intro h3 R4 w5
  have w5 : rg q2 := w5
  show evx _ _ _ _ _ _ (.inl (iz q2) :: _) _ _ _
  refine evx_F E76 D76_5 rfl rfl ?_
  refine evx_F E76 D76_6 rfl rfl ?_
  refine evx_F E76 D76_7 rfl rfl ?_
  obtain ⟨q7, e6, hs⟩ := Option.bind_eq_some_iff.mp hs
  refine evx_cv (D := 4) E76 D76_8 I76_115 rfl rfl H24 ⟨Nat.le_of_ble_eq_true rfl, Nat.le_of_ble_eq_true rfl⟩ ⟨rfl, Nat.le_of_ble_eq_true rfl⟩ rfl R4 (evx_up (Nat.le_of_ble_eq_true rfl) (c78 R4 rx1 e6)) ?_
  intro h8 R9 w10
  have w10 : rg q7 := w10
  show evx _ _ _ _ _ _ (.inl (iz q7) :: _) _ _ _
  by_cases cb11 : q7 = 0
  · rw [if_pos cb11] at hs
    refine evx_tsi (0) E76 D76_11 cb11 (by decide) (by decide) rfl rfl ?_
    refine evx_F E76 D76_48 rfl rfl ?_
    refine evx_gfr E76 D76_49 F76_12 H24 rfl R9 ?_
    refine evx_F E76 D76_52 rfl rfl ?_
    refine evx_gfr E76 D76_53 F76_25 H24 rfl R9 ?_
    refine evx_F E76 D76_56 rfl rfl ?_
    obtain ⟨k12, hs⟩ := ck hs
    refine evx_ial E76 D76_57 H36 (by decide) R9 k12 ?_
    refine evx_F E76 D76_58 rfl rfl ?_
    obtain ⟨⟨q14, M18⟩, e13, hs⟩ := Option.bind_eq_some_iff.mp hs
    dsimp only at hs
    refine evx_cv (D := 4) E76 D76_59 I76_96 rfl rfl H25 ⟨Nat.le_of_ble_eq_true rfl, Nat.le_of_ble_eq_true rfl⟩ ⟨rfl, Nat.le_of_ble_eq_true rfl⟩ rfl R9 (evx_up (Nat.le_of_ble_eq_true rfl) (c79 R9 (R9.1 36 (Int.toNat x1)) (by decide) e13)) ?_
    intro h15 R16 w17
    have w17 : rg q14 := w17
    show evx _ _ _ _ _ _ (.inl (iz q14) :: _) _ _ _
    obtain ⟨k19, hs⟩ := ck hs
    cases hs
    exact evx_retb E76 D76_62 rfl k19 R16
  · rw [if_neg cb11] at hs
    by_cases cb20 : q7 = 1
    · rw [if_pos cb20] at hs
      refine evx_tsi (1) E76 D76_11 cb20 (by decide) (by decide) rfl rfl ?_
      refine evx_F E76 D76_63 rfl rfl ?_
      refine evx_gfr E76 D76_64 F76_12 H24 rfl R9 ?_
      refine evx_F E76 D76_67 rfl rfl ?_
      refine evx_gfr E76 D76_68 F76_25 H24 rfl R9 ?_
      refine evx_F E76 D76_71 rfl rfl ?_
      obtain ⟨k21, hs⟩ := ck hs
      refine evx_ial E76 D76_72 H36 (by decide) R9 k21 ?_
      refine evx_F E76 D76_73 rfl rfl ?_
      refine evx_F E76 D76_74 rfl rfl ?_
      obtain ⟨⟨q23, M27⟩, e22, hs⟩ := Option.bind_eq_some_iff.mp hs
      dsimp only at hs
      refine evx_cv (D := 4) E76 D76_75 I76_118 rfl rfl H24 ⟨Nat.le_of_ble_eq_true rfl, Nat.le_of_ble_eq_true rfl⟩ ⟨rfl, Nat.le_of_ble_eq_true rfl⟩ rfl R9 (evx_up (Nat.le_of_ble_eq_true rfl) (c82 R9 w5 e22)) ?_
      intro h24 R25 w26
      have w26 : rg q23 := w26
      show evx _ _ _ _ _ _ (.inl (iz q23) :: _) _ _ _
      obtain ⟨⟨q29, M33⟩, e28, hs⟩ := Option.bind_eq_some_iff.mp hs
      dsimp only at hs
      refine evx_cv (D := 4) E76 D76_78 I76_96 rfl rfl H25 ⟨Nat.le_of_ble_eq_true rfl, Nat.le_of_ble_eq_true rfl⟩ ⟨rfl, Nat.le_of_ble_eq_true rfl⟩ rfl R25 (evx_up (Nat.le_of_ble_eq_true rfl) (c79 R25 (R9.1 36 (Int.toNat x1)) w26 e28)) ?_
      intro h30 R31 w32
      have w32 : rg q29 := w32
      show evx _ _ _ _ _ _ (.inl (iz q29) :: _) _ _ _
      obtain ⟨k34, hs⟩ := ck hs
      cases hs
      exact evx_retb E76 D76_81 rfl k34 R31
    · rw [if_neg cb20] at hs
      by_cases cb35 : q7 = 2
      · rw [if_pos cb35] at hs
        refine evx_tsi (2) E76 D76_11 cb35 (by decide) (by decide) rfl rfl ?_
        refine evx_F E76 D76_82 rfl rfl ?_
        refine evx_F E76 D76_83 rfl rfl ?_
        refine evx_F E76 D76_84 rfl rfl ?_
        obtain ⟨⟨q37, M41⟩, e36, hs⟩ := Option.bind_eq_some_iff.mp hs
        dsimp only at hs
        refine evx_cv (D := 4) E76 D76_85 I76_121 rfl rfl H24 ⟨Nat.le_of_ble_eq_true rfl, Nat.le_of_ble_eq_true rfl⟩ ⟨rfl, Nat.le_of_ble_eq_true rfl⟩ rfl R9 (evx_up (Nat.le_of_ble_eq_true rfl) (c84 R9 rx1 w5 e36)) ?_
        intro h38 R39 w40
        have w40 : rg q37 := w40
        show evx _ _ _ _ _ _ (.inl (iz q37) :: _) _ _ _
        obtain ⟨k42, hs⟩ := ck hs
        cases hs
        exact evx_retb E76 D76_88 rfl k42 R39
      · rw [if_neg cb35] at hs
        by_cases cb43 : q7 = 3
        · rw [if_pos cb43] at hs
          refine evx_tsi (3) E76 D76_11 cb43 (by decide) (by decide) rfl rfl ?_
          refine evx_F E76 D76_89 rfl rfl ?_
          refine evx_gfr E76 D76_90 F76_28 H24 rfl R9 ?_
          refine evx_F E76 D76_93 rfl rfl ?_
          refine evx_F E76 D76_94 rfl rfl ?_
          refine evx_gfr E76 D76_95 F76_12 H24 rfl R9 ?_
          refine evx_F E76 D76_98 rfl rfl ?_
          refine evx_F E76 D76_99 rfl rfl ?_
          refine evx_F E76 D76_100 rfl rfl ?_
          obtain ⟨⟨q45, M49⟩, e44, hs⟩ := Option.bind_eq_some_iff.mp hs
          dsimp only at hs
          refine evx_cv (D := 4) E76 D76_101 I76_80 rfl rfl H25 ⟨Nat.le_of_ble_eq_true rfl, Nat.le_of_ble_eq_true rfl⟩ ⟨rfl, Nat.le_of_ble_eq_true rfl⟩ rfl R9 (evx_up (Nat.le_of_ble_eq_true rfl) (c74 R9 (by decide) (by decide) (by decide) e44)) ?_
          intro h46 R47 w48
          have w48 : rg q45 := w48
          show evx _ _ _ _ _ _ (.inl (iz q45) :: _) _ _ _
          obtain ⟨k50, hs⟩ := ck hs
          refine evx_ias E76 D76_104 H37 (by decide) R47 k50 w48 ?_
          intro h51 R52
          refine evx_F E76 D76_105 rfl rfl ?_
          refine evx_gfr E76 D76_106 F76_12 H24 rfl R52 ?_
          refine evx_F E76 D76_109 rfl rfl ?_
          refine evx_gfr E76 D76_110 F76_25 H24 rfl R52 ?_
          refine evx_F E76 D76_113 rfl rfl ?_
          refine evx_ial E76 D76_114 H36 (by decide) R52 k50 ?_
          show evx _ _ _ _ _ _ (.inl (iz (M49 36 (Int.toNat x1))) :: _) _ _ _
          refine evx_F E76 D76_115 rfl rfl ?_
          refine evx_F E76 D76_116 rfl rfl ?_
          refine evx_gfr E76 D76_117 F76_28 H24 rfl R52 ?_
          refine evx_F E76 D76_120 rfl rfl ?_
          refine evx_ial E76 D76_121 H37 (by decide) R52 k50 ?_
          refine evx_F E76 D76_122 rfl rfl ?_
          refine evx_gfr E76 D76_123 F76_25 H24 rfl R52 ?_
          refine evx_F E76 D76_126 rfl rfl ?_
          refine evx_F E76 D76_127 rfl rfl ?_
          refine evx_add E76 D76_128 ?_
          obtain ⟨k53, hs⟩ := ck hs
          refine evx_ial E76 D76_129 H36 (by decide) R52 k53 ?_
          show evx _ _ _ _ _ _ (.inl (iz (M49 36 (Int.toNat (x1 + 1)))) :: _) _ _ _
          obtain ⟨⟨q55, M59⟩, e54, hs⟩ := Option.bind_eq_some_iff.mp hs
          dsimp only at hs
          refine evx_cv (D := 4) E76 D76_130 I76_124 rfl rfl H24 ⟨Nat.le_of_ble_eq_true rfl, Nat.le_of_ble_eq_true rfl⟩ ⟨rfl, Nat.le_of_ble_eq_true rfl⟩ rfl R52 (evx_up (Nat.le_of_ble_eq_true rfl) (c83 R52 (R52.1 37 (Int.toNat x1)) (R52.1 36 (Int.toNat (x1 + 1))) e54)) ?_
          intro h56 R57 w58
          have w58 : rg q55 := w58
          show evx _ _ _ _ _ _ (.inl (iz q55) :: _) _ _ _
          obtain ⟨⟨q61, M65⟩, e60, hs⟩ := Option.bind_eq_some_iff.mp hs
          dsimp only at hs
          refine evx_cv (D := 4) E76 D76_133 I76_96 rfl rfl H25 ⟨Nat.le_of_ble_eq_true rfl, Nat.le_of_ble_eq_true rfl⟩ ⟨rfl, Nat.le_of_ble_eq_true rfl⟩ rfl R57 (evx_up (Nat.le_of_ble_eq_true rfl) (c79 R57 (R52.1 36 (Int.toNat x1)) w58 e60)) ?_
          intro h62 R63 w64
          have w64 : rg q61 := w64
          show evx _ _ _ _ _ _ (.inl (iz q61) :: _) _ _ _
          obtain ⟨k66, hs⟩ := ck hs
          cases hs
          exact evx_retb E76 D76_136 rfl k66 R63
        · rw [if_neg cb43] at hs
          by_cases cb67 : q7 = 4
          · rw [if_pos cb67] at hs
            refine evx_tsi (4) E76 D76_11 cb67 (by decide) (by decide) rfl rfl ?_
            refine evx_F E76 D76_137 rfl rfl ?_
            refine evx_gfr E76 D76_138 F76_12 H24 rfl R9 ?_
            refine evx_F E76 D76_141 rfl rfl ?_
            refine evx_gfr E76 D76_142 F76_25 H24 rfl R9 ?_
            refine evx_F E76 D76_145 rfl rfl ?_
            refine evx_F E76 D76_146 rfl rfl ?_
            refine evx_add E76 D76_147 ?_
            obtain ⟨k68, hs⟩ := ck hs
            refine evx_ial E76 D76_148 H36 (by decide) R9 k68 ?_
            refine evx_F E76 D76_149 rfl rfl ?_
            refine evx_F E76 D76_150 rfl rfl ?_
            refine evx_gfr E76 D76_151 F76_25 H24 rfl R9 ?_
            refine evx_F E76 D76_154 rfl rfl ?_
            refine evx_F E76 D76_155 rfl rfl ?_
            obtain ⟨q70, e69, hs⟩ := Option.bind_eq_some_iff.mp hs
            refine evx_cv (D := 4) E76 D76_156 I76_106 rfl rfl H24 ⟨Nat.le_of_ble_eq_true rfl, Nat.le_of_ble_eq_true rfl⟩ ⟨rfl, Nat.le_of_ble_eq_true rfl⟩ rfl R9 (evx_up (Nat.le_of_ble_eq_true rfl) (c71 R9 rx1 e69)) ?_
            intro h71 R72 w73
            have w73 : rg q70 := w73
            show evx _ _ _ _ _ _ (.inl (iz q70) :: _) _ _ _
            obtain ⟨k74, hs⟩ := ck hs
            refine evx_ial E76 D76_159 H36 (by decide) R72 k74 ?_
            refine evx_F E76 D76_160 rfl rfl ?_
            refine evx_gfr E76 D76_161 F76_25 H24 rfl R72 ?_
            refine evx_F E76 D76_164 rfl rfl ?_
            obtain ⟨k75, hs⟩ := ck hs
            refine evx_ial E76 D76_165 H36 (by decide) R72 k75 ?_
            obtain ⟨⟨q77, M81⟩, e76, hs⟩ := Option.bind_eq_some_iff.mp hs
            dsimp only at hs
            refine evx_cv (D := 4) E76 D76_166 I76_124 rfl rfl H24 ⟨Nat.le_of_ble_eq_true rfl, Nat.le_of_ble_eq_true rfl⟩ ⟨rfl, Nat.le_of_ble_eq_true rfl⟩ rfl R72 (evx_up (Nat.le_of_ble_eq_true rfl) (c83 R72 (R72.1 36 (Int.toNat q70)) (R72.1 36 (Int.toNat x1)) e76)) ?_
            intro h78 R79 w80
            have w80 : rg q77 := w80
            show evx _ _ _ _ _ _ (.inl (iz q77) :: _) _ _ _
            obtain ⟨⟨q83, M87⟩, e82, hs⟩ := Option.bind_eq_some_iff.mp hs
            dsimp only at hs
            refine evx_cv (D := 4) E76 D76_169 I76_96 rfl rfl H25 ⟨Nat.le_of_ble_eq_true rfl, Nat.le_of_ble_eq_true rfl⟩ ⟨rfl, Nat.le_of_ble_eq_true rfl⟩ rfl R79 (evx_up (Nat.le_of_ble_eq_true rfl) (c79 R79 (R9.1 36 (Int.toNat (x1 + 1))) w80 e82)) ?_
            intro h84 R85 w86
            have w86 : rg q83 := w86
            show evx _ _ _ _ _ _ (.inl (iz q83) :: _) _ _ _
            obtain ⟨k88, hs⟩ := ck hs
            cases hs
            exact evx_retb E76 D76_172 rfl k88 R85
          · rw [if_neg cb67] at hs
            by_cases cb89 : q7 = 5
            · rw [if_pos cb89] at hs
              refine evx_tsi (5) E76 D76_11 cb89 (by decide) (by decide) rfl rfl ?_
              refine evx_F E76 D76_173 rfl rfl ?_
              refine evx_F E76 D76_174 rfl rfl ?_
              refine evx_F E76 D76_175 rfl rfl ?_
              refine evx_gfr E76 D76_176 F76_48 H24 rfl R9 ?_
              refine evx_F E76 D76_179 rfl rfl ?_
              refine evx_F E76 D76_180 rfl rfl ?_
              refine evx_gfr E76 D76_181 F76_52 H24 rfl R9 ?_
              refine evx_F E76 D76_184 rfl rfl ?_
              refine evx_gfr E76 D76_185 F76_18 H24 rfl R9 ?_
              refine evx_F E76 D76_188 rfl rfl ?_
              obtain ⟨k90, hs⟩ := ck hs
              refine evx_ial E76 D76_189 H34 (by decide) R9 k90 ?_
              obtain ⟨q92, e91, hs⟩ := Option.bind_eq_some_iff.mp hs
              refine evx_cv (D := 4) E76 D76_190 I76_109 rfl rfl H12 ⟨Nat.le_of_ble_eq_true rfl, Nat.le_of_ble_eq_true rfl⟩ ⟨rfl, Nat.le_of_ble_eq_true rfl⟩ rfl R9 (evx_up (Nat.le_of_ble_eq_true rfl) (c72 R9 (R9.1 34 (Int.toNat x1)) e91)) ?_
              intro h93 R94 w95
              have w95 : rg q92 := w95
              show evx _ _ _ _ _ _ (.inl (iz q92) :: _) _ _ _
              obtain ⟨q97, e96, hs⟩ := Option.bind_eq_some_iff.mp hs
              refine evx_cv (D := 4) E76 D76_193 I76_127 rfl rfl H5 ⟨Nat.le_of_ble_eq_true rfl, Nat.le_of_ble_eq_true rfl⟩ ⟨rfl, Nat.le_of_ble_eq_true rfl⟩ rfl R94 (evx_up (Nat.le_of_ble_eq_true rfl) (c85 R94 w5 w95 e96)) ?_
              intro h98 R99 w100
              have w100 : rg q97 := w100
              show evx _ _ _ _ _ _ (.inl (iz q97) :: _) _ _ _
              obtain ⟨⟨q102, M106⟩, e101, hs⟩ := Option.bind_eq_some_iff.mp hs
              dsimp only at hs
              refine evx_cv (D := 4) E76 D76_196 I76_132 rfl rfl H24 ⟨Nat.le_of_ble_eq_true rfl, Nat.le_of_ble_eq_true rfl⟩ ⟨rfl, Nat.le_of_ble_eq_true rfl⟩ rfl R99 (evx_up (Nat.le_of_ble_eq_true rfl) (c86 R99 rx1 w100 e101)) ?_
              intro h103 R104 w105
              have w105 : rg q102 := w105
              show evx _ _ _ _ _ _ (.inl (iz q102) :: _) _ _ _
              obtain ⟨k107, hs⟩ := ck hs
              cases hs
              exact evx_retb E76 D76_199 rfl k107 R104
            · rw [if_neg cb89] at hs
              refine evx_tso E76 D76_11 w10 (by omega) rfl ?_
              refine evx_F E76 D76_200 rfl rfl ?_
              refine evx_F E76 D76_201 rfl rfl ?_
              refine evx_F E76 D76_202 rfl rfl ?_
              refine evx_gfr E76 D76_203 F76_56 H24 rfl R9 ?_
              refine evx_F E76 D76_206 rfl rfl ?_
              obtain ⟨q109, e108, hs⟩ := Option.bind_eq_some_iff.mp hs
              refine evx_cv (D := 4) E76 D76_207 I76_135 rfl rfl H17 ⟨Nat.le_of_ble_eq_true rfl, Nat.le_of_ble_eq_true rfl⟩ ⟨rfl, Nat.le_of_ble_eq_true rfl⟩ rfl R9 (evx_up (Nat.le_of_ble_eq_true rfl) (c94 R9 w5 e108)) ?_
              intro h110 R111 w112
              have w112 : rg q109 := w112
              show evx _ _ _ _ _ _ (.inl (iz q109) :: _) _ _ _
              obtain ⟨⟨q114, M118⟩, e113, hs⟩ := Option.bind_eq_some_iff.mp hs
              dsimp only at hs
              refine evx_cv (D := 4) E76 D76_210 I76_132 rfl rfl H24 ⟨Nat.le_of_ble_eq_true rfl, Nat.le_of_ble_eq_true rfl⟩ ⟨rfl, Nat.le_of_ble_eq_true rfl⟩ rfl R111 (evx_up (Nat.le_of_ble_eq_true rfl) (c86 R111 rx1 w112 e113)) ?_
              intro h115 R116 w117
              have w117 : rg q114 := w117
              show evx _ _ _ _ _ _ (.inl (iz q114) :: _) _ _ _
              obtain ⟨k119, hs⟩ := ck hs
              cases hs
              exact evx_retb E76 D76_213 rfl k119 R116
set_option maxRecDepth 20000 in
theorem E174 : pgMm 174 = some (⟨"DictionaryHouse$Machine", "goOn", "()V"⟩, prog_9_method_15_code, 3, none, []) := rfl
theorem D174_0 : pgDecT 174 0 = some (.aload_n 0, 1) := by decide +kernel
theorem D174_1 : pgDecT 174 1 = some (.dup, 1) := by decide +kernel
theorem D174_2 : pgDecT 174 2 = some (.getfield 48, 3) := by decide +kernel
theorem F174_48 : pgFf 174 48 = some (7, 6, 0) := by decide +kernel
theorem D174_5 : pgDecT 174 5 = some (.iconst 1, 1) := by decide +kernel
theorem D174_6 : pgDecT 174 6 = some (.isub, 1) := by decide +kernel
theorem D174_7 : pgDecT 174 7 = some (.putfield 48, 3) := by decide +kernel
theorem D174_10 : pgDecT 174 10 = some (.aload_n 0, 1) := by decide +kernel
theorem D174_11 : pgDecT 174 11 = some (.getfield 48, 3) := by decide +kernel
theorem D174_14 : pgDecT 174 14 = some (.iconst 5, 1) := by decide +kernel
theorem D174_15 : pgDecT 174 15 = some (.imul, 1) := by decide +kernel
theorem D174_16 : pgDecT 174 16 = some (.istore_n 1, 1) := by decide +kernel
theorem D174_17 : pgDecT 174 17 = some (.aload_n 0, 1) := by decide +kernel
theorem D174_18 : pgDecT 174 18 = some (.getfield 18, 3) := by decide +kernel
theorem F174_18 : pgFf 174 18 = some (7, 5, 3) := by decide +kernel
theorem D174_21 : pgDecT 174 21 = some (.iload_n 1, 1) := by decide +kernel
theorem D174_22 : pgDecT 174 22 = some (.iconst 1, 1) := by decide +kernel
theorem D174_23 : pgDecT 174 23 = some (.iadd, 1) := by decide +kernel
theorem D174_24 : pgDecT 174 24 = some (.iaload, 1) := by decide +kernel
theorem D174_25 : pgDecT 174 25 = some (.istore_n 2, 1) := by decide +kernel
theorem D174_26 : pgDecT 174 26 = some (.aload_n 0, 1) := by decide +kernel
theorem D174_27 : pgDecT 174 27 = some (.getfield 18, 3) := by decide +kernel
theorem D174_30 : pgDecT 174 30 = some (.iload_n 1, 1) := by decide +kernel
theorem D174_31 : pgDecT 174 31 = some (.iaload, 1) := by decide +kernel
theorem D174_32 : pgDecT 174 32 = some (.tableswitch 108 0 2 #[28, 84, 96], 28) := by decide +kernel
theorem D174_60 : pgDecT 174 60 = some (.aload_n 0, 1) := by decide +kernel
theorem D174_61 : pgDecT 174 61 = some (.iload_n 2, 1) := by decide +kernel
theorem D174_62 : pgDecT 174 62 = some (.putfield 84, 3) := by decide +kernel
theorem F174_84 : pgFf 174 84 = some (7, 10, 0) := by decide +kernel
theorem D174_65 : pgDecT 174 65 = some (.aload_n 0, 1) := by decide +kernel
theorem D174_66 : pgDecT 174 66 = some (.aload_n 0, 1) := by decide +kernel
theorem D174_67 : pgDecT 174 67 = some (.getfield 18, 3) := by decide +kernel
theorem D174_70 : pgDecT 174 70 = some (.iload_n 1, 1) := by decide +kernel
theorem D174_71 : pgDecT 174 71 = some (.iconst 2, 1) := by decide +kernel
theorem D174_72 : pgDecT 174 72 = some (.iadd, 1) := by decide +kernel
theorem D174_73 : pgDecT 174 73 = some (.iaload, 1) := by decide +kernel
theorem D174_74 : pgDecT 174 74 = some (.putfield 120, 3) := by decide +kernel
theorem F174_120 : pgFf 174 120 = some (7, 11, 0) := by decide +kernel
theorem D174_77 : pgDecT 174 77 = some (.aload_n 0, 1) := by decide +kernel
theorem D174_78 : pgDecT 174 78 = some (.aload_n 0, 1) := by decide +kernel
theorem D174_79 : pgDecT 174 79 = some (.getfield 18, 3) := by decide +kernel
theorem D174_82 : pgDecT 174 82 = some (.iload_n 1, 1) := by decide +kernel
theorem D174_83 : pgDecT 174 83 = some (.iconst 3, 1) := by decide +kernel
theorem D174_84 : pgDecT 174 84 = some (.iadd, 1) := by decide +kernel
theorem D174_85 : pgDecT 174 85 = some (.iaload, 1) := by decide +kernel
theorem D174_86 : pgDecT 174 86 = some (.putfield 123, 3) := by decide +kernel
theorem F174_123 : pgFf 174 123 = some (7, 12, 0) := by decide +kernel
theorem D174_89 : pgDecT 174 89 = some (.aload_n 0, 1) := by decide +kernel
theorem D174_90 : pgDecT 174 90 = some (.aload_n 0, 1) := by decide +kernel
theorem D174_91 : pgDecT 174 91 = some (.getfield 18, 3) := by decide +kernel
theorem D174_94 : pgDecT 174 94 = some (.iload_n 1, 1) := by decide +kernel
theorem D174_95 : pgDecT 174 95 = some (.iconst 4, 1) := by decide +kernel
theorem D174_96 : pgDecT 174 96 = some (.iadd, 1) := by decide +kernel
theorem D174_97 : pgDecT 174 97 = some (.iaload, 1) := by decide +kernel
theorem D174_98 : pgDecT 174 98 = some (.putfield 126, 3) := by decide +kernel
theorem F174_126 : pgFf 174 126 = some (7, 13, 0) := by decide +kernel
theorem D174_101 : pgDecT 174 101 = some (.aload_n 0, 1) := by decide +kernel
theorem D174_102 : pgDecT 174 102 = some (.iconst 1, 1) := by decide +kernel
theorem D174_103 : pgDecT 174 103 = some (.aload_n 0, 1) := by decide +kernel
theorem D174_104 : pgDecT 174 104 = some (.getfield 99, 3) := by decide +kernel
theorem F174_99 : pgFf 174 99 = some (7, 14, 0) := by decide +kernel
theorem D174_107 : pgDecT 174 107 = some (.iconst (-1), 1) := by decide +kernel
theorem D174_108 : pgDecT 174 108 = some (.iconst (-1), 1) := by decide +kernel
theorem D174_109 : pgDecT 174 109 = some (.iconst (-1), 1) := by decide +kernel
theorem D174_110 : pgDecT 174 110 = some (.invokevirtual 158, 3) := by decide +kernel
theorem I174_158 : pgIi 174 158 = some (166, 5, 7) := by decide +kernel
theorem D174_113 : pgDecT 174 113 = some (.goto 52, 3) := by decide +kernel
theorem D174_165 : pgDecT 174 165 = some (.return_, 1) := by decide +kernel
theorem D174_116 : pgDecT 174 116 = some (.aload_n 0, 1) := by decide +kernel
theorem D174_117 : pgDecT 174 117 = some (.iload_n 2, 1) := by decide +kernel
theorem D174_118 : pgDecT 174 118 = some (.aload_n 0, 1) := by decide +kernel
theorem D174_119 : pgDecT 174 119 = some (.getfield 99, 3) := by decide +kernel
theorem D174_122 : pgDecT 174 122 = some (.invokevirtual 199, 3) := by decide +kernel
theorem I174_199 : pgIi 174 199 = some (175, 2, 7) := by decide +kernel
theorem D174_125 : pgDecT 174 125 = some (.goto 40, 3) := by decide +kernel
theorem D174_128 : pgDecT 174 128 = some (.aload_n 0, 1) := by decide +kernel
theorem D174_129 : pgDecT 174 129 = some (.aload_n 0, 1) := by decide +kernel
theorem D174_130 : pgDecT 174 130 = some (.getfield 99, 3) := by decide +kernel
theorem D174_133 : pgDecT 174 133 = some (.iload_n 2, 1) := by decide +kernel
theorem D174_134 : pgDecT 174 134 = some (.invokevirtual 199, 3) := by decide +kernel
theorem D174_137 : pgDecT 174 137 = some (.goto 28, 3) := by decide +kernel
theorem D174_140 : pgDecT 174 140 = some (.aload_n 0, 1) := by decide +kernel
theorem D174_141 : pgDecT 174 141 = some (.iload_n 2, 1) := by decide +kernel
theorem D174_142 : pgDecT 174 142 = some (.aload_n 0, 1) := by decide +kernel
theorem D174_143 : pgDecT 174 143 = some (.getfield 99, 3) := by decide +kernel
theorem D174_146 : pgDecT 174 146 = some (.aload_n 0, 1) := by decide +kernel
theorem D174_147 : pgDecT 174 147 = some (.getfield 18, 3) := by decide +kernel
theorem D174_150 : pgDecT 174 150 = some (.iload_n 1, 1) := by decide +kernel
theorem D174_151 : pgDecT 174 151 = some (.iconst 2, 1) := by decide +kernel
theorem D174_152 : pgDecT 174 152 = some (.iadd, 1) := by decide +kernel
theorem D174_153 : pgDecT 174 153 = some (.iaload, 1) := by decide +kernel
theorem D174_154 : pgDecT 174 154 = some (.aload_n 0, 1) := by decide +kernel
theorem D174_155 : pgDecT 174 155 = some (.getfield 18, 3) := by decide +kernel
theorem D174_158 : pgDecT 174 158 = some (.iload_n 1, 1) := by decide +kernel
theorem D174_159 : pgDecT 174 159 = some (.iconst 3, 1) := by decide +kernel
theorem D174_160 : pgDecT 174 160 = some (.iadd, 1) := by decide +kernel
theorem D174_161 : pgDecT 174 161 = some (.iaload, 1) := by decide +kernel
theorem D174_162 : pgDecT 174 162 = some (.invokevirtual 202, 3) := by decide +kernel
theorem I174_202 : pgIi 174 202 = some (181, 4, 7) := by decide +kernel
/-! 174: DictionaryHouse$Machine.goOn ()V -/
def f174 (M : Mm) : Option (Int × Mm) := if rg ((M 47 6) - 1) then (if 0 ≤ ((((M 47 6) - 1) * 5) + 1) ∧ ((((M 47 6) - 1) * 5) + 1) < 4515 then (if 0 ≤ (((M 47 6) - 1) * 5) ∧ (((M 47 6) - 1) * 5) < 4515 then (if (M 51 (Int.toNat (((M 47 6) - 1) * 5))) = 0 then (if 0 ≤ ((((M 47 6) - 1) * 5) + 2) ∧ ((((M 47 6) - 1) * 5) + 2) < 4515 then (if 0 ≤ ((((M 47 6) - 1) * 5) + 3) ∧ ((((M 47 6) - 1) * 5) + 3) < 4515 then (if 0 ≤ ((((M 47 6) - 1) * 5) + 4) ∧ ((((M 47 6) - 1) * 5) + 4) < 4515 then (f166 (up (up (up (up (up M 47 6 ((M 47 6) - 1)) 47 10 (M 51 (Int.toNat ((((M 47 6) - 1) * 5) + 1)))) 47 11 (M 51 (Int.toNat ((((M 47 6) - 1) * 5) + 2)))) 47 12 (M 51 (Int.toNat ((((M 47 6) - 1) * 5) + 3)))) 47 13 (M 51 (Int.toNat ((((M 47 6) - 1) * 5) + 4)))) 1 (M 47 14) (-1) (-1) (-1)).bind (fun zq19 => some (0, zq19.2)) else none) else none) else none) else (if (M 51 (Int.toNat (((M 47 6) - 1) * 5))) = 1 then (f175 (up M 47 6 ((M 47 6) - 1)) (M 51 (Int.toNat ((((M 47 6) - 1) * 5) + 1))) (M 47 14)).bind (fun zq26 => some (0, zq26.2)) else (if (M 51 (Int.toNat (((M 47 6) - 1) * 5))) = 2 then (f175 (up M 47 6 ((M 47 6) - 1)) (M 47 14) (M 51 (Int.toNat ((((M 47 6) - 1) * 5) + 1)))).bind (fun zq33 => some (0, zq33.2)) else (if 0 ≤ ((((M 47 6) - 1) * 5) + 2) ∧ ((((M 47 6) - 1) * 5) + 2) < 4515 then (if 0 ≤ ((((M 47 6) - 1) * 5) + 3) ∧ ((((M 47 6) - 1) * 5) + 3) < 4515 then (f181 (up M 47 6 ((M 47 6) - 1)) (M 51 (Int.toNat ((((M 47 6) - 1) * 5) + 1))) (M 47 14) (M 51 (Int.toNat ((((M 47 6) - 1) * 5) + 2))) (M 51 (Int.toNat ((((M 47 6) - 1) * 5) + 3)))).bind (fun zq41 => some (0, zq41.2)) else none) else none)))) else none) else none) else none
theorem c174 {L : Nat} {xs : Nat → Int32} {h : mvH} {M : Mm} {v : Int} {M' : Mm} (R : rp h M)  (hs : f174 M  = some (v, M')) : evx L xs 6 174 0 [(0, .inr (.inr (.inl (some 47))))] [] h (.inl none, 0) M' := by
  unfold f174 at hs
  refine evx_F E174 D174_0 rfl rfl ?_
  refine evx_F E174 D174_1 rfl rfl ?_
  refine evx_gfi (k := 6) E174 D174_2 F174_48 H47 rfl R ?_
  refine evx_F E174 D174_5 rfl rfl ?_
  refine evx_sub E174 D174_6 ?_
  obtain ⟨k1, hs⟩ := ck hs
  refine evx_pfi (k := 6) E174 D174_7 F174_48 H47 rfl R k1 rfl ?_
  intro h2 R3
  refine evx_F E174 D174_10 rfl rfl ?_
  refine evx_gfi (k := 6) E174 D174_11 F174_48 H47 rfl R3 ?_
  show evx _ _ _ _ _ _ (.inl (iz ((M 47 6) - 1)) :: _) _ _ _
  refine evx_F E174 D174_14 rfl rfl ?_
  refine evx_mul E174 D174_15 ?_
  refine evx_F E174 D174_16 rfl rfl ?_
  refine evx_F E174 D174_17 rfl rfl ?_
  refine evx_gfr E174 D174_18 F174_18 H47 rfl R3 ?_
  refine evx_F E174 D174_21 rfl rfl ?_
  refine evx_F E174 D174_22 rfl rfl ?_
  refine evx_add E174 D174_23 ?_
  obtain ⟨k4, hs⟩ := ck hs
  refine evx_ial E174 D174_24 H51 (by decide) R3 k4 ?_
  show evx _ _ _ _ _ _ (.inl (iz (M 51 (Int.toNat ((((M 47 6) - 1) * 5) + 1)))) :: _) _ _ _
  refine evx_F E174 D174_25 rfl rfl ?_
  refine evx_F E174 D174_26 rfl rfl ?_
  refine evx_gfr E174 D174_27 F174_18 H47 rfl R3 ?_
  refine evx_F E174 D174_30 rfl rfl ?_
  obtain ⟨k5, hs⟩ := ck hs
  refine evx_ial E174 D174_31 H51 (by decide) R3 k5 ?_
  show evx _ _ _ _ _ _ (.inl (iz (M 51 (Int.toNat (((M 47 6) - 1) * 5)))) :: _) _ _ _
  by_cases cb6 : (M 51 (Int.toNat (((M 47 6) - 1) * 5))) = 0
  · rw [if_pos cb6] at hs
    refine evx_tsi (0) E174 D174_32 cb6 (by decide) (by decide) rfl rfl ?_
    refine evx_F E174 D174_60 rfl rfl ?_
    refine evx_F E174 D174_61 rfl rfl ?_
    refine evx_pfi (k := 10) E174 D174_62 F174_84 H47 rfl R3 (R3.1 51 (Int.toNat ((((M 47 6) - 1) * 5) + 1))) rfl ?_
    intro h7 R8
    refine evx_F E174 D174_65 rfl rfl ?_
    refine evx_F E174 D174_66 rfl rfl ?_
    refine evx_gfr E174 D174_67 F174_18 H47 rfl R8 ?_
    refine evx_F E174 D174_70 rfl rfl ?_
    refine evx_F E174 D174_71 rfl rfl ?_
    refine evx_add E174 D174_72 ?_
    obtain ⟨k9, hs⟩ := ck hs
    refine evx_ial E174 D174_73 H51 (by decide) R8 k9 ?_
    show evx _ _ _ _ _ _ (.inl (iz (M 51 (Int.toNat ((((M 47 6) - 1) * 5) + 2)))) :: _) _ _ _
    refine evx_pfi (k := 11) E174 D174_74 F174_120 H47 rfl R8 (R8.1 51 (Int.toNat ((((M 47 6) - 1) * 5) + 2))) rfl ?_
    intro h10 R11
    refine evx_F E174 D174_77 rfl rfl ?_
    refine evx_F E174 D174_78 rfl rfl ?_
    refine evx_gfr E174 D174_79 F174_18 H47 rfl R11 ?_
    refine evx_F E174 D174_82 rfl rfl ?_
    refine evx_F E174 D174_83 rfl rfl ?_
    refine evx_add E174 D174_84 ?_
    obtain ⟨k12, hs⟩ := ck hs
    refine evx_ial E174 D174_85 H51 (by decide) R11 k12 ?_
    show evx _ _ _ _ _ _ (.inl (iz (M 51 (Int.toNat ((((M 47 6) - 1) * 5) + 3)))) :: _) _ _ _
    refine evx_pfi (k := 12) E174 D174_86 F174_123 H47 rfl R11 (R11.1 51 (Int.toNat ((((M 47 6) - 1) * 5) + 3))) rfl ?_
    intro h13 R14
    refine evx_F E174 D174_89 rfl rfl ?_
    refine evx_F E174 D174_90 rfl rfl ?_
    refine evx_gfr E174 D174_91 F174_18 H47 rfl R14 ?_
    refine evx_F E174 D174_94 rfl rfl ?_
    refine evx_F E174 D174_95 rfl rfl ?_
    refine evx_add E174 D174_96 ?_
    obtain ⟨k15, hs⟩ := ck hs
    refine evx_ial E174 D174_97 H51 (by decide) R14 k15 ?_
    show evx _ _ _ _ _ _ (.inl (iz (M 51 (Int.toNat ((((M 47 6) - 1) * 5) + 4)))) :: _) _ _ _
    refine evx_pfi (k := 13) E174 D174_98 F174_126 H47 rfl R14 (R14.1 51 (Int.toNat ((((M 47 6) - 1) * 5) + 4))) rfl ?_
    intro h16 R17
    refine evx_F E174 D174_101 rfl rfl ?_
    refine evx_F E174 D174_102 rfl rfl ?_
    refine evx_F E174 D174_103 rfl rfl ?_
    refine evx_gfi (k := 14) E174 D174_104 F174_99 H47 rfl R17 ?_
    show evx _ _ _ _ _ _ (.inl (iz (M 47 14)) :: _) _ _ _
    refine evx_F E174 D174_107 rfl rfl ?_
    refine evx_F E174 D174_108 rfl rfl ?_
    refine evx_F E174 D174_109 rfl rfl ?_
    obtain ⟨⟨q19, M23⟩, e18, hs⟩ := Option.bind_eq_some_iff.mp hs
    dsimp only at hs
    refine evx_cv (D := 5) E174 D174_110 I174_158 rfl rfl H47 ⟨Nat.le_of_ble_eq_true rfl, Nat.le_of_ble_eq_true rfl⟩ ⟨rfl, Nat.le_of_ble_eq_true rfl⟩ rfl R17 (evx_up (Nat.le_of_ble_eq_true rfl) (c166 R17 (by decide) (R17.1 47 14) (by decide) (by decide) (by decide) e18)) ?_
    intro h20 R21 w22
    refine evx_F E174 D174_113 rfl rfl ?_
    cases hs
    exact evx_ret E174 D174_165 rfl (fun d => rfl) rfl trivial R21
  · rw [if_neg cb6] at hs
    by_cases cb24 : (M 51 (Int.toNat (((M 47 6) - 1) * 5))) = 1
    · rw [if_pos cb24] at hs
      refine evx_tsi (1) E174 D174_32 cb24 (by decide) (by decide) rfl rfl ?_
      refine evx_F E174 D174_116 rfl rfl ?_
      refine evx_F E174 D174_117 rfl rfl ?_
      refine evx_F E174 D174_118 rfl rfl ?_
      refine evx_gfi (k := 14) E174 D174_119 F174_99 H47 rfl R3 ?_
      show evx _ _ _ _ _ _ (.inl (iz (M 47 14)) :: _) _ _ _
      obtain ⟨⟨q26, M30⟩, e25, hs⟩ := Option.bind_eq_some_iff.mp hs
      dsimp only at hs
      refine evx_cv (D := 5) E174 D174_122 I174_199 rfl rfl H47 ⟨Nat.le_of_ble_eq_true rfl, Nat.le_of_ble_eq_true rfl⟩ ⟨rfl, Nat.le_of_ble_eq_true rfl⟩ rfl R3 (evx_up (Nat.le_of_ble_eq_true rfl) (c175 R3 (R3.1 51 (Int.toNat ((((M 47 6) - 1) * 5) + 1))) (R3.1 47 14) e25)) ?_
      intro h27 R28 w29
      refine evx_F E174 D174_125 rfl rfl ?_
      cases hs
      exact evx_ret E174 D174_165 rfl (fun d => rfl) rfl trivial R28
    · rw [if_neg cb24] at hs
      by_cases cb31 : (M 51 (Int.toNat (((M 47 6) - 1) * 5))) = 2
      · rw [if_pos cb31] at hs
        refine evx_tsi (2) E174 D174_32 cb31 (by decide) (by decide) rfl rfl ?_
        refine evx_F E174 D174_128 rfl rfl ?_
        refine evx_F E174 D174_129 rfl rfl ?_
        refine evx_gfi (k := 14) E174 D174_130 F174_99 H47 rfl R3 ?_
        show evx _ _ _ _ _ _ (.inl (iz (M 47 14)) :: _) _ _ _
        refine evx_F E174 D174_133 rfl rfl ?_
        obtain ⟨⟨q33, M37⟩, e32, hs⟩ := Option.bind_eq_some_iff.mp hs
        dsimp only at hs
        refine evx_cv (D := 5) E174 D174_134 I174_199 rfl rfl H47 ⟨Nat.le_of_ble_eq_true rfl, Nat.le_of_ble_eq_true rfl⟩ ⟨rfl, Nat.le_of_ble_eq_true rfl⟩ rfl R3 (evx_up (Nat.le_of_ble_eq_true rfl) (c175 R3 (R3.1 47 14) (R3.1 51 (Int.toNat ((((M 47 6) - 1) * 5) + 1))) e32)) ?_
        intro h34 R35 w36
        refine evx_F E174 D174_137 rfl rfl ?_
        cases hs
        exact evx_ret E174 D174_165 rfl (fun d => rfl) rfl trivial R35
      · rw [if_neg cb31] at hs
        refine evx_tso E174 D174_32 (R3.1 51 (Int.toNat (((M 47 6) - 1) * 5))) (by omega) rfl ?_
        refine evx_F E174 D174_140 rfl rfl ?_
        refine evx_F E174 D174_141 rfl rfl ?_
        refine evx_F E174 D174_142 rfl rfl ?_
        refine evx_gfi (k := 14) E174 D174_143 F174_99 H47 rfl R3 ?_
        show evx _ _ _ _ _ _ (.inl (iz (M 47 14)) :: _) _ _ _
        refine evx_F E174 D174_146 rfl rfl ?_
        refine evx_gfr E174 D174_147 F174_18 H47 rfl R3 ?_
        refine evx_F E174 D174_150 rfl rfl ?_
        refine evx_F E174 D174_151 rfl rfl ?_
        refine evx_add E174 D174_152 ?_
        obtain ⟨k38, hs⟩ := ck hs
        refine evx_ial E174 D174_153 H51 (by decide) R3 k38 ?_
        show evx _ _ _ _ _ _ (.inl (iz (M 51 (Int.toNat ((((M 47 6) - 1) * 5) + 2)))) :: _) _ _ _
        refine evx_F E174 D174_154 rfl rfl ?_
        refine evx_gfr E174 D174_155 F174_18 H47 rfl R3 ?_
        refine evx_F E174 D174_158 rfl rfl ?_
        refine evx_F E174 D174_159 rfl rfl ?_
        refine evx_add E174 D174_160 ?_
        obtain ⟨k39, hs⟩ := ck hs
        refine evx_ial E174 D174_161 H51 (by decide) R3 k39 ?_
        show evx _ _ _ _ _ _ (.inl (iz (M 51 (Int.toNat ((((M 47 6) - 1) * 5) + 3)))) :: _) _ _ _
        obtain ⟨⟨q41, M45⟩, e40, hs⟩ := Option.bind_eq_some_iff.mp hs
        dsimp only at hs
        refine evx_cv (D := 5) E174 D174_162 I174_202 rfl rfl H47 ⟨Nat.le_of_ble_eq_true rfl, Nat.le_of_ble_eq_true rfl⟩ ⟨rfl, Nat.le_of_ble_eq_true rfl⟩ rfl R3 (evx_up (Nat.le_of_ble_eq_true rfl) (c181 R3 (R3.1 51 (Int.toNat ((((M 47 6) - 1) * 5) + 1))) (R3.1 47 14) (R3.1 51 (Int.toNat ((((M 47 6) - 1) * 5) + 2))) (R3.1 51 (Int.toNat ((((M 47 6) - 1) * 5) + 3))) e40)) ?_
        intro h42 R43 w44
        cases hs
        exact evx_ret E174 D174_165 rfl (fun d => rfl) rfl trivial R43
set_option maxRecDepth 20000 in
theorem E210 : pgMm 210 = some (⟨"DictionaryHouseModel", "define", "(I)I"⟩, prog_14_method_49_code, 8, (some .int), []) := rfl
theorem D210_0 : pgDecT 210 0 = some (.aload_n 0, 1) := by decide +kernel
theorem D210_1 : pgDecT 210 1 = some (.aload_n 0, 1) := by decide +kernel
theorem D210_2 : pgDecT 210 2 = some (.iload_n 1, 1) := by decide +kernel
theorem D210_3 : pgDecT 210 3 = some (.invokevirtual 220, 3) := by decide +kernel
theorem I210_220 : pgIi 210 220 = some (206, 1, 12) := by decide +kernel
theorem D210_6 : pgDecT 210 6 = some (.ifCond .ne 7, 3) := by decide +kernel
theorem D210_13 : pgDecT 210 13 = some (.aload_n 0, 1) := by decide +kernel
theorem D210_14 : pgDecT 210 14 = some (.getfield 223, 3) := by decide +kernel
theorem F210_223 : pgFf 210 223 = some (12, 17, 0) := by decide +kernel
theorem D210_17 : pgDecT 210 17 = some (.bipush 20, 2) := by decide +kernel
theorem D210_19 : pgDecT 210 19 = some (.if_icmp .ne 7, 3) := by decide +kernel
theorem D210_26 : pgDecT 210 26 = some (.iconst 0, 1) := by decide +kernel
theorem D210_27 : pgDecT 210 27 = some (.putfield 182, 3) := by decide +kernel
theorem F210_182 : pgFf 210 182 = some (12, 0, 0) := by decide +kernel
theorem D210_30 : pgDecT 210 30 = some (.aload_n 0, 1) := by decide +kernel
theorem D210_31 : pgDecT 210 31 = some (.getfield 182, 3) := by decide +kernel
theorem D210_34 : pgDecT 210 34 = some (.ifCond .eq 5, 3) := by decide +kernel
theorem D210_39 : pgDecT 210 39 = some (.aload_n 0, 1) := by decide +kernel
theorem D210_40 : pgDecT 210 40 = some (.iload_n 1, 1) := by decide +kernel
theorem D210_41 : pgDecT 210 41 = some (.invokevirtual 310, 3) := by decide +kernel
theorem I210_310 : pgIi 210 310 = some (211, 1, 12) := by decide +kernel
theorem D210_44 : pgDecT 210 44 = some (.ifCond .eq 10, 3) := by decide +kernel
theorem D210_54 : pgDecT 210 54 = some (.iconst (-1), 1) := by decide +kernel
theorem D210_55 : pgDecT 210 55 = some (.ireturn, 1) := by decide +kernel
theorem D210_47 : pgDecT 210 47 = some (.aload_n 0, 1) := by decide +kernel
theorem D210_48 : pgDecT 210 48 = some (.invokevirtual 313, 3) := by decide +kernel
theorem I210_313 : pgIi 210 313 = some (225, 0, 12) := by decide +kernel
theorem D210_51 : pgDecT 210 51 = some (.ifCond .eq 5, 3) := by decide +kernel
theorem D210_56 : pgDecT 210 56 = some (.aload_n 0, 1) := by decide +kernel
theorem D210_57 : pgDecT 210 57 = some (.iconst (-1), 1) := by decide +kernel
theorem D210_58 : pgDecT 210 58 = some (.putfield 292, 3) := by decide +kernel
theorem F210_292 : pgFf 210 292 = some (12, 53, 0) := by decide +kernel
theorem D210_61 : pgDecT 210 61 = some (.aload_n 0, 1) := by decide +kernel
theorem D210_62 : pgDecT 210 62 = some (.aload_n 0, 1) := by decide +kernel
theorem D210_63 : pgDecT 210 63 = some (.getfield 106, 3) := by decide +kernel
theorem F210_106 : pgFf 210 106 = some (12, 38, 3) := by decide +kernel
theorem D210_66 : pgDecT 210 66 = some (.iconst 0, 1) := by decide +kernel
theorem D210_67 : pgDecT 210 67 = some (.iaload, 1) := by decide +kernel
theorem D210_68 : pgDecT 210 68 = some (.invokevirtual 317, 3) := by decide +kernel
theorem I210_317 : pgIi 210 317 = some (226, 1, 12) := by decide +kernel
theorem D210_71 : pgDecT 210 71 = some (.aload_n 0, 1) := by decide +kernel
theorem D210_72 : pgDecT 210 72 = some (.invokevirtual 320, 3) := by decide +kernel
theorem I210_320 : pgIi 210 320 = some (227, 0, 12) := by decide +kernel
theorem D210_75 : pgDecT 210 75 = some (.iconst 0, 1) := by decide +kernel
theorem D210_76 : pgDecT 210 76 = some (.istore_n 2, 1) := by decide +kernel
theorem D210_77 : pgDecT 210 77 = some (.iconst 0, 1) := by decide +kernel
theorem D210_78 : pgDecT 210 78 = some (.istore_n 3, 1) := by decide +kernel
theorem D210_79 : pgDecT 210 79 = some (.iload_n 3, 1) := by decide +kernel
theorem D210_22 : pgDecT 210 22 = some (.iconst 2, 1) := by decide +kernel
theorem D210_23 : pgDecT 210 23 = some (.goto 4, 3) := by decide +kernel
theorem D210_37 : pgDecT 210 37 = some (.iconst 0, 1) := by decide +kernel
theorem D210_38 : pgDecT 210 38 = some (.ireturn, 1) := by decide +kernel
theorem D210_9 : pgDecT 210 9 = some (.iconst 1, 1) := by decide +kernel
theorem D210_10 : pgDecT 210 10 = some (.goto 17, 3) := by decide +kernel
theorem D210_80 : pgDecT 210 80 = some (.aload_n 0, 1) := by decide +kernel
theorem D210_81 : pgDecT 210 81 = some (.getfield 279, 3) := by decide +kernel
theorem F210_279 : pgFf 210 279 = some (12, 50, 0) := by decide +kernel
theorem D210_84 : pgDecT 210 84 = some (.if_icmp .ge 37, 3) := by decide +kernel
theorem D210_121 : pgDecT 210 121 = some (.aload_n 0, 1) := by decide +kernel
theorem D210_122 : pgDecT 210 122 = some (.getfield 286, 3) := by decide +kernel
theorem F210_286 : pgFf 210 286 = some (12, 47, 1) := by decide +kernel
theorem D210_125 : pgDecT 210 125 = some (.ifCond .eq 6, 3) := by decide +kernel
theorem D210_131 : pgDecT 210 131 = some (.aload_n 0, 1) := by decide +kernel
theorem D210_132 : pgDecT 210 132 = some (.getfield 289, 3) := by decide +kernel
theorem F210_289 : pgFf 210 289 = some (12, 48, 1) := by decide +kernel
theorem D210_135 : pgDecT 210 135 = some (.ifCond .eq 6, 3) := by decide +kernel
theorem D210_141 : pgDecT 210 141 = some (.aload_n 0, 1) := by decide +kernel
theorem D210_142 : pgDecT 210 142 = some (.getfield 279, 3) := by decide +kernel
theorem D210_145 : pgDecT 210 145 = some (.bipush 8, 2) := by decide +kernel
theorem D210_147 : pgDecT 210 147 = some (.if_icmp .gt 16, 3) := by decide +kernel
theorem D210_163 : pgDecT 210 163 = some (.bipush (-4), 2) := by decide +kernel
theorem D210_165 : pgDecT 210 165 = some (.ireturn, 1) := by decide +kernel
theorem D210_150 : pgDecT 210 150 = some (.iload_n 2, 1) := by decide +kernel
theorem D210_151 : pgDecT 210 151 = some (.bipush 8, 2) := by decide +kernel
theorem D210_153 : pgDecT 210 153 = some (.if_icmp .gt 10, 3) := by decide +kernel
theorem D210_156 : pgDecT 210 156 = some (.aload_n 0, 1) := by decide +kernel
theorem D210_157 : pgDecT 210 157 = some (.getfield 282, 3) := by decide +kernel
theorem F210_282 : pgFf 210 282 = some (12, 49, 1) := by decide +kernel
theorem D210_160 : pgDecT 210 160 = some (.ifCond .eq 6, 3) := by decide +kernel
theorem D210_166 : pgDecT 210 166 = some (.aload_n 0, 1) := by decide +kernel
theorem D210_167 : pgDecT 210 167 = some (.getfield 178, 3) := by decide +kernel
theorem F210_178 : pgFf 210 178 = some (12, 1, 0) := by decide +kernel
theorem D210_170 : pgDecT 210 170 = some (.istore_n 3, 1) := by decide +kernel
theorem D210_171 : pgDecT 210 171 = some (.aload_n 0, 1) := by decide +kernel
theorem D210_172 : pgDecT 210 172 = some (.aload_n 0, 1) := by decide +kernel
theorem D210_173 : pgDecT 210 173 = some (.getfield 106, 3) := by decide +kernel
theorem D210_176 : pgDecT 210 176 = some (.iconst 0, 1) := by decide +kernel
theorem D210_177 : pgDecT 210 177 = some (.iaload, 1) := by decide +kernel
theorem D210_178 : pgDecT 210 178 = some (.invokevirtual 329, 3) := by decide +kernel
theorem I210_329 : pgIi 210 329 = some (233, 1, 12) := by decide +kernel
theorem D210_181 : pgDecT 210 181 = some (.istore 4, 2) := by decide +kernel
theorem D210_183 : pgDecT 210 183 = some (.iload 4, 2) := by decide +kernel
theorem D210_185 : pgDecT 210 185 = some (.iconst (-1), 1) := by decide +kernel
theorem D210_186 : pgDecT 210 186 = some (.if_icmp .ne 11, 3) := by decide +kernel
theorem D210_197 : pgDecT 210 197 = some (.aload_n 0, 1) := by decide +kernel
theorem D210_198 : pgDecT 210 198 = some (.getfield 223, 3) := by decide +kernel
theorem D210_201 : pgDecT 210 201 = some (.istore 5, 2) := by decide +kernel
theorem D210_203 : pgDecT 210 203 = some (.aload_n 0, 1) := by decide +kernel
theorem D210_204 : pgDecT 210 204 = some (.dup, 1) := by decide +kernel
theorem D210_205 : pgDecT 210 205 = some (.getfield 223, 3) := by decide +kernel
theorem D210_208 : pgDecT 210 208 = some (.iconst 1, 1) := by decide +kernel
theorem D210_209 : pgDecT 210 209 = some (.iadd, 1) := by decide +kernel
theorem D210_210 : pgDecT 210 210 = some (.putfield 223, 3) := by decide +kernel
theorem D210_213 : pgDecT 210 213 = some (.aload_n 0, 1) := by decide +kernel
theorem D210_214 : pgDecT 210 214 = some (.getfield 50, 3) := by decide +kernel
theorem F210_50 : pgFf 210 50 = some (12, 18, 3) := by decide +kernel
theorem D210_217 : pgDecT 210 217 = some (.iload 5, 2) := by decide +kernel
theorem D210_219 : pgDecT 210 219 = some (.iload_n 1, 1) := by decide +kernel
theorem D210_220 : pgDecT 210 220 = some (.iastore, 1) := by decide +kernel
theorem D210_221 : pgDecT 210 221 = some (.aload_n 0, 1) := by decide +kernel
theorem D210_222 : pgDecT 210 222 = some (.getfield 53, 3) := by decide +kernel
theorem F210_53 : pgFf 210 53 = some (12, 19, 3) := by decide +kernel
theorem D210_225 : pgDecT 210 225 = some (.iload 5, 2) := by decide +kernel
theorem D210_227 : pgDecT 210 227 = some (.iload 4, 2) := by decide +kernel
theorem D210_229 : pgDecT 210 229 = some (.iastore, 1) := by decide +kernel
theorem D210_230 : pgDecT 210 230 = some (.aload_n 0, 1) := by decide +kernel
theorem D210_231 : pgDecT 210 231 = some (.getfield 56, 3) := by decide +kernel
theorem F210_56 : pgFf 210 56 = some (12, 20, 3) := by decide +kernel
theorem D210_234 : pgDecT 210 234 = some (.iload 5, 2) := by decide +kernel
theorem D210_236 : pgDecT 210 236 = some (.aload_n 0, 1) := by decide +kernel
theorem D210_237 : pgDecT 210 237 = some (.getfield 279, 3) := by decide +kernel
theorem D210_240 : pgDecT 210 240 = some (.iastore, 1) := by decide +kernel
theorem D210_241 : pgDecT 210 241 = some (.aload_n 0, 1) := by decide +kernel
theorem D210_242 : pgDecT 210 242 = some (.getfield 59, 3) := by decide +kernel
theorem F210_59 : pgFf 210 59 = some (12, 21, 3) := by decide +kernel
theorem D210_245 : pgDecT 210 245 = some (.iload 5, 2) := by decide +kernel
theorem D210_247 : pgDecT 210 247 = some (.iconst 0, 1) := by decide +kernel
theorem D210_248 : pgDecT 210 248 = some (.iastore, 1) := by decide +kernel
theorem D210_249 : pgDecT 210 249 = some (.iconst 0, 1) := by decide +kernel
theorem D210_250 : pgDecT 210 250 = some (.istore 6, 2) := by decide +kernel
theorem D210_252 : pgDecT 210 252 = some (.iload 6, 2) := by decide +kernel
theorem D210_189 : pgDecT 210 189 = some (.aload_n 0, 1) := by decide +kernel
theorem D210_190 : pgDecT 210 190 = some (.iload_n 3, 1) := by decide +kernel
theorem D210_191 : pgDecT 210 191 = some (.putfield 178, 3) := by decide +kernel
theorem D210_194 : pgDecT 210 194 = some (.bipush (-4), 2) := by decide +kernel
theorem D210_196 : pgDecT 210 196 = some (.ireturn, 1) := by decide +kernel
theorem D210_138 : pgDecT 210 138 = some (.bipush (-3), 2) := by decide +kernel
theorem D210_140 : pgDecT 210 140 = some (.ireturn, 1) := by decide +kernel
theorem D210_128 : pgDecT 210 128 = some (.bipush (-2), 2) := by decide +kernel
theorem D210_130 : pgDecT 210 130 = some (.ireturn, 1) := by decide +kernel
theorem D210_87 : pgDecT 210 87 = some (.aload_n 0, 1) := by decide +kernel
theorem D210_88 : pgDecT 210 88 = some (.getfield 130, 3) := by decide +kernel
theorem F210_130 : pgFf 210 130 = some (12, 52, 3) := by decide +kernel
theorem D210_91 : pgDecT 210 91 = some (.iload_n 3, 1) := by decide +kernel
theorem D210_92 : pgDecT 210 92 = some (.aload_n 0, 1) := by decide +kernel
theorem D210_93 : pgDecT 210 93 = some (.aload_n 0, 1) := by decide +kernel
theorem D210_94 : pgDecT 210 94 = some (.getfield 130, 3) := by decide +kernel
theorem D210_97 : pgDecT 210 97 = some (.iload_n 3, 1) := by decide +kernel
theorem D210_98 : pgDecT 210 98 = some (.iaload, 1) := by decide +kernel
theorem D210_99 : pgDecT 210 99 = some (.invokevirtual 323, 3) := by decide +kernel
theorem I210_323 : pgIi 210 323 = some (231, 1, 12) := by decide +kernel
theorem D210_102 : pgDecT 210 102 = some (.iastore, 1) := by decide +kernel
theorem D210_103 : pgDecT 210 103 = some (.iload_n 2, 1) := by decide +kernel
theorem D210_104 : pgDecT 210 104 = some (.aload_n 0, 1) := by decide +kernel
theorem D210_105 : pgDecT 210 105 = some (.getfield 130, 3) := by decide +kernel
theorem D210_108 : pgDecT 210 108 = some (.iload_n 3, 1) := by decide +kernel
theorem D210_109 : pgDecT 210 109 = some (.iaload, 1) := by decide +kernel
theorem D210_110 : pgDecT 210 110 = some (.invokestatic 326, 3) := by decide +kernel
theorem I210_326 : pgIi 210 326 = some (232, 1, 100) := by decide +kernel
theorem D210_113 : pgDecT 210 113 = some (.iadd, 1) := by decide +kernel
theorem D210_114 : pgDecT 210 114 = some (.istore_n 2, 1) := by decide +kernel
theorem D210_115 : pgDecT 210 115 = some (.iinc 3 1, 3) := by decide +kernel
theorem D210_118 : pgDecT 210 118 = some (.goto (-39), 3) := by decide +kernel
theorem D210_254 : pgDecT 210 254 = some (.aload_n 0, 1) := by decide +kernel
theorem D210_255 : pgDecT 210 255 = some (.getfield 279, 3) := by decide +kernel
theorem D210_258 : pgDecT 210 258 = some (.if_icmp .ge 82, 3) := by decide +kernel
theorem D210_340 : pgDecT 210 340 = some (.aload_n 0, 1) := by decide +kernel
theorem D210_341 : pgDecT 210 341 = some (.iload 5, 2) := by decide +kernel
theorem D210_343 : pgDecT 210 343 = some (.invokevirtual 332, 3) := by decide +kernel
theorem I210_332 : pgIi 210 332 = some (234, 1, 12) := by decide +kernel
theorem D210_346 : pgDecT 210 346 = some (.iload 5, 2) := by decide +kernel
theorem D210_348 : pgDecT 210 348 = some (.ireturn, 1) := by decide +kernel
theorem D210_261 : pgDecT 210 261 = some (.iconst 0, 1) := by decide +kernel
theorem D210_262 : pgDecT 210 262 = some (.istore 7, 2) := by decide +kernel
theorem D210_264 : pgDecT 210 264 = some (.iload 7, 2) := by decide +kernel
theorem D210_266 : pgDecT 210 266 = some (.aload_n 0, 1) := by decide +kernel
theorem D210_267 : pgDecT 210 267 = some (.getfield 196, 3) := by decide +kernel
theorem F210_196 : pgFf 210 196 = some (12, 5, 0) := by decide +kernel
theorem D210_270 : pgDecT 210 270 = some (.if_icmp .ge 64, 3) := by decide +kernel
theorem D210_334 : pgDecT 210 334 = some (.iinc 6 1, 3) := by decide +kernel
theorem D210_337 : pgDecT 210 337 = some (.goto (-85), 3) := by decide +kernel
theorem D210_273 : pgDecT 210 273 = some (.aload_n 0, 1) := by decide +kernel
theorem D210_274 : pgDecT 210 274 = some (.getfield 130, 3) := by decide +kernel
theorem D210_277 : pgDecT 210 277 = some (.iload 6, 2) := by decide +kernel
theorem D210_279 : pgDecT 210 279 = some (.iaload, 1) := by decide +kernel
theorem D210_280 : pgDecT 210 280 = some (.iload 7, 2) := by decide +kernel
theorem D210_282 : pgDecT 210 282 = some (.ishr, 1) := by decide +kernel
theorem D210_283 : pgDecT 210 283 = some (.iconst 1, 1) := by decide +kernel
theorem D210_284 : pgDecT 210 284 = some (.iand, 1) := by decide +kernel
theorem D210_285 : pgDecT 210 285 = some (.ifCond .ne 6, 3) := by decide +kernel
theorem D210_291 : pgDecT 210 291 = some (.aload_n 0, 1) := by decide +kernel
theorem D210_292 : pgDecT 210 292 = some (.getfield 62, 3) := by decide +kernel
theorem F210_62 : pgFf 210 62 = some (12, 22, 3) := by decide +kernel
theorem D210_295 : pgDecT 210 295 = some (.bipush 8, 2) := by decide +kernel
theorem D210_297 : pgDecT 210 297 = some (.iload 5, 2) := by decide +kernel
theorem D210_299 : pgDecT 210 299 = some (.imul, 1) := by decide +kernel
theorem D210_300 : pgDecT 210 300 = some (.aload_n 0, 1) := by decide +kernel
theorem D210_301 : pgDecT 210 301 = some (.getfield 59, 3) := by decide +kernel
theorem D210_304 : pgDecT 210 304 = some (.iload 5, 2) := by decide +kernel
theorem D210_306 : pgDecT 210 306 = some (.iaload, 1) := by decide +kernel
theorem D210_307 : pgDecT 210 307 = some (.iadd, 1) := by decide +kernel
theorem D210_308 : pgDecT 210 308 = some (.bipush 8, 2) := by decide +kernel
theorem D210_310 : pgDecT 210 310 = some (.iload 7, 2) := by decide +kernel
theorem D210_312 : pgDecT 210 312 = some (.imul, 1) := by decide +kernel
theorem D210_313 : pgDecT 210 313 = some (.iload 6, 2) := by decide +kernel
theorem D210_315 : pgDecT 210 315 = some (.iadd, 1) := by decide +kernel
theorem D210_316 : pgDecT 210 316 = some (.iastore, 1) := by decide +kernel
theorem D210_317 : pgDecT 210 317 = some (.aload_n 0, 1) := by decide +kernel
theorem D210_318 : pgDecT 210 318 = some (.getfield 59, 3) := by decide +kernel
theorem D210_321 : pgDecT 210 321 = some (.iload 5, 2) := by decide +kernel
theorem D210_323 : pgDecT 210 323 = some (.dup2, 1) := by decide +kernel
theorem D210_324 : pgDecT 210 324 = some (.iaload, 1) := by decide +kernel
theorem D210_325 : pgDecT 210 325 = some (.iconst 1, 1) := by decide +kernel
theorem D210_326 : pgDecT 210 326 = some (.iadd, 1) := by decide +kernel
theorem D210_327 : pgDecT 210 327 = some (.iastore, 1) := by decide +kernel
theorem D210_328 : pgDecT 210 328 = some (.iinc 7 1, 3) := by decide +kernel
theorem D210_331 : pgDecT 210 331 = some (.goto (-67), 3) := by decide +kernel
theorem D210_288 : pgDecT 210 288 = some (.goto 40, 3) := by decide +kernel
/-! 210: DictionaryHouseModel.define (I)I -/
def l210 : Nat → Nat → Mm → Int → Int → Int → Int → Int → Int → Int → Option (Int × Mm)
  | 0, _, _, _, _, _, _, _, _, _ => none
  | f + 1, 79, M, x1, x2, x3, _, _, _, _ => if (M 53 50) ≤ x3 then (if (M 53 47) = 0 then (if (M 53 48) = 0 then (if 8 < (M 53 50) then (some ((-4), M)) else (if 8 < x2 then (some ((-4), M)) else (if (M 53 49) = 0 then (f233 M (M 85 (Int.toNat 0))).bind (fun zq49 => if ¬ zq49.1 = (-1) then (if rg ((zq49.2 53 17) + 1) then (if 0 ≤ (zq49.2 53 17) ∧ (zq49.2 53 17) < 20 then (l210 f 252 (up (up (up (up (up zq49.2 53 17 ((zq49.2 53 17) + 1)) 67 (Int.toNat (zq49.2 53 17)) x1) 68 (Int.toNat (zq49.2 53 17)) zq49.1) 69 (Int.toNat (zq49.2 53 17)) (zq49.2 53 50)) 70 (Int.toNat (zq49.2 53 17)) 0) x1 x2 (M 53 1) zq49.1 (zq49.2 53 17) 0 0) else none) else none) else (some ((-4), (up zq49.2 53 1 (M 53 1))))) else (some ((-4), M))))) else (some ((-3), M))) else (some ((-2), M))) else (if 0 ≤ x3 ∧ x3 < 4000 then (f231 M (M 93 (Int.toNat x3))).bind (fun q71 => (f232 (up M 93 (Int.toNat x3) q71) ((up M 93 (Int.toNat x3) q71) 93 (Int.toNat x3))).bind (fun q78 => if rg (x2 + q78) then (if rg (x3 + 1) then (l210 f 79 (up M 93 (Int.toNat x3) q71) x1 (x2 + q78) (x3 + 1) 0 0 0 0) else none) else none)) else none)
  | f + 1, 252, M, x1, x2, x3, x4, x5, x6, _ => if (M 53 50) ≤ x6 then (f234 M x5).bind (fun zq86 => some (x5, zq86.2)) else (l210 f 264 M x1 x2 x3 x4 x5 x6 0)
  | f + 1, 264, M, x1, x2, x3, x4, x5, x6, x7 => if (M 53 5) ≤ x7 then (if rg (x6 + 1) then (l210 f 252 M x1 x2 x3 x4 x5 (x6 + 1) 0) else none) else (if 0 ≤ x6 ∧ x6 < 4000 then (if ¬ (bAnd (bShr (M 93 (Int.toNat x6)) x7) 1) = 0 then (if 0 ≤ x5 ∧ x5 < 20 then (if 0 ≤ (((8 : Int) * x5) + (M 70 (Int.toNat x5))) ∧ (((8 : Int) * x5) + (M 70 (Int.toNat x5))) < 160 then (if rg (((8 : Int) * x7) + x6) then (if rg ((M 70 (Int.toNat x5)) + 1) then (if rg (x7 + 1) then (l210 f 264 (up (up M 71 (Int.toNat (((8 : Int) * x5) + (M 70 (Int.toNat x5)))) (((8 : Int) * x7) + x6)) 70 (Int.toNat x5) ((M 70 (Int.toNat x5)) + 1)) x1 x2 x3 x4 x5 x6 (x7 + 1)) else none) else none) else none) else none) else none) else (if rg (x7 + 1) then (l210 f 264 M x1 x2 x3 x4 x5 x6 (x7 + 1)) else none)) else none)
  | _, _, _, _, _, _, _, _, _, _ => none
theorem d210 {L : Nat} {xs : Nat → Int32} (f : Nat) : (∀ (M : Mm) (x1 x2 x3 : Int) (h : mvH) (v : Int) (M' : Mm), l210 f 79 M x1 x2 x3 0 0 0 0 = some (v, M') → rp h M → rg x1 → rg x2 → rg x3 → evx L xs 7 210 79 [(0, .inr (.inr (.inl (some 53)))), (1, .inl (iz x1)), (2, .inl (iz x2)), (3, .inl (iz x3))] [] h (.inl (some (.inl v)), 0) M') ∧ (∀ (M : Mm) (x1 x2 x3 x4 x5 x6 : Int) (h : mvH) (v : Int) (M' : Mm), l210 f 252 M x1 x2 x3 x4 x5 x6 0 = some (v, M') → rp h M → rg x1 → rg x2 → rg x3 → rg x4 → rg x5 → rg x6 → evx L xs 7 210 252 [(0, .inr (.inr (.inl (some 53)))), (1, .inl (iz x1)), (2, .inl (iz x2)), (3, .inl (iz x3)), (4, .inl (iz x4)), (5, .inl (iz x5)), (6, .inl (iz x6))] [] h (.inl (some (.inl v)), 0) M') ∧ (∀ (M : Mm) (x1 x2 x3 x4 x5 x6 x7 : Int) (h : mvH) (v : Int) (M' : Mm), l210 f 264 M x1 x2 x3 x4 x5 x6 x7 = some (v, M') → rp h M → rg x1 → rg x2 → rg x3 → rg x4 → rg x5 → rg x6 → rg x7 → evx L xs 7 210 264 [(0, .inr (.inr (.inl (some 53)))), (1, .inl (iz x1)), (2, .inl (iz x2)), (3, .inl (iz x3)), (4, .inl (iz x4)), (5, .inl (iz x5)), (6, .inl (iz x6)), (7, .inl (iz x7))] [] h (.inl (some (.inl v)), 0) M') := by
  induction f with
  | zero => exact ⟨(fun M x1 x2 x3 h v M' hs _ _ _ _ => by cases hs), (fun M x1 x2 x3 x4 x5 x6 h v M' hs _ _ _ _ _ _ _ => by cases hs), (fun M x1 x2 x3 x4 x5 x6 x7 h v M' hs _ _ _ _ _ _ _ _ => by cases hs)⟩
  | succ f ih =>
    refine ⟨?_, ?_, ?_⟩
    · intro M x1 x2 x3 h v M' hs R rx1 rx2 rx3
      rw [l210] at hs
      refine evx_F E210 D210_79 rfl rfl ?_
      refine evx_F E210 D210_80 rfl rfl ?_
      refine evx_gfi (k := 50) E210 D210_81 F210_279 H53 rfl R ?_
      by_cases cb42 : (M 53 50) ≤ x3
      · rw [if_pos cb42] at hs
        refine evx_F E210 D210_84 rfl (ifT (c2_ge_T rx3 (R.1 53 50) cb42)) ?_
        refine evx_F E210 D210_121 rfl rfl ?_
        refine evx_gfi (k := 47) E210 D210_122 F210_286 H53 rfl R ?_
        by_cases cb43 : (M 53 47) = 0
        · rw [if_pos cb43] at hs
          refine evx_F E210 D210_125 rfl (ifT (c1_eq_T (R.1 53 47) cb43)) ?_
          refine evx_F E210 D210_131 rfl rfl ?_
          refine evx_gfi (k := 48) E210 D210_132 F210_289 H53 rfl R ?_
          by_cases cb44 : (M 53 48) = 0
          · rw [if_pos cb44] at hs
            refine evx_F E210 D210_135 rfl (ifT (c1_eq_T (R.1 53 48) cb44)) ?_
            refine evx_F E210 D210_141 rfl rfl ?_
            refine evx_gfi (k := 50) E210 D210_142 F210_279 H53 rfl R ?_
            refine evx_k (k := 8) E210 D210_145 rfl (by decide) ?_
            by_cases cb45 : 8 < (M 53 50)
            · rw [if_pos cb45] at hs
              refine evx_F E210 D210_147 rfl (ifT (c2_gt_T (R.1 53 50) (by decide) cb45)) ?_
              refine evx_k (k := -4) E210 D210_163 rfl (by decide) ?_
              cases hs
              exact evx_ret E210 D210_165 rfl (fun d => rfl) rfl (show rg _ from (by decide)) R
            · rw [if_neg cb45] at hs
              refine evx_F E210 D210_147 rfl (ifF (c2_gt_F (R.1 53 50) (by decide) (by omega))) ?_
              refine evx_F E210 D210_150 rfl rfl ?_
              refine evx_k (k := 8) E210 D210_151 rfl (by decide) ?_
              by_cases cb46 : 8 < x2
              · rw [if_pos cb46] at hs
                refine evx_F E210 D210_153 rfl (ifT (c2_gt_T rx2 (by decide) cb46)) ?_
                refine evx_k (k := -4) E210 D210_163 rfl (by decide) ?_
                cases hs
                exact evx_ret E210 D210_165 rfl (fun d => rfl) rfl (show rg _ from (by decide)) R
              · rw [if_neg cb46] at hs
                refine evx_F E210 D210_153 rfl (ifF (c2_gt_F rx2 (by decide) (by omega))) ?_
                refine evx_F E210 D210_156 rfl rfl ?_
                refine evx_gfi (k := 49) E210 D210_157 F210_282 H53 rfl R ?_
                by_cases cb47 : (M 53 49) = 0
                · rw [if_pos cb47] at hs
                  refine evx_F E210 D210_160 rfl (ifT (c1_eq_T (R.1 53 49) cb47)) ?_
                  refine evx_F E210 D210_166 rfl rfl ?_
                  refine evx_gfi (k := 1) E210 D210_167 F210_178 H53 rfl R ?_
                  refine evx_F E210 D210_170 rfl rfl ?_
                  refine evx_F E210 D210_171 rfl rfl ?_
                  refine evx_F E210 D210_172 rfl rfl ?_
                  refine evx_gfr E210 D210_173 F210_106 H53 rfl R ?_
                  refine evx_F E210 D210_176 rfl rfl ?_
                  refine evx_ial E210 D210_177 H85 (by decide) R (by decide) ?_
                  obtain ⟨⟨q49, M53⟩, e48, hs⟩ := Option.bind_eq_some_iff.mp hs
                  dsimp only at hs
                  refine evx_cv (D := 6) E210 D210_178 I210_329 rfl rfl H53 ⟨Nat.le_of_ble_eq_true rfl, Nat.le_of_ble_eq_true rfl⟩ ⟨rfl, Nat.le_of_ble_eq_true rfl⟩ rfl R (evx_up (Nat.le_of_ble_eq_true rfl) (c233 R (R.1 85 (Int.toNat 0)) e48)) ?_
                  intro h50 R51 w52
                  have w52 : rg q49 := w52
                  show evx _ _ _ _ _ _ (.inl (iz q49) :: _) _ _ _
                  refine evx_F E210 D210_181 rfl rfl ?_
                  refine evx_F E210 D210_183 rfl rfl ?_
                  refine evx_F E210 D210_185 rfl rfl ?_
                  by_cases cb54 : ¬ q49 = (-1)
                  · rw [if_pos cb54] at hs
                    refine evx_F E210 D210_186 rfl (ifT (c2_ne_T w52 (by decide) cb54)) ?_
                    refine evx_F E210 D210_197 rfl rfl ?_
                    refine evx_gfi (k := 17) E210 D210_198 F210_223 H53 rfl R51 ?_
                    refine evx_F E210 D210_201 rfl rfl ?_
                    refine evx_F E210 D210_203 rfl rfl ?_
                    refine evx_F E210 D210_204 rfl rfl ?_
                    refine evx_gfi (k := 17) E210 D210_205 F210_223 H53 rfl R51 ?_
                    refine evx_F E210 D210_208 rfl rfl ?_
                    refine evx_add E210 D210_209 ?_
                    obtain ⟨k55, hs⟩ := ck hs
                    refine evx_pfi (k := 17) E210 D210_210 F210_223 H53 rfl R51 k55 rfl ?_
                    intro h56 R57
                    refine evx_F E210 D210_213 rfl rfl ?_
                    refine evx_gfr E210 D210_214 F210_50 H53 rfl R57 ?_
                    refine evx_F E210 D210_217 rfl rfl ?_
                    refine evx_F E210 D210_219 rfl rfl ?_
                    obtain ⟨k58, hs⟩ := ck hs
                    refine evx_ias E210 D210_220 H67 (by decide) R57 k58 rx1 ?_
                    intro h59 R60
                    refine evx_F E210 D210_221 rfl rfl ?_
                    refine evx_gfr E210 D210_222 F210_53 H53 rfl R60 ?_
                    refine evx_F E210 D210_225 rfl rfl ?_
                    refine evx_F E210 D210_227 rfl rfl ?_
                    refine evx_ias E210 D210_229 H68 (by decide) R60 k58 w52 ?_
                    intro h61 R62
                    refine evx_F E210 D210_230 rfl rfl ?_
                    refine evx_gfr E210 D210_231 F210_56 H53 rfl R62 ?_
                    refine evx_F E210 D210_234 rfl rfl ?_
                    refine evx_F E210 D210_236 rfl rfl ?_
                    refine evx_gfi (k := 50) E210 D210_237 F210_279 H53 rfl R62 ?_
                    show evx _ _ _ _ _ _ (.inl (iz (M53 53 50)) :: _) _ _ _
                    refine evx_ias E210 D210_240 H69 (by decide) R62 k58 (R62.1 53 50) ?_
                    intro h63 R64
                    refine evx_F E210 D210_241 rfl rfl ?_
                    refine evx_gfr E210 D210_242 F210_59 H53 rfl R64 ?_
                    refine evx_F E210 D210_245 rfl rfl ?_
                    refine evx_F E210 D210_247 rfl rfl ?_
                    refine evx_ias E210 D210_248 H70 (by decide) R64 k58 (by decide) ?_
                    intro h65 R66
                    refine evx_F E210 D210_249 rfl rfl ?_
                    refine evx_F E210 D210_250 rfl rfl ?_
                    show evx _ _ _ _ _ [(6, .inl (iz 0)), (5, .inl (iz (M53 53 17))), (4, .inl (iz q49)), (3, .inl (iz (M 53 1))), (0, .inr (.inr (.inl (some 53)))), (1, .inl (iz x1)), (2, .inl (iz x2))] _ _ _ _
                    exact evx_lv (lvLe_mk (fm rfl (fm rfl (fm rfl (fm rfl (fm rfl (fm rfl (fm rfl fn))))))) (fm rfl (fm rfl (fm rfl (fm rfl (fm rfl (fm rfl (fm rfl fn))))))) (fm rfl (fm rfl (fm rfl (fm rfl (fm rfl (fm rfl (fm rfl fn)))))))) (ih.2.1 _ _ _ _ _ _ _ _ _ _ hs R66 rx1 rx2 (R.1 53 1) w52 (R51.1 53 17) (by decide))
                  · rw [if_neg cb54] at hs
                    refine evx_F E210 D210_186 rfl (ifF (c2_ne_F w52 (by decide) (by omega))) ?_
                    refine evx_F E210 D210_189 rfl rfl ?_
                    refine evx_F E210 D210_190 rfl rfl ?_
                    refine evx_pfi (k := 1) E210 D210_191 F210_178 H53 rfl R51 (R.1 53 1) rfl ?_
                    intro h67 R68
                    refine evx_k (k := -4) E210 D210_194 rfl (by decide) ?_
                    cases hs
                    exact evx_ret E210 D210_196 rfl (fun d => rfl) rfl (show rg _ from (by decide)) R68
                · rw [if_neg cb47] at hs
                  refine evx_F E210 D210_160 rfl (ifF (c1_eq_F (R.1 53 49) (by omega))) ?_
                  refine evx_k (k := -4) E210 D210_163 rfl (by decide) ?_
                  cases hs
                  exact evx_ret E210 D210_165 rfl (fun d => rfl) rfl (show rg _ from (by decide)) R
          · rw [if_neg cb44] at hs
            refine evx_F E210 D210_135 rfl (ifF (c1_eq_F (R.1 53 48) (by omega))) ?_
            refine evx_k (k := -3) E210 D210_138 rfl (by decide) ?_
            cases hs
            exact evx_ret E210 D210_140 rfl (fun d => rfl) rfl (show rg _ from (by decide)) R
        · rw [if_neg cb43] at hs
          refine evx_F E210 D210_125 rfl (ifF (c1_eq_F (R.1 53 47) (by omega))) ?_
          refine evx_k (k := -2) E210 D210_128 rfl (by decide) ?_
          cases hs
          exact evx_ret E210 D210_130 rfl (fun d => rfl) rfl (show rg _ from (by decide)) R
      · rw [if_neg cb42] at hs
        refine evx_F E210 D210_84 rfl (ifF (c2_ge_F rx3 (R.1 53 50) (by omega))) ?_
        refine evx_F E210 D210_87 rfl rfl ?_
        refine evx_gfr E210 D210_88 F210_130 H53 rfl R ?_
        refine evx_F E210 D210_91 rfl rfl ?_
        refine evx_F E210 D210_92 rfl rfl ?_
        refine evx_F E210 D210_93 rfl rfl ?_
        refine evx_gfr E210 D210_94 F210_130 H53 rfl R ?_
        refine evx_F E210 D210_97 rfl rfl ?_
        obtain ⟨k69, hs⟩ := ck hs
        refine evx_ial E210 D210_98 H93 (by decide) R k69 ?_
        obtain ⟨q71, e70, hs⟩ := Option.bind_eq_some_iff.mp hs
        refine evx_cv (D := 6) E210 D210_99 I210_323 rfl rfl H53 ⟨Nat.le_of_ble_eq_true rfl, Nat.le_of_ble_eq_true rfl⟩ ⟨rfl, Nat.le_of_ble_eq_true rfl⟩ rfl R (evx_up (Nat.le_of_ble_eq_true rfl) (c231 R (R.1 93 (Int.toNat x3)) e70)) ?_
        intro h72 R73 w74
        have w74 : rg q71 := w74
        show evx _ _ _ _ _ _ (.inl (iz q71) :: _) _ _ _
        refine evx_ias E210 D210_102 H93 (by decide) R73 k69 w74 ?_
        intro h75 R76
        refine evx_F E210 D210_103 rfl rfl ?_
        refine evx_F E210 D210_104 rfl rfl ?_
        refine evx_gfr E210 D210_105 F210_130 H53 rfl R76 ?_
        refine evx_F E210 D210_108 rfl rfl ?_
        refine evx_ial E210 D210_109 H93 (by decide) R76 k69 ?_
        obtain ⟨q78, e77, hs⟩ := Option.bind_eq_some_iff.mp hs
        refine evx_cs (D := 6) E210 D210_110 I210_326 rfl rfl (Nat.le_of_ble_eq_true rfl) ⟨rfl, Nat.le_of_ble_eq_true rfl⟩ rfl (evx_up (Nat.le_of_ble_eq_true rfl) (c232 R76 (R76.1 93 (Int.toNat x3)) e77)) ?_
        intro h79 R80 w81
        have w81 : rg q78 := w81
        show evx _ _ _ _ _ _ (.inl (iz q78) :: _) _ _ _
        refine evx_add E210 D210_113 ?_
        refine evx_F E210 D210_114 rfl rfl ?_
        refine evx_inc E210 D210_115 (Nat.le_of_ble_eq_true rfl) rfl ?_
        refine evx_F E210 D210_118 rfl rfl ?_
        obtain ⟨k82, hs⟩ := ck hs
        obtain ⟨k83, hs⟩ := ck hs
        show evx _ _ _ _ _ [(3, .inl (iz (x3 + 1))), (2, .inl (iz (x2 + q78))), (0, .inr (.inr (.inl (some 53)))), (1, .inl (iz x1))] _ _ _ _
        exact evx_lv (lvLe_mk (fm rfl (fm rfl (fm rfl (fm rfl fn)))) (fm rfl (fm rfl (fm rfl (fm rfl fn)))) (fm rfl (fm rfl (fm rfl (fm rfl fn))))) (ih.1 _ _ _ _ _ _ _ hs R80 rx1 k82 k83)
    · intro M x1 x2 x3 x4 x5 x6 h v M' hs R rx1 rx2 rx3 rx4 rx5 rx6
      rw [l210] at hs
      refine evx_F E210 D210_252 rfl rfl ?_
      refine evx_F E210 D210_254 rfl rfl ?_
      refine evx_gfi (k := 50) E210 D210_255 F210_279 H53 rfl R ?_
      by_cases cb84 : (M 53 50) ≤ x6
      · rw [if_pos cb84] at hs
        refine evx_F E210 D210_258 rfl (ifT (c2_ge_T rx6 (R.1 53 50) cb84)) ?_
        refine evx_F E210 D210_340 rfl rfl ?_
        refine evx_F E210 D210_341 rfl rfl ?_
        obtain ⟨⟨q86, M90⟩, e85, hs⟩ := Option.bind_eq_some_iff.mp hs
        dsimp only at hs
        refine evx_cv (D := 6) E210 D210_343 I210_332 rfl rfl H53 ⟨Nat.le_of_ble_eq_true rfl, Nat.le_of_ble_eq_true rfl⟩ ⟨rfl, Nat.le_of_ble_eq_true rfl⟩ rfl R (evx_up (Nat.le_of_ble_eq_true rfl) (c234 R rx5 e85)) ?_
        intro h87 R88 w89
        refine evx_F E210 D210_346 rfl rfl ?_
        cases hs
        exact evx_ret E210 D210_348 rfl (fun d => rfl) rfl (show rg _ from rx5) R88
      · rw [if_neg cb84] at hs
        refine evx_F E210 D210_258 rfl (ifF (c2_ge_F rx6 (R.1 53 50) (by omega))) ?_
        refine evx_F E210 D210_261 rfl rfl ?_
        refine evx_F E210 D210_262 rfl rfl ?_
        show evx _ _ _ _ _ [(7, .inl (iz 0)), (0, .inr (.inr (.inl (some 53)))), (1, .inl (iz x1)), (2, .inl (iz x2)), (3, .inl (iz x3)), (4, .inl (iz x4)), (5, .inl (iz x5)), (6, .inl (iz x6))] _ _ _ _
        exact evx_lv (lvLe_mk (fm rfl (fm rfl (fm rfl (fm rfl (fm rfl (fm rfl (fm rfl (fm rfl fn)))))))) (fm rfl (fm rfl (fm rfl (fm rfl (fm rfl (fm rfl (fm rfl (fm rfl fn)))))))) (fm rfl (fm rfl (fm rfl (fm rfl (fm rfl (fm rfl (fm rfl (fm rfl fn))))))))) (ih.2.2 _ _ _ _ _ _ _ _ _ _ _ hs R rx1 rx2 rx3 rx4 rx5 rx6 (by decide))
    · intro M x1 x2 x3 x4 x5 x6 x7 h v M' hs R rx1 rx2 rx3 rx4 rx5 rx6 rx7
      rw [l210] at hs
      refine evx_F E210 D210_264 rfl rfl ?_
      refine evx_F E210 D210_266 rfl rfl ?_
      refine evx_gfi (k := 5) E210 D210_267 F210_196 H53 rfl R ?_
      by_cases cb91 : (M 53 5) ≤ x7
      · rw [if_pos cb91] at hs
        refine evx_F E210 D210_270 rfl (ifT (c2_ge_T rx7 (R.1 53 5) cb91)) ?_
        refine evx_inc E210 D210_334 (Nat.le_of_ble_eq_true rfl) rfl ?_
        refine evx_F E210 D210_337 rfl rfl ?_
        obtain ⟨k92, hs⟩ := ck hs
        show evx _ _ _ _ _ [(6, .inl (iz (x6 + 1))), (0, .inr (.inr (.inl (some 53)))), (1, .inl (iz x1)), (2, .inl (iz x2)), (3, .inl (iz x3)), (4, .inl (iz x4)), (5, .inl (iz x5)), (7, .inl (iz x7))] _ _ _ _
        exact evx_lv (lvLe_mk (fm rfl (fm rfl (fm rfl (fm rfl (fm rfl (fm rfl (fm rfl fn))))))) (fm rfl (fm rfl (fm rfl (fm rfl (fm rfl (fm rfl (fm rfl (fm rfl fn)))))))) (fm rfl (fm rfl (fm rfl (fm rfl (fm rfl (fm rfl (fm rfl fn)))))))) (ih.2.1 _ _ _ _ _ _ _ _ _ _ hs R rx1 rx2 rx3 rx4 rx5 k92)
      · rw [if_neg cb91] at hs
        refine evx_F E210 D210_270 rfl (ifF (c2_ge_F rx7 (R.1 53 5) (by omega))) ?_
        refine evx_F E210 D210_273 rfl rfl ?_
        refine evx_gfr E210 D210_274 F210_130 H53 rfl R ?_
        refine evx_F E210 D210_277 rfl rfl ?_
        obtain ⟨k93, hs⟩ := ck hs
        refine evx_ial E210 D210_279 H93 (by decide) R k93 ?_
        refine evx_F E210 D210_280 rfl rfl ?_
        refine evx_ishr E210 D210_282 ?_
        refine evx_F E210 D210_283 rfl rfl ?_
        refine evx_iand E210 D210_284 ?_
        by_cases cb94 : ¬ (bAnd (bShr (M 93 (Int.toNat x6)) x7) 1) = 0
        · rw [if_pos cb94] at hs
          refine evx_F E210 D210_285 rfl (ifT (c1_ne_T (iz_rg _) cb94)) ?_
          refine evx_F E210 D210_291 rfl rfl ?_
          refine evx_gfr E210 D210_292 F210_62 H53 rfl R ?_
          refine evx_k (k := 8) E210 D210_295 rfl (by decide) ?_
          refine evx_F E210 D210_297 rfl rfl ?_
          refine evx_mul E210 D210_299 ?_
          refine evx_F E210 D210_300 rfl rfl ?_
          refine evx_gfr E210 D210_301 F210_59 H53 rfl R ?_
          refine evx_F E210 D210_304 rfl rfl ?_
          obtain ⟨k95, hs⟩ := ck hs
          refine evx_ial E210 D210_306 H70 (by decide) R k95 ?_
          refine evx_add E210 D210_307 ?_
          refine evx_k (k := 8) E210 D210_308 rfl (by decide) ?_
          refine evx_F E210 D210_310 rfl rfl ?_
          refine evx_mul E210 D210_312 ?_
          refine evx_F E210 D210_313 rfl rfl ?_
          refine evx_add E210 D210_315 ?_
          obtain ⟨k96, hs⟩ := ck hs
          obtain ⟨k97, hs⟩ := ck hs
          refine evx_ias E210 D210_316 H71 (by decide) R k96 k97 ?_
          intro h98 R99
          refine evx_F E210 D210_317 rfl rfl ?_
          refine evx_gfr E210 D210_318 F210_59 H53 rfl R99 ?_
          refine evx_F E210 D210_321 rfl rfl ?_
          refine evx_F E210 D210_323 rfl rfl ?_
          refine evx_ial E210 D210_324 H70 (by decide) R99 k95 ?_
          show evx _ _ _ _ _ _ (.inl (iz (M 70 (Int.toNat x5))) :: _) _ _ _
          refine evx_F E210 D210_325 rfl rfl ?_
          refine evx_add E210 D210_326 ?_
          obtain ⟨k100, hs⟩ := ck hs
          refine evx_ias E210 D210_327 H70 (by decide) R99 k95 k100 ?_
          intro h101 R102
          refine evx_inc E210 D210_328 (Nat.le_of_ble_eq_true rfl) rfl ?_
          refine evx_F E210 D210_331 rfl rfl ?_
          obtain ⟨k103, hs⟩ := ck hs
          show evx _ _ _ _ _ [(7, .inl (iz (x7 + 1))), (0, .inr (.inr (.inl (some 53)))), (1, .inl (iz x1)), (2, .inl (iz x2)), (3, .inl (iz x3)), (4, .inl (iz x4)), (5, .inl (iz x5)), (6, .inl (iz x6))] _ _ _ _
          exact evx_lv (lvLe_mk (fm rfl (fm rfl (fm rfl (fm rfl (fm rfl (fm rfl (fm rfl (fm rfl fn)))))))) (fm rfl (fm rfl (fm rfl (fm rfl (fm rfl (fm rfl (fm rfl (fm rfl fn)))))))) (fm rfl (fm rfl (fm rfl (fm rfl (fm rfl (fm rfl (fm rfl (fm rfl fn))))))))) (ih.2.2 _ _ _ _ _ _ _ _ _ _ _ hs R102 rx1 rx2 rx3 rx4 rx5 rx6 k103)
        · rw [if_neg cb94] at hs
          refine evx_F E210 D210_285 rfl (ifF (c1_ne_F (iz_rg _) (by omega))) ?_
          refine evx_F E210 D210_288 rfl rfl ?_
          refine evx_inc E210 D210_328 (Nat.le_of_ble_eq_true rfl) rfl ?_
          refine evx_F E210 D210_331 rfl rfl ?_
          obtain ⟨k104, hs⟩ := ck hs
          show evx _ _ _ _ _ [(7, .inl (iz (x7 + 1))), (0, .inr (.inr (.inl (some 53)))), (1, .inl (iz x1)), (2, .inl (iz x2)), (3, .inl (iz x3)), (4, .inl (iz x4)), (5, .inl (iz x5)), (6, .inl (iz x6))] _ _ _ _
          exact evx_lv (lvLe_mk (fm rfl (fm rfl (fm rfl (fm rfl (fm rfl (fm rfl (fm rfl (fm rfl fn)))))))) (fm rfl (fm rfl (fm rfl (fm rfl (fm rfl (fm rfl (fm rfl (fm rfl fn)))))))) (fm rfl (fm rfl (fm rfl (fm rfl (fm rfl (fm rfl (fm rfl (fm rfl fn))))))))) (ih.2.2 _ _ _ _ _ _ _ _ _ _ _ hs R rx1 rx2 rx3 rx4 rx5 rx6 k104)
def f210 (M : Mm) (x1 : Int) : Option (Int × Mm) := (f206 M x1).bind (fun q2 => if ¬ q2 = 0 then (if ¬ (M 53 17) = 20 then (f211 (up M 53 0 0) x1).bind (fun zq11 => if zq11.1 = 0 then (some ((-1), zq11.2)) else (f225 zq11.2).bind (fun zq18 => if zq18.1 = 0 then (f226 (up zq18.2 53 53 (-1)) (zq18.2 85 (Int.toNat 0))).bind (fun zq27 => (f227 zq27.2).bind (fun zq33 => l210 FU 79 zq33.2 x1 0 0 0 0 0 0)) else (some ((-1), zq18.2)))) else (some (0, (up M 53 0 2)))) else (some (0, (up M 53 0 1))))
theorem c210 {L : Nat} {xs : Nat → Int32} {h : mvH} {M : Mm} {x1 : Int} {v : Int} {M' : Mm} (R : rp h M) (rx1 : rg x1) (hs : f210 M x1 = some (v, M')) : evx L xs 7 210 0 [(0, .inr (.inr (.inl (some 53)))), (1, .inl (iz x1))] [] h (.inl (some (.inl v)), 0) M' := by
  unfold f210 at hs
  refine evx_F E210 D210_0 rfl rfl ?_
  refine evx_F E210 D210_1 rfl rfl ?_
  refine evx_F E210 D210_2 rfl rfl ?_
  obtain ⟨q2, e1, hs⟩ := Option.bind_eq_some_iff.mp hs
  refine evx_cv (D := 6) E210 D210_3 I210_220 rfl rfl H53 ⟨Nat.le_of_ble_eq_true rfl, Nat.le_of_ble_eq_true rfl⟩ ⟨rfl, Nat.le_of_ble_eq_true rfl⟩ rfl R (evx_up (Nat.le_of_ble_eq_true rfl) (c206 R rx1 e1)) ?_
  intro h3 R4 w5
  have w5 : rg q2 := w5
  show evx _ _ _ _ _ _ (.inl (iz q2) :: _) _ _ _
  by_cases cb6 : ¬ q2 = 0
  · rw [if_pos cb6] at hs
    refine evx_F E210 D210_6 rfl (ifT (c1_ne_T w5 cb6)) ?_
    refine evx_F E210 D210_13 rfl rfl ?_
    refine evx_gfi (k := 17) E210 D210_14 F210_223 H53 rfl R4 ?_
    refine evx_k (k := 20) E210 D210_17 rfl (by decide) ?_
    by_cases cb7 : ¬ (M 53 17) = 20
    · rw [if_pos cb7] at hs
      refine evx_F E210 D210_19 rfl (ifT (c2_ne_T (R4.1 53 17) (by decide) cb7)) ?_
      refine evx_F E210 D210_26 rfl rfl ?_
      refine evx_pfi (k := 0) E210 D210_27 F210_182 H53 rfl R4 (by decide) rfl ?_
      intro h8 R9
      refine evx_F E210 D210_30 rfl rfl ?_
      refine evx_gfi (k := 0) E210 D210_31 F210_182 H53 rfl R9 ?_
      show evx _ _ _ _ _ _ (.inl (iz 0) :: _) _ _ _
      refine evx_F E210 D210_34 rfl rfl ?_
      refine evx_F E210 D210_39 rfl rfl ?_
      refine evx_F E210 D210_40 rfl rfl ?_
      obtain ⟨⟨q11, M15⟩, e10, hs⟩ := Option.bind_eq_some_iff.mp hs
      dsimp only at hs
      refine evx_cv (D := 6) E210 D210_41 I210_310 rfl rfl H53 ⟨Nat.le_of_ble_eq_true rfl, Nat.le_of_ble_eq_true rfl⟩ ⟨rfl, Nat.le_of_ble_eq_true rfl⟩ rfl R9 (evx_up (Nat.le_of_ble_eq_true rfl) (c211 R9 rx1 e10)) ?_
      intro h12 R13 w14
      have w14 : rg q11 := w14
      show evx _ _ _ _ _ _ (.inl (iz q11) :: _) _ _ _
      by_cases cb16 : q11 = 0
      · rw [if_pos cb16] at hs
        refine evx_F E210 D210_44 rfl (ifT (c1_eq_T w14 cb16)) ?_
        refine evx_F E210 D210_54 rfl rfl ?_
        cases hs
        exact evx_ret E210 D210_55 rfl (fun d => rfl) rfl (show rg _ from (by decide)) R13
      · rw [if_neg cb16] at hs
        refine evx_F E210 D210_44 rfl (ifF (c1_eq_F w14 (by omega))) ?_
        refine evx_F E210 D210_47 rfl rfl ?_
        obtain ⟨⟨q18, M22⟩, e17, hs⟩ := Option.bind_eq_some_iff.mp hs
        dsimp only at hs
        refine evx_cv (D := 6) E210 D210_48 I210_313 rfl rfl H53 ⟨Nat.le_of_ble_eq_true rfl, Nat.le_of_ble_eq_true rfl⟩ ⟨rfl, Nat.le_of_ble_eq_true rfl⟩ rfl R13 (evx_up (Nat.le_of_ble_eq_true rfl) (c225 R13  e17)) ?_
        intro h19 R20 w21
        have w21 : rg q18 := w21
        show evx _ _ _ _ _ _ (.inl (iz q18) :: _) _ _ _
        by_cases cb23 : q18 = 0
        · rw [if_pos cb23] at hs
          refine evx_F E210 D210_51 rfl (ifT (c1_eq_T w21 cb23)) ?_
          refine evx_F E210 D210_56 rfl rfl ?_
          refine evx_F E210 D210_57 rfl rfl ?_
          refine evx_pfi (k := 53) E210 D210_58 F210_292 H53 rfl R20 (by decide) rfl ?_
          intro h24 R25
          refine evx_F E210 D210_61 rfl rfl ?_
          refine evx_F E210 D210_62 rfl rfl ?_
          refine evx_gfr E210 D210_63 F210_106 H53 rfl R25 ?_
          refine evx_F E210 D210_66 rfl rfl ?_
          refine evx_ial E210 D210_67 H85 (by decide) R25 (by decide) ?_
          show evx _ _ _ _ _ _ (.inl (iz (M22 85 (Int.toNat 0))) :: _) _ _ _
          obtain ⟨⟨q27, M31⟩, e26, hs⟩ := Option.bind_eq_some_iff.mp hs
          dsimp only at hs
          refine evx_cv (D := 6) E210 D210_68 I210_317 rfl rfl H53 ⟨Nat.le_of_ble_eq_true rfl, Nat.le_of_ble_eq_true rfl⟩ ⟨rfl, Nat.le_of_ble_eq_true rfl⟩ rfl R25 (evx_up (Nat.le_of_ble_eq_true rfl) (c226 R25 (R25.1 85 (Int.toNat 0)) e26)) ?_
          intro h28 R29 w30
          refine evx_F E210 D210_71 rfl rfl ?_
          obtain ⟨⟨q33, M37⟩, e32, hs⟩ := Option.bind_eq_some_iff.mp hs
          dsimp only at hs
          refine evx_cv (D := 6) E210 D210_72 I210_320 rfl rfl H53 ⟨Nat.le_of_ble_eq_true rfl, Nat.le_of_ble_eq_true rfl⟩ ⟨rfl, Nat.le_of_ble_eq_true rfl⟩ rfl R29 (evx_up (Nat.le_of_ble_eq_true rfl) (c227 R29  e32)) ?_
          intro h34 R35 w36
          refine evx_F E210 D210_75 rfl rfl ?_
          refine evx_F E210 D210_76 rfl rfl ?_
          refine evx_F E210 D210_77 rfl rfl ?_
          refine evx_F E210 D210_78 rfl rfl ?_
          show evx _ _ _ _ _ [(3, .inl (iz 0)), (2, .inl (iz 0)), (0, .inr (.inr (.inl (some 53)))), (1, .inl (iz x1))] _ _ _ _
          exact evx_lv (lvLe_mk (fm rfl (fm rfl (fm rfl (fm rfl fn)))) (fm rfl (fm rfl (fm rfl (fm rfl fn)))) (fm rfl (fm rfl (fm rfl (fm rfl fn))))) ((d210 FU).1 _ _ _ _ _ _ _ hs R35 rx1 (by decide) (by decide))
        · rw [if_neg cb23] at hs
          refine evx_F E210 D210_51 rfl (ifF (c1_eq_F w21 (by omega))) ?_
          refine evx_F E210 D210_54 rfl rfl ?_
          cases hs
          exact evx_ret E210 D210_55 rfl (fun d => rfl) rfl (show rg _ from (by decide)) R20
    · rw [if_neg cb7] at hs
      refine evx_F E210 D210_19 rfl (ifF (c2_ne_F (R4.1 53 17) (by decide) (by omega))) ?_
      refine evx_F E210 D210_22 rfl rfl ?_
      refine evx_F E210 D210_23 rfl rfl ?_
      refine evx_pfi (k := 0) E210 D210_27 F210_182 H53 rfl R4 (by decide) rfl ?_
      intro h38 R39
      refine evx_F E210 D210_30 rfl rfl ?_
      refine evx_gfi (k := 0) E210 D210_31 F210_182 H53 rfl R39 ?_
      show evx _ _ _ _ _ _ (.inl (iz 2) :: _) _ _ _
      refine evx_F E210 D210_34 rfl rfl ?_
      refine evx_F E210 D210_37 rfl rfl ?_
      cases hs
      exact evx_ret E210 D210_38 rfl (fun d => rfl) rfl (show rg _ from (by decide)) R39
  · rw [if_neg cb6] at hs
    refine evx_F E210 D210_6 rfl (ifF (c1_ne_F w5 (by omega))) ?_
    refine evx_F E210 D210_9 rfl rfl ?_
    refine evx_F E210 D210_10 rfl rfl ?_
    refine evx_pfi (k := 0) E210 D210_27 F210_182 H53 rfl R4 (by decide) rfl ?_
    intro h40 R41
    refine evx_F E210 D210_30 rfl rfl ?_
    refine evx_gfi (k := 0) E210 D210_31 F210_182 H53 rfl R41 ?_
    show evx _ _ _ _ _ _ (.inl (iz 1) :: _) _ _ _
    refine evx_F E210 D210_34 rfl rfl ?_
    refine evx_F E210 D210_37 rfl rfl ?_
    cases hs
    exact evx_ret E210 D210_38 rfl (fun d => rfl) rfl (show rg _ from (by decide)) R41
