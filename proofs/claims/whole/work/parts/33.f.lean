/-! More methods as functions, printed by a program. -/
set_option maxRecDepth 20000 in
theorem E247 : pgMm 247 = some (⟨"DictionaryHouseModel", "cell", "(IIIIII)I"⟩, prog_14_method_56_code, 7, (some .int), []) := rfl
theorem D247_0 : pgDecT 247 0 = some (.aload_n 0, 1) := by decide +kernel
theorem D247_1 : pgDecT 247 1 = some (.getfield 136, 3) := by decide +kernel
theorem F247_136 : pgFf 247 136 = some (12, 62, 3) := by decide +kernel
theorem D247_4 : pgDecT 247 4 = some (.aload_n 0, 1) := by decide +kernel
theorem D247_5 : pgDecT 247 5 = some (.getfield 348, 3) := by decide +kernel
theorem F247_348 : pgFf 247 348 = some (12, 61, 0) := by decide +kernel
theorem D247_8 : pgDecT 247 8 = some (.iload_n 1, 1) := by decide +kernel
theorem D247_9 : pgDecT 247 9 = some (.iastore, 1) := by decide +kernel
theorem D247_10 : pgDecT 247 10 = some (.aload_n 0, 1) := by decide +kernel
theorem D247_11 : pgDecT 247 11 = some (.getfield 139, 3) := by decide +kernel
theorem F247_139 : pgFf 247 139 = some (12, 63, 3) := by decide +kernel
theorem D247_14 : pgDecT 247 14 = some (.aload_n 0, 1) := by decide +kernel
theorem D247_15 : pgDecT 247 15 = some (.getfield 348, 3) := by decide +kernel
theorem D247_18 : pgDecT 247 18 = some (.iload_n 2, 1) := by decide +kernel
theorem D247_19 : pgDecT 247 19 = some (.iastore, 1) := by decide +kernel
theorem D247_20 : pgDecT 247 20 = some (.aload_n 0, 1) := by decide +kernel
theorem D247_21 : pgDecT 247 21 = some (.getfield 142, 3) := by decide +kernel
theorem F247_142 : pgFf 247 142 = some (12, 64, 3) := by decide +kernel
theorem D247_24 : pgDecT 247 24 = some (.aload_n 0, 1) := by decide +kernel
theorem D247_25 : pgDecT 247 25 = some (.getfield 348, 3) := by decide +kernel
theorem D247_28 : pgDecT 247 28 = some (.iload_n 3, 1) := by decide +kernel
theorem D247_29 : pgDecT 247 29 = some (.iastore, 1) := by decide +kernel
theorem D247_30 : pgDecT 247 30 = some (.aload_n 0, 1) := by decide +kernel
theorem D247_31 : pgDecT 247 31 = some (.getfield 145, 3) := by decide +kernel
theorem F247_145 : pgFf 247 145 = some (12, 65, 3) := by decide +kernel
theorem D247_34 : pgDecT 247 34 = some (.aload_n 0, 1) := by decide +kernel
theorem D247_35 : pgDecT 247 35 = some (.getfield 348, 3) := by decide +kernel
theorem D247_38 : pgDecT 247 38 = some (.iload 4, 2) := by decide +kernel
theorem D247_40 : pgDecT 247 40 = some (.iastore, 1) := by decide +kernel
theorem D247_41 : pgDecT 247 41 = some (.aload_n 0, 1) := by decide +kernel
theorem D247_42 : pgDecT 247 42 = some (.getfield 148, 3) := by decide +kernel
theorem F247_148 : pgFf 247 148 = some (12, 66, 3) := by decide +kernel
theorem D247_45 : pgDecT 247 45 = some (.aload_n 0, 1) := by decide +kernel
theorem D247_46 : pgDecT 247 46 = some (.getfield 348, 3) := by decide +kernel
theorem D247_49 : pgDecT 247 49 = some (.iload 5, 2) := by decide +kernel
theorem D247_51 : pgDecT 247 51 = some (.iastore, 1) := by decide +kernel
theorem D247_52 : pgDecT 247 52 = some (.aload_n 0, 1) := by decide +kernel
theorem D247_53 : pgDecT 247 53 = some (.getfield 151, 3) := by decide +kernel
theorem F247_151 : pgFf 247 151 = some (12, 67, 3) := by decide +kernel
theorem D247_56 : pgDecT 247 56 = some (.aload_n 0, 1) := by decide +kernel
theorem D247_57 : pgDecT 247 57 = some (.getfield 348, 3) := by decide +kernel
theorem D247_60 : pgDecT 247 60 = some (.iload 6, 2) := by decide +kernel
theorem D247_62 : pgDecT 247 62 = some (.iastore, 1) := by decide +kernel
theorem D247_63 : pgDecT 247 63 = some (.aload_n 0, 1) := by decide +kernel
theorem D247_64 : pgDecT 247 64 = some (.dup, 1) := by decide +kernel
theorem D247_65 : pgDecT 247 65 = some (.getfield 348, 3) := by decide +kernel
theorem D247_68 : pgDecT 247 68 = some (.iconst 1, 1) := by decide +kernel
theorem D247_69 : pgDecT 247 69 = some (.iadd, 1) := by decide +kernel
theorem D247_70 : pgDecT 247 70 = some (.putfield 348, 3) := by decide +kernel
theorem D247_73 : pgDecT 247 73 = some (.aload_n 0, 1) := by decide +kernel
theorem D247_74 : pgDecT 247 74 = some (.getfield 348, 3) := by decide +kernel
theorem D247_77 : pgDecT 247 77 = some (.iconst 1, 1) := by decide +kernel
theorem D247_78 : pgDecT 247 78 = some (.isub, 1) := by decide +kernel
theorem D247_79 : pgDecT 247 79 = some (.ireturn, 1) := by decide +kernel
/-! 247: DictionaryHouseModel.cell (IIIIII)I -/
def f247 (M : Mm) (x1 : Int) (x2 : Int) (x3 : Int) (x4 : Int) (x5 : Int) (x6 : Int) : Option (Int × Mm) := if 0 ≤ (M 53 61) ∧ (M 53 61) < 6000 then (if rg ((M 53 61) + 1) then (if rg (((M 53 61) + 1) - 1) then (some ((((M 53 61) + 1) - 1), (up (up (up (up (up (up (up M 95 (Int.toNat (M 53 61)) x1) 96 (Int.toNat (M 53 61)) x2) 97 (Int.toNat (M 53 61)) x3) 98 (Int.toNat (M 53 61)) x4) 99 (Int.toNat (M 53 61)) x5) 100 (Int.toNat (M 53 61)) x6) 53 61 ((M 53 61) + 1)))) else none) else none) else none
theorem c247 {L : Nat} {xs : Nat → Int32} {h : mvH} {M : Mm} {x1 x2 x3 x4 x5 x6 : Int} {v : Int} {M' : Mm} (R : rp h M) (rx1 : rg x1) (rx2 : rg x2) (rx3 : rg x3) (rx4 : rg x4) (rx5 : rg x5) (rx6 : rg x6) (hs : f247 M x1 x2 x3 x4 x5 x6 = some (v, M')) : evx L xs 1 247 0 [(0, .inr (.inr (.inl (some 53)))), (1, .inl (iz x1)), (2, .inl (iz x2)), (3, .inl (iz x3)), (4, .inl (iz x4)), (5, .inl (iz x5)), (6, .inl (iz x6))] [] h (.inl (some (.inl v)), 0) M' := by
  unfold f247 at hs
  refine evx_F E247 D247_0 rfl rfl ?_
  refine evx_gfr E247 D247_1 F247_136 H53 rfl R ?_
  refine evx_F E247 D247_4 rfl rfl ?_
  refine evx_gfi (k := 61) E247 D247_5 F247_348 H53 rfl R ?_
  refine evx_F E247 D247_8 rfl rfl ?_
  obtain ⟨k1, hs⟩ := ck hs
  refine evx_ias E247 D247_9 H95 (by decide) R k1 rx1 ?_
  intro h2 R3
  refine evx_F E247 D247_10 rfl rfl ?_
  refine evx_gfr E247 D247_11 F247_139 H53 rfl R3 ?_
  refine evx_F E247 D247_14 rfl rfl ?_
  refine evx_gfi (k := 61) E247 D247_15 F247_348 H53 rfl R3 ?_
  show evx _ _ _ _ _ _ (.inl (iz (M 53 61)) :: _) _ _ _
  refine evx_F E247 D247_18 rfl rfl ?_
  refine evx_ias E247 D247_19 H96 (by decide) R3 k1 rx2 ?_
  intro h4 R5
  refine evx_F E247 D247_20 rfl rfl ?_
  refine evx_gfr E247 D247_21 F247_142 H53 rfl R5 ?_
  refine evx_F E247 D247_24 rfl rfl ?_
  refine evx_gfi (k := 61) E247 D247_25 F247_348 H53 rfl R5 ?_
  show evx _ _ _ _ _ _ (.inl (iz (M 53 61)) :: _) _ _ _
  refine evx_F E247 D247_28 rfl rfl ?_
  refine evx_ias E247 D247_29 H97 (by decide) R5 k1 rx3 ?_
  intro h6 R7
  refine evx_F E247 D247_30 rfl rfl ?_
  refine evx_gfr E247 D247_31 F247_145 H53 rfl R7 ?_
  refine evx_F E247 D247_34 rfl rfl ?_
  refine evx_gfi (k := 61) E247 D247_35 F247_348 H53 rfl R7 ?_
  show evx _ _ _ _ _ _ (.inl (iz (M 53 61)) :: _) _ _ _
  refine evx_F E247 D247_38 rfl rfl ?_
  refine evx_ias E247 D247_40 H98 (by decide) R7 k1 rx4 ?_
  intro h8 R9
  refine evx_F E247 D247_41 rfl rfl ?_
  refine evx_gfr E247 D247_42 F247_148 H53 rfl R9 ?_
  refine evx_F E247 D247_45 rfl rfl ?_
  refine evx_gfi (k := 61) E247 D247_46 F247_348 H53 rfl R9 ?_
  show evx _ _ _ _ _ _ (.inl (iz (M 53 61)) :: _) _ _ _
  refine evx_F E247 D247_49 rfl rfl ?_
  refine evx_ias E247 D247_51 H99 (by decide) R9 k1 rx5 ?_
  intro h10 R11
  refine evx_F E247 D247_52 rfl rfl ?_
  refine evx_gfr E247 D247_53 F247_151 H53 rfl R11 ?_
  refine evx_F E247 D247_56 rfl rfl ?_
  refine evx_gfi (k := 61) E247 D247_57 F247_348 H53 rfl R11 ?_
  show evx _ _ _ _ _ _ (.inl (iz (M 53 61)) :: _) _ _ _
  refine evx_F E247 D247_60 rfl rfl ?_
  refine evx_ias E247 D247_62 H100 (by decide) R11 k1 rx6 ?_
  intro h12 R13
  refine evx_F E247 D247_63 rfl rfl ?_
  refine evx_F E247 D247_64 rfl rfl ?_
  refine evx_gfi (k := 61) E247 D247_65 F247_348 H53 rfl R13 ?_
  show evx _ _ _ _ _ _ (.inl (iz (M 53 61)) :: _) _ _ _
  refine evx_F E247 D247_68 rfl rfl ?_
  refine evx_add E247 D247_69 ?_
  obtain ⟨k14, hs⟩ := ck hs
  refine evx_pfi (k := 61) E247 D247_70 F247_348 H53 rfl R13 k14 rfl ?_
  intro h15 R16
  refine evx_F E247 D247_73 rfl rfl ?_
  refine evx_gfi (k := 61) E247 D247_74 F247_348 H53 rfl R16 ?_
  show evx _ _ _ _ _ _ (.inl (iz ((M 53 61) + 1)) :: _) _ _ _
  refine evx_F E247 D247_77 rfl rfl ?_
  refine evx_sub E247 D247_78 ?_
  obtain ⟨k17, hs⟩ := ck hs
  cases hs
  exact evx_ret E247 D247_79 rfl (fun d => rfl) rfl (show rg _ from k17) R16
set_option maxRecDepth 20000 in
theorem E248 : pgMm 248 = some (⟨"DictionaryHouseModel", "resolve", "(II)V"⟩, prog_14_method_58_code, 5, none, []) := rfl
theorem D248_0 : pgDecT 248 0 = some (.aload_n 0, 1) := by decide +kernel
theorem D248_1 : pgDecT 248 1 = some (.iload_n 1, 1) := by decide +kernel
theorem D248_2 : pgDecT 248 2 = some (.putfield 360, 3) := by decide +kernel
theorem F248_360 : pgFf 248 360 = some (12, 79, 0) := by decide +kernel
theorem D248_5 : pgDecT 248 5 = some (.aload_n 0, 1) := by decide +kernel
theorem D248_6 : pgDecT 248 6 = some (.iload_n 2, 1) := by decide +kernel
theorem D248_7 : pgDecT 248 7 = some (.putfield 363, 3) := by decide +kernel
theorem F248_363 : pgFf 248 363 = some (12, 80, 0) := by decide +kernel
theorem D248_10 : pgDecT 248 10 = some (.aload_n 0, 1) := by decide +kernel
theorem D248_11 : pgDecT 248 11 = some (.getfield 70, 3) := by decide +kernel
theorem F248_70 : pgFf 248 70 = some (12, 25, 3) := by decide +kernel
theorem D248_14 : pgDecT 248 14 = some (.aload_n 0, 1) := by decide +kernel
theorem D248_15 : pgDecT 248 15 = some (.getfield 360, 3) := by decide +kernel
theorem D248_18 : pgDecT 248 18 = some (.iaload, 1) := by decide +kernel
theorem D248_19 : pgDecT 248 19 = some (.iconst 2, 1) := by decide +kernel
theorem D248_20 : pgDecT 248 20 = some (.if_icmp .eq 16, 3) := by decide +kernel
theorem D248_36 : pgDecT 248 36 = some (.aload_n 0, 1) := by decide +kernel
theorem D248_37 : pgDecT 248 37 = some (.getfield 70, 3) := by decide +kernel
theorem D248_40 : pgDecT 248 40 = some (.aload_n 0, 1) := by decide +kernel
theorem D248_41 : pgDecT 248 41 = some (.getfield 360, 3) := by decide +kernel
theorem D248_44 : pgDecT 248 44 = some (.iaload, 1) := by decide +kernel
theorem D248_45 : pgDecT 248 45 = some (.iconst 5, 1) := by decide +kernel
theorem D248_46 : pgDecT 248 46 = some (.if_icmp .ne 7, 3) := by decide +kernel
theorem D248_53 : pgDecT 248 53 = some (.aload_n 0, 1) := by decide +kernel
theorem D248_54 : pgDecT 248 54 = some (.getfield 73, 3) := by decide +kernel
theorem F248_73 : pgFf 248 73 = some (12, 26, 3) := by decide +kernel
theorem D248_57 : pgDecT 248 57 = some (.aload_n 0, 1) := by decide +kernel
theorem D248_58 : pgDecT 248 58 = some (.getfield 360, 3) := by decide +kernel
theorem D248_61 : pgDecT 248 61 = some (.iaload, 1) := by decide +kernel
theorem D248_62 : pgDecT 248 62 = some (.istore_n 3, 1) := by decide +kernel
theorem D248_63 : pgDecT 248 63 = some (.bipush 8, 2) := by decide +kernel
theorem D248_65 : pgDecT 248 65 = some (.aload_n 0, 1) := by decide +kernel
theorem D248_66 : pgDecT 248 66 = some (.getfield 363, 3) := by decide +kernel
theorem D248_69 : pgDecT 248 69 = some (.imul, 1) := by decide +kernel
theorem D248_70 : pgDecT 248 70 = some (.iload_n 3, 1) := by decide +kernel
theorem D248_71 : pgDecT 248 71 = some (.iadd, 1) := by decide +kernel
theorem D248_72 : pgDecT 248 72 = some (.istore 4, 2) := by decide +kernel
theorem D248_74 : pgDecT 248 74 = some (.aload_n 0, 1) := by decide +kernel
theorem D248_75 : pgDecT 248 75 = some (.aload_n 0, 1) := by decide +kernel
theorem D248_76 : pgDecT 248 76 = some (.getfield 154, 3) := by decide +kernel
theorem F248_154 : pgFf 248 154 = some (12, 69, 3) := by decide +kernel
theorem D248_79 : pgDecT 248 79 = some (.iload 4, 2) := by decide +kernel
theorem D248_81 : pgDecT 248 81 = some (.iaload, 1) := by decide +kernel
theorem D248_82 : pgDecT 248 82 = some (.putfield 360, 3) := by decide +kernel
theorem D248_85 : pgDecT 248 85 = some (.aload_n 0, 1) := by decide +kernel
theorem D248_86 : pgDecT 248 86 = some (.aload_n 0, 1) := by decide +kernel
theorem D248_87 : pgDecT 248 87 = some (.getfield 157, 3) := by decide +kernel
theorem F248_157 : pgFf 248 157 = some (12, 70, 3) := by decide +kernel
theorem D248_90 : pgDecT 248 90 = some (.iload 4, 2) := by decide +kernel
theorem D248_92 : pgDecT 248 92 = some (.iaload, 1) := by decide +kernel
theorem D248_93 : pgDecT 248 93 = some (.putfield 363, 3) := by decide +kernel
theorem D248_96 : pgDecT 248 96 = some (.goto (-86), 3) := by decide +kernel
theorem D248_49 : pgDecT 248 49 = some (.iconst 0, 1) := by decide +kernel
theorem D248_50 : pgDecT 248 50 = some (.goto 12, 3) := by decide +kernel
theorem D248_23 : pgDecT 248 23 = some (.aload_n 0, 1) := by decide +kernel
theorem D248_24 : pgDecT 248 24 = some (.getfield 70, 3) := by decide +kernel
theorem D248_27 : pgDecT 248 27 = some (.aload_n 0, 1) := by decide +kernel
theorem D248_28 : pgDecT 248 28 = some (.getfield 360, 3) := by decide +kernel
theorem D248_31 : pgDecT 248 31 = some (.iaload, 1) := by decide +kernel
theorem D248_32 : pgDecT 248 32 = some (.iconst 5, 1) := by decide +kernel
theorem D248_33 : pgDecT 248 33 = some (.if_icmp .ne 66, 3) := by decide +kernel
theorem D248_99 : pgDecT 248 99 = some (.return_, 1) := by decide +kernel
/-! 248: DictionaryHouseModel.resolve (II)V -/
def l248 : Nat → Nat → Mm → Int → Int → Option (Int × Mm)
  | 0, _, _, _, _ => none
  | f + 1, 10, M, x1, x2 => if 0 ≤ (M 53 79) ∧ (M 53 79) < 200000 then (if (M 73 (Int.toNat (M 53 79))) = 2 then (if ¬ (M 73 (Int.toNat (M 53 79))) = 5 then (if 0 ≤ (((8 : Int) * (M 53 80)) + (M 74 (Int.toNat (M 53 79)))) ∧ (((8 : Int) * (M 53 80)) + (M 74 (Int.toNat (M 53 79)))) < 4000 then (l248 f 10 (up (up M 53 79 (M 101 (Int.toNat (((8 : Int) * (M 53 80)) + (M 74 (Int.toNat (M 53 79))))))) 53 80 (M 102 (Int.toNat (((8 : Int) * (M 53 80)) + (M 74 (Int.toNat (M 53 79))))))) x1 x2) else none) else (if 0 ≤ (((8 : Int) * (M 53 80)) + 0) ∧ (((8 : Int) * (M 53 80)) + 0) < 4000 then (l248 f 10 (up (up M 53 79 (M 101 (Int.toNat (((8 : Int) * (M 53 80)) + 0)))) 53 80 (M 102 (Int.toNat (((8 : Int) * (M 53 80)) + 0)))) x1 x2) else none)) else (if ¬ (M 73 (Int.toNat (M 53 79))) = 5 then (some (0, M)) else (if ¬ (M 73 (Int.toNat (M 53 79))) = 5 then (if 0 ≤ (((8 : Int) * (M 53 80)) + (M 74 (Int.toNat (M 53 79)))) ∧ (((8 : Int) * (M 53 80)) + (M 74 (Int.toNat (M 53 79)))) < 4000 then (l248 f 10 (up (up M 53 79 (M 101 (Int.toNat (((8 : Int) * (M 53 80)) + (M 74 (Int.toNat (M 53 79))))))) 53 80 (M 102 (Int.toNat (((8 : Int) * (M 53 80)) + (M 74 (Int.toNat (M 53 79))))))) x1 x2) else none) else (if 0 ≤ (((8 : Int) * (M 53 80)) + 0) ∧ (((8 : Int) * (M 53 80)) + 0) < 4000 then (l248 f 10 (up (up M 53 79 (M 101 (Int.toNat (((8 : Int) * (M 53 80)) + 0)))) 53 80 (M 102 (Int.toNat (((8 : Int) * (M 53 80)) + 0)))) x1 x2) else none)))) else none
  | _, _, _, _, _ => none
theorem d248 {L : Nat} {xs : Nat → Int32} (f : Nat) : (∀ (M : Mm) (x1 x2 : Int) (h : mvH) (v : Int) (M' : Mm), l248 f 10 M x1 x2 = some (v, M') → rp h M → rg x1 → rg x2 → evx L xs 1 248 10 [(0, .inr (.inr (.inl (some 53)))), (1, .inl (iz x1)), (2, .inl (iz x2))] [] h (.inl none, 0) M') := by
  induction f with
  | zero => exact (fun M x1 x2 h v M' hs _ _ _ => by cases hs)
  | succ f ih =>
    intro M x1 x2 h v M' hs R rx1 rx2
    rw [l248] at hs
    refine evx_F E248 D248_10 rfl rfl ?_
    refine evx_gfr E248 D248_11 F248_70 H53 rfl R ?_
    refine evx_F E248 D248_14 rfl rfl ?_
    refine evx_gfi (k := 79) E248 D248_15 F248_360 H53 rfl R ?_
    obtain ⟨k5, hs⟩ := ck hs
    refine evx_ial E248 D248_18 H73 (by decide) R k5 ?_
    refine evx_F E248 D248_19 rfl rfl ?_
    by_cases cb6 : (M 73 (Int.toNat (M 53 79))) = 2
    · rw [if_pos cb6] at hs
      refine evx_F E248 D248_20 rfl (ifT (c2_eq_T (R.1 73 (Int.toNat (M 53 79))) (by decide) cb6)) ?_
      refine evx_F E248 D248_36 rfl rfl ?_
      refine evx_gfr E248 D248_37 F248_70 H53 rfl R ?_
      refine evx_F E248 D248_40 rfl rfl ?_
      refine evx_gfi (k := 79) E248 D248_41 F248_360 H53 rfl R ?_
      refine evx_ial E248 D248_44 H73 (by decide) R k5 ?_
      refine evx_F E248 D248_45 rfl rfl ?_
      by_cases cb7 : ¬ (M 73 (Int.toNat (M 53 79))) = 5
      · rw [if_pos cb7] at hs
        refine evx_F E248 D248_46 rfl (ifT (c2_ne_T (R.1 73 (Int.toNat (M 53 79))) (by decide) cb7)) ?_
        refine evx_F E248 D248_53 rfl rfl ?_
        refine evx_gfr E248 D248_54 F248_73 H53 rfl R ?_
        refine evx_F E248 D248_57 rfl rfl ?_
        refine evx_gfi (k := 79) E248 D248_58 F248_360 H53 rfl R ?_
        refine evx_ial E248 D248_61 H74 (by decide) R k5 ?_
        refine evx_F E248 D248_62 rfl rfl ?_
        refine evx_k (k := 8) E248 D248_63 rfl (by decide) ?_
        refine evx_F E248 D248_65 rfl rfl ?_
        refine evx_gfi (k := 80) E248 D248_66 F248_363 H53 rfl R ?_
        refine evx_mul E248 D248_69 ?_
        refine evx_F E248 D248_70 rfl rfl ?_
        refine evx_add E248 D248_71 ?_
        refine evx_F E248 D248_72 rfl rfl ?_
        refine evx_F E248 D248_74 rfl rfl ?_
        refine evx_F E248 D248_75 rfl rfl ?_
        refine evx_gfr E248 D248_76 F248_154 H53 rfl R ?_
        refine evx_F E248 D248_79 rfl rfl ?_
        obtain ⟨k8, hs⟩ := ck hs
        refine evx_ial E248 D248_81 H101 (by decide) R k8 ?_
        refine evx_pfi (k := 79) E248 D248_82 F248_360 H53 rfl R (R.1 101 (Int.toNat (((8 : Int) * (M 53 80)) + (M 74 (Int.toNat (M 53 79)))))) rfl ?_
        intro h9 R10
        refine evx_F E248 D248_85 rfl rfl ?_
        refine evx_F E248 D248_86 rfl rfl ?_
        refine evx_gfr E248 D248_87 F248_157 H53 rfl R10 ?_
        refine evx_F E248 D248_90 rfl rfl ?_
        refine evx_ial E248 D248_92 H102 (by decide) R10 k8 ?_
        show evx _ _ _ _ _ _ (.inl (iz (M 102 (Int.toNat (((8 : Int) * (M 53 80)) + (M 74 (Int.toNat (M 53 79))))))) :: _) _ _ _
        refine evx_pfi (k := 80) E248 D248_93 F248_363 H53 rfl R10 (R10.1 102 (Int.toNat (((8 : Int) * (M 53 80)) + (M 74 (Int.toNat (M 53 79)))))) rfl ?_
        intro h11 R12
        refine evx_F E248 D248_96 rfl rfl ?_
        show evx _ _ _ _ _ [(4, .inl (iz (((8 : Int) * (M 53 80)) + (M 74 (Int.toNat (M 53 79)))))), (3, .inl (iz (M 74 (Int.toNat (M 53 79))))), (0, .inr (.inr (.inl (some 53)))), (1, .inl (iz x1)), (2, .inl (iz x2))] _ _ _ _
        exact evx_lv (lvLe_mk (fm rfl (fm rfl (fm rfl fn))) (fm rfl (fm rfl (fm rfl (fm rfl (fm rfl fn))))) (fm rfl (fm rfl (fm rfl fn)))) (ih _ _ _ _ _ _ hs R12 rx1 rx2)
      · rw [if_neg cb7] at hs
        refine evx_F E248 D248_46 rfl (ifF (c2_ne_F (R.1 73 (Int.toNat (M 53 79))) (by decide) (by omega))) ?_
        refine evx_F E248 D248_49 rfl rfl ?_
        refine evx_F E248 D248_50 rfl rfl ?_
        refine evx_F E248 D248_62 rfl rfl ?_
        refine evx_k (k := 8) E248 D248_63 rfl (by decide) ?_
        refine evx_F E248 D248_65 rfl rfl ?_
        refine evx_gfi (k := 80) E248 D248_66 F248_363 H53 rfl R ?_
        refine evx_mul E248 D248_69 ?_
        refine evx_F E248 D248_70 rfl rfl ?_
        refine evx_add E248 D248_71 ?_
        refine evx_F E248 D248_72 rfl rfl ?_
        refine evx_F E248 D248_74 rfl rfl ?_
        refine evx_F E248 D248_75 rfl rfl ?_
        refine evx_gfr E248 D248_76 F248_154 H53 rfl R ?_
        refine evx_F E248 D248_79 rfl rfl ?_
        obtain ⟨k13, hs⟩ := ck hs
        refine evx_ial E248 D248_81 H101 (by decide) R k13 ?_
        refine evx_pfi (k := 79) E248 D248_82 F248_360 H53 rfl R (R.1 101 (Int.toNat (((8 : Int) * (M 53 80)) + 0))) rfl ?_
        intro h14 R15
        refine evx_F E248 D248_85 rfl rfl ?_
        refine evx_F E248 D248_86 rfl rfl ?_
        refine evx_gfr E248 D248_87 F248_157 H53 rfl R15 ?_
        refine evx_F E248 D248_90 rfl rfl ?_
        refine evx_ial E248 D248_92 H102 (by decide) R15 k13 ?_
        show evx _ _ _ _ _ _ (.inl (iz (M 102 (Int.toNat (((8 : Int) * (M 53 80)) + 0)))) :: _) _ _ _
        refine evx_pfi (k := 80) E248 D248_93 F248_363 H53 rfl R15 (R15.1 102 (Int.toNat (((8 : Int) * (M 53 80)) + 0))) rfl ?_
        intro h16 R17
        refine evx_F E248 D248_96 rfl rfl ?_
        show evx _ _ _ _ _ [(4, .inl (iz (((8 : Int) * (M 53 80)) + 0))), (3, .inl (iz 0)), (0, .inr (.inr (.inl (some 53)))), (1, .inl (iz x1)), (2, .inl (iz x2))] _ _ _ _
        exact evx_lv (lvLe_mk (fm rfl (fm rfl (fm rfl fn))) (fm rfl (fm rfl (fm rfl (fm rfl (fm rfl fn))))) (fm rfl (fm rfl (fm rfl fn)))) (ih _ _ _ _ _ _ hs R17 rx1 rx2)
    · rw [if_neg cb6] at hs
      refine evx_F E248 D248_20 rfl (ifF (c2_eq_F (R.1 73 (Int.toNat (M 53 79))) (by decide) (by omega))) ?_
      refine evx_F E248 D248_23 rfl rfl ?_
      refine evx_gfr E248 D248_24 F248_70 H53 rfl R ?_
      refine evx_F E248 D248_27 rfl rfl ?_
      refine evx_gfi (k := 79) E248 D248_28 F248_360 H53 rfl R ?_
      refine evx_ial E248 D248_31 H73 (by decide) R k5 ?_
      refine evx_F E248 D248_32 rfl rfl ?_
      by_cases cb18 : ¬ (M 73 (Int.toNat (M 53 79))) = 5
      · rw [if_pos cb18] at hs
        refine evx_F E248 D248_33 rfl (ifT (c2_ne_T (R.1 73 (Int.toNat (M 53 79))) (by decide) cb18)) ?_
        cases hs
        exact evx_ret E248 D248_99 rfl (fun d => rfl) rfl trivial R
      · rw [if_neg cb18] at hs
        refine evx_F E248 D248_33 rfl (ifF (c2_ne_F (R.1 73 (Int.toNat (M 53 79))) (by decide) (by omega))) ?_
        refine evx_F E248 D248_36 rfl rfl ?_
        refine evx_gfr E248 D248_37 F248_70 H53 rfl R ?_
        refine evx_F E248 D248_40 rfl rfl ?_
        refine evx_gfi (k := 79) E248 D248_41 F248_360 H53 rfl R ?_
        refine evx_ial E248 D248_44 H73 (by decide) R k5 ?_
        refine evx_F E248 D248_45 rfl rfl ?_
        by_cases cb19 : ¬ (M 73 (Int.toNat (M 53 79))) = 5
        · rw [if_pos cb19] at hs
          refine evx_F E248 D248_46 rfl (ifT (c2_ne_T (R.1 73 (Int.toNat (M 53 79))) (by decide) cb19)) ?_
          refine evx_F E248 D248_53 rfl rfl ?_
          refine evx_gfr E248 D248_54 F248_73 H53 rfl R ?_
          refine evx_F E248 D248_57 rfl rfl ?_
          refine evx_gfi (k := 79) E248 D248_58 F248_360 H53 rfl R ?_
          refine evx_ial E248 D248_61 H74 (by decide) R k5 ?_
          refine evx_F E248 D248_62 rfl rfl ?_
          refine evx_k (k := 8) E248 D248_63 rfl (by decide) ?_
          refine evx_F E248 D248_65 rfl rfl ?_
          refine evx_gfi (k := 80) E248 D248_66 F248_363 H53 rfl R ?_
          refine evx_mul E248 D248_69 ?_
          refine evx_F E248 D248_70 rfl rfl ?_
          refine evx_add E248 D248_71 ?_
          refine evx_F E248 D248_72 rfl rfl ?_
          refine evx_F E248 D248_74 rfl rfl ?_
          refine evx_F E248 D248_75 rfl rfl ?_
          refine evx_gfr E248 D248_76 F248_154 H53 rfl R ?_
          refine evx_F E248 D248_79 rfl rfl ?_
          obtain ⟨k20, hs⟩ := ck hs
          refine evx_ial E248 D248_81 H101 (by decide) R k20 ?_
          refine evx_pfi (k := 79) E248 D248_82 F248_360 H53 rfl R (R.1 101 (Int.toNat (((8 : Int) * (M 53 80)) + (M 74 (Int.toNat (M 53 79)))))) rfl ?_
          intro h21 R22
          refine evx_F E248 D248_85 rfl rfl ?_
          refine evx_F E248 D248_86 rfl rfl ?_
          refine evx_gfr E248 D248_87 F248_157 H53 rfl R22 ?_
          refine evx_F E248 D248_90 rfl rfl ?_
          refine evx_ial E248 D248_92 H102 (by decide) R22 k20 ?_
          show evx _ _ _ _ _ _ (.inl (iz (M 102 (Int.toNat (((8 : Int) * (M 53 80)) + (M 74 (Int.toNat (M 53 79))))))) :: _) _ _ _
          refine evx_pfi (k := 80) E248 D248_93 F248_363 H53 rfl R22 (R22.1 102 (Int.toNat (((8 : Int) * (M 53 80)) + (M 74 (Int.toNat (M 53 79)))))) rfl ?_
          intro h23 R24
          refine evx_F E248 D248_96 rfl rfl ?_
          show evx _ _ _ _ _ [(4, .inl (iz (((8 : Int) * (M 53 80)) + (M 74 (Int.toNat (M 53 79)))))), (3, .inl (iz (M 74 (Int.toNat (M 53 79))))), (0, .inr (.inr (.inl (some 53)))), (1, .inl (iz x1)), (2, .inl (iz x2))] _ _ _ _
          exact evx_lv (lvLe_mk (fm rfl (fm rfl (fm rfl fn))) (fm rfl (fm rfl (fm rfl (fm rfl (fm rfl fn))))) (fm rfl (fm rfl (fm rfl fn)))) (ih _ _ _ _ _ _ hs R24 rx1 rx2)
        · rw [if_neg cb19] at hs
          refine evx_F E248 D248_46 rfl (ifF (c2_ne_F (R.1 73 (Int.toNat (M 53 79))) (by decide) (by omega))) ?_
          refine evx_F E248 D248_49 rfl rfl ?_
          refine evx_F E248 D248_50 rfl rfl ?_
          refine evx_F E248 D248_62 rfl rfl ?_
          refine evx_k (k := 8) E248 D248_63 rfl (by decide) ?_
          refine evx_F E248 D248_65 rfl rfl ?_
          refine evx_gfi (k := 80) E248 D248_66 F248_363 H53 rfl R ?_
          refine evx_mul E248 D248_69 ?_
          refine evx_F E248 D248_70 rfl rfl ?_
          refine evx_add E248 D248_71 ?_
          refine evx_F E248 D248_72 rfl rfl ?_
          refine evx_F E248 D248_74 rfl rfl ?_
          refine evx_F E248 D248_75 rfl rfl ?_
          refine evx_gfr E248 D248_76 F248_154 H53 rfl R ?_
          refine evx_F E248 D248_79 rfl rfl ?_
          obtain ⟨k25, hs⟩ := ck hs
          refine evx_ial E248 D248_81 H101 (by decide) R k25 ?_
          refine evx_pfi (k := 79) E248 D248_82 F248_360 H53 rfl R (R.1 101 (Int.toNat (((8 : Int) * (M 53 80)) + 0))) rfl ?_
          intro h26 R27
          refine evx_F E248 D248_85 rfl rfl ?_
          refine evx_F E248 D248_86 rfl rfl ?_
          refine evx_gfr E248 D248_87 F248_157 H53 rfl R27 ?_
          refine evx_F E248 D248_90 rfl rfl ?_
          refine evx_ial E248 D248_92 H102 (by decide) R27 k25 ?_
          show evx _ _ _ _ _ _ (.inl (iz (M 102 (Int.toNat (((8 : Int) * (M 53 80)) + 0)))) :: _) _ _ _
          refine evx_pfi (k := 80) E248 D248_93 F248_363 H53 rfl R27 (R27.1 102 (Int.toNat (((8 : Int) * (M 53 80)) + 0))) rfl ?_
          intro h28 R29
          refine evx_F E248 D248_96 rfl rfl ?_
          show evx _ _ _ _ _ [(4, .inl (iz (((8 : Int) * (M 53 80)) + 0))), (3, .inl (iz 0)), (0, .inr (.inr (.inl (some 53)))), (1, .inl (iz x1)), (2, .inl (iz x2))] _ _ _ _
          exact evx_lv (lvLe_mk (fm rfl (fm rfl (fm rfl fn))) (fm rfl (fm rfl (fm rfl (fm rfl (fm rfl fn))))) (fm rfl (fm rfl (fm rfl fn)))) (ih _ _ _ _ _ _ hs R29 rx1 rx2)
def f248 (M : Mm) (x1 : Int) (x2 : Int) : Option (Int × Mm) := l248 FU 10 (up (up M 53 79 x1) 53 80 x2) x1 x2
theorem c248 {L : Nat} {xs : Nat → Int32} {h : mvH} {M : Mm} {x1 x2 : Int} {v : Int} {M' : Mm} (R : rp h M) (rx1 : rg x1) (rx2 : rg x2) (hs : f248 M x1 x2 = some (v, M')) : evx L xs 1 248 0 [(0, .inr (.inr (.inl (some 53)))), (1, .inl (iz x1)), (2, .inl (iz x2))] [] h (.inl none, 0) M' := by
  unfold f248 at hs
  refine evx_F E248 D248_0 rfl rfl ?_
  refine evx_F E248 D248_1 rfl rfl ?_
  refine evx_pfi (k := 79) E248 D248_2 F248_360 H53 rfl R rx1 rfl ?_
  intro h1 R2
  refine evx_F E248 D248_5 rfl rfl ?_
  refine evx_F E248 D248_6 rfl rfl ?_
  refine evx_pfi (k := 80) E248 D248_7 F248_363 H53 rfl R2 rx2 rfl ?_
  intro h3 R4
  show evx _ _ _ _ _ [(0, .inr (.inr (.inl (some 53)))), (1, .inl (iz x1)), (2, .inl (iz x2))] _ _ _ _
  exact evx_lv (lvLe_mk (fm rfl (fm rfl (fm rfl fn))) (fm rfl (fm rfl (fm rfl fn))) (fm rfl (fm rfl (fm rfl fn)))) ((d248 FU) _ _ _ _ _ _ hs R4 rx1 rx2)
set_option maxRecDepth 20000 in
theorem E249 : pgMm 249 = some (⟨"DictionaryHouseModel", "enter", "(II)V"⟩, prog_14_method_60_code, 3, none, []) := rfl
theorem D249_0 : pgDecT 249 0 = some (.aload_n 0, 1) := by decide +kernel
theorem D249_1 : pgDecT 249 1 = some (.getfield 154, 3) := by decide +kernel
theorem F249_154 : pgFf 249 154 = some (12, 69, 3) := by decide +kernel
theorem D249_4 : pgDecT 249 4 = some (.bipush 8, 2) := by decide +kernel
theorem D249_6 : pgDecT 249 6 = some (.aload_n 0, 1) := by decide +kernel
theorem D249_7 : pgDecT 249 7 = some (.getfield 386, 3) := by decide +kernel
theorem F249_386 : pgFf 249 386 = some (12, 68, 0) := by decide +kernel
theorem D249_10 : pgDecT 249 10 = some (.imul, 1) := by decide +kernel
theorem D249_11 : pgDecT 249 11 = some (.iload_n 1, 1) := by decide +kernel
theorem D249_12 : pgDecT 249 12 = some (.iastore, 1) := by decide +kernel
theorem D249_13 : pgDecT 249 13 = some (.aload_n 0, 1) := by decide +kernel
theorem D249_14 : pgDecT 249 14 = some (.getfield 157, 3) := by decide +kernel
theorem F249_157 : pgFf 249 157 = some (12, 70, 3) := by decide +kernel
theorem D249_17 : pgDecT 249 17 = some (.bipush 8, 2) := by decide +kernel
theorem D249_19 : pgDecT 249 19 = some (.aload_n 0, 1) := by decide +kernel
theorem D249_20 : pgDecT 249 20 = some (.getfield 386, 3) := by decide +kernel
theorem D249_23 : pgDecT 249 23 = some (.imul, 1) := by decide +kernel
theorem D249_24 : pgDecT 249 24 = some (.iload_n 2, 1) := by decide +kernel
theorem D249_25 : pgDecT 249 25 = some (.iastore, 1) := by decide +kernel
theorem D249_26 : pgDecT 249 26 = some (.aload_n 0, 1) := by decide +kernel
theorem D249_27 : pgDecT 249 27 = some (.dup, 1) := by decide +kernel
theorem D249_28 : pgDecT 249 28 = some (.getfield 386, 3) := by decide +kernel
theorem D249_31 : pgDecT 249 31 = some (.iconst 1, 1) := by decide +kernel
theorem D249_32 : pgDecT 249 32 = some (.iadd, 1) := by decide +kernel
theorem D249_33 : pgDecT 249 33 = some (.putfield 386, 3) := by decide +kernel
theorem D249_36 : pgDecT 249 36 = some (.return_, 1) := by decide +kernel
/-! 249: DictionaryHouseModel.enter (II)V -/
def f249 (M : Mm) (x1 : Int) (x2 : Int) : Option (Int × Mm) := if 0 ≤ ((8 : Int) * (M 53 68)) ∧ ((8 : Int) * (M 53 68)) < 4000 then (if rg ((M 53 68) + 1) then (some (0, (up (up (up M 101 (Int.toNat ((8 : Int) * (M 53 68))) x1) 102 (Int.toNat ((8 : Int) * (M 53 68))) x2) 53 68 ((M 53 68) + 1)))) else none) else none
theorem c249 {L : Nat} {xs : Nat → Int32} {h : mvH} {M : Mm} {x1 x2 : Int} {v : Int} {M' : Mm} (R : rp h M) (rx1 : rg x1) (rx2 : rg x2) (hs : f249 M x1 x2 = some (v, M')) : evx L xs 1 249 0 [(0, .inr (.inr (.inl (some 53)))), (1, .inl (iz x1)), (2, .inl (iz x2))] [] h (.inl none, 0) M' := by
  unfold f249 at hs
  refine evx_F E249 D249_0 rfl rfl ?_
  refine evx_gfr E249 D249_1 F249_154 H53 rfl R ?_
  refine evx_k (k := 8) E249 D249_4 rfl (by decide) ?_
  refine evx_F E249 D249_6 rfl rfl ?_
  refine evx_gfi (k := 68) E249 D249_7 F249_386 H53 rfl R ?_
  refine evx_mul E249 D249_10 ?_
  refine evx_F E249 D249_11 rfl rfl ?_
  obtain ⟨k1, hs⟩ := ck hs
  refine evx_ias E249 D249_12 H101 (by decide) R k1 rx1 ?_
  intro h2 R3
  refine evx_F E249 D249_13 rfl rfl ?_
  refine evx_gfr E249 D249_14 F249_157 H53 rfl R3 ?_
  refine evx_k (k := 8) E249 D249_17 rfl (by decide) ?_
  refine evx_F E249 D249_19 rfl rfl ?_
  refine evx_gfi (k := 68) E249 D249_20 F249_386 H53 rfl R3 ?_
  show evx _ _ _ _ _ _ (.inl (iz (M 53 68)) :: _) _ _ _
  refine evx_mul E249 D249_23 ?_
  refine evx_F E249 D249_24 rfl rfl ?_
  refine evx_ias E249 D249_25 H102 (by decide) R3 k1 rx2 ?_
  intro h4 R5
  refine evx_F E249 D249_26 rfl rfl ?_
  refine evx_F E249 D249_27 rfl rfl ?_
  refine evx_gfi (k := 68) E249 D249_28 F249_386 H53 rfl R5 ?_
  show evx _ _ _ _ _ _ (.inl (iz (M 53 68)) :: _) _ _ _
  refine evx_F E249 D249_31 rfl rfl ?_
  refine evx_add E249 D249_32 ?_
  obtain ⟨k6, hs⟩ := ck hs
  refine evx_pfi (k := 68) E249 D249_33 F249_386 H53 rfl R5 k6 rfl ?_
  intro h7 R8
  cases hs
  exact evx_ret E249 D249_36 rfl (fun d => rfl) rfl trivial R8
set_option maxRecDepth 20000 in
theorem E251 : pgMm 251 = some (⟨"DictionaryHouseModel", "arity", "(I)I"⟩, prog_14_method_61_code, 1, (some .int), []) := rfl
theorem D251_0 : pgDecT 251 0 = some (.iload_n 0, 1) := by decide +kernel
theorem D251_1 : pgDecT 251 1 = some (.iconst 4, 1) := by decide +kernel
theorem D251_2 : pgDecT 251 2 = some (.if_icmp .eq 9, 3) := by decide +kernel
theorem D251_11 : pgDecT 251 11 = some (.iconst 3, 1) := by decide +kernel
theorem D251_12 : pgDecT 251 12 = some (.goto 4, 3) := by decide +kernel
theorem D251_16 : pgDecT 251 16 = some (.ireturn, 1) := by decide +kernel
theorem D251_5 : pgDecT 251 5 = some (.iload_n 0, 1) := by decide +kernel
theorem D251_6 : pgDecT 251 6 = some (.bipush 7, 2) := by decide +kernel
theorem D251_8 : pgDecT 251 8 = some (.if_icmp .ne 7, 3) := by decide +kernel
theorem D251_15 : pgDecT 251 15 = some (.iconst 2, 1) := by decide +kernel
/-! 251: DictionaryHouseModel.arity (I)I -/
def f251 (M : Mm) (x0 : Int) : Option Int := if x0 = 4 then (some 3) else (if ¬ x0 = 7 then (some 2) else (some 3))
theorem c251 {L : Nat} {xs : Nat → Int32} {h : mvH} {M : Mm} {x0 : Int} {v : Int} (R : rp h M) (rx0 : rg x0) (hs : f251 M x0 = some v) : evx L xs 1 251 0 [(0, .inl (iz x0))] [] h (.inl (some (.inl v)), 0) M := by
  unfold f251 at hs
  refine evx_F E251 D251_0 rfl rfl ?_
  refine evx_F E251 D251_1 rfl rfl ?_
  by_cases cb1 : x0 = 4
  · rw [if_pos cb1] at hs
    refine evx_F E251 D251_2 rfl (ifT (c2_eq_T rx0 (by decide) cb1)) ?_
    refine evx_F E251 D251_11 rfl rfl ?_
    refine evx_F E251 D251_12 rfl rfl ?_
    cases hs
    exact evx_ret E251 D251_16 rfl (fun d => rfl) rfl (show rg _ from (by decide)) R
  · rw [if_neg cb1] at hs
    refine evx_F E251 D251_2 rfl (ifF (c2_eq_F rx0 (by decide) (by omega))) ?_
    refine evx_F E251 D251_5 rfl rfl ?_
    refine evx_k (k := 7) E251 D251_6 rfl (by decide) ?_
    by_cases cb2 : ¬ x0 = 7
    · rw [if_pos cb2] at hs
      refine evx_F E251 D251_8 rfl (ifT (c2_ne_T rx0 (by decide) cb2)) ?_
      refine evx_F E251 D251_15 rfl rfl ?_
      cases hs
      exact evx_ret E251 D251_16 rfl (fun d => rfl) rfl (show rg _ from (by decide)) R
    · rw [if_neg cb2] at hs
      refine evx_F E251 D251_8 rfl (ifF (c2_ne_F rx0 (by decide) (by omega))) ?_
      refine evx_F E251 D251_11 rfl rfl ?_
      refine evx_F E251 D251_12 rfl rfl ?_
      cases hs
      exact evx_ret E251 D251_16 rfl (fun d => rfl) rfl (show rg _ from (by decide)) R
set_option maxRecDepth 20000 in
theorem E252 : pgMm 252 = some (⟨"DictionaryHouseModel", "fold", "(III)V"⟩, prog_14_method_63_code, 6, none, []) := rfl
theorem D252_0 : pgDecT 252 0 = some (.iconst (-1), 1) := by decide +kernel
theorem D252_1 : pgDecT 252 1 = some (.istore 4, 2) := by decide +kernel
theorem D252_3 : pgDecT 252 3 = some (.iload_n 3, 1) := by decide +kernel
theorem D252_4 : pgDecT 252 4 = some (.istore 5, 2) := by decide +kernel
theorem D252_6 : pgDecT 252 6 = some (.aload_n 0, 1) := by decide +kernel
theorem D252_7 : pgDecT 252 7 = some (.getfield 136, 3) := by decide +kernel
theorem F252_136 : pgFf 252 136 = some (12, 62, 3) := by decide +kernel
theorem D252_10 : pgDecT 252 10 = some (.iload 5, 2) := by decide +kernel
theorem D252_12 : pgDecT 252 12 = some (.iaload, 1) := by decide +kernel
theorem D252_13 : pgDecT 252 13 = some (.iconst 3, 1) := by decide +kernel
theorem D252_14 : pgDecT 252 14 = some (.if_icmp .ne 35, 3) := by decide +kernel
theorem D252_49 : pgDecT 252 49 = some (.aload_n 0, 1) := by decide +kernel
theorem D252_50 : pgDecT 252 50 = some (.iload_n 2, 1) := by decide +kernel
theorem D252_51 : pgDecT 252 51 = some (.putfield 373, 3) := by decide +kernel
theorem F252_373 : pgFf 252 373 = some (12, 78, 0) := by decide +kernel
theorem D252_54 : pgDecT 252 54 = some (.aload_n 0, 1) := by decide +kernel
theorem D252_55 : pgDecT 252 55 = some (.iconst 5, 1) := by decide +kernel
theorem D252_56 : pgDecT 252 56 = some (.iload_n 1, 1) := by decide +kernel
theorem D252_57 : pgDecT 252 57 = some (.iload 4, 2) := by decide +kernel
theorem D252_59 : pgDecT 252 59 = some (.iconst 0, 1) := by decide +kernel
theorem D252_60 : pgDecT 252 60 = some (.iconst 0, 1) := by decide +kernel
theorem D252_61 : pgDecT 252 61 = some (.iconst 0, 1) := by decide +kernel
theorem D252_62 : pgDecT 252 62 = some (.invokevirtual 376, 3) := by decide +kernel
theorem I252_376 : pgIi 252 376 = some (243, 6, 12) := by decide +kernel
theorem D252_65 : pgDecT 252 65 = some (.return_, 1) := by decide +kernel
theorem D252_17 : pgDecT 252 17 = some (.aload_n 0, 1) := by decide +kernel
theorem D252_18 : pgDecT 252 18 = some (.bipush 6, 2) := by decide +kernel
theorem D252_20 : pgDecT 252 20 = some (.aload_n 0, 1) := by decide +kernel
theorem D252_21 : pgDecT 252 21 = some (.getfield 139, 3) := by decide +kernel
theorem F252_139 : pgFf 252 139 = some (12, 63, 3) := by decide +kernel
theorem D252_24 : pgDecT 252 24 = some (.iload 5, 2) := by decide +kernel
theorem D252_26 : pgDecT 252 26 = some (.iaload, 1) := by decide +kernel
theorem D252_27 : pgDecT 252 27 = some (.iload 4, 2) := by decide +kernel
theorem D252_29 : pgDecT 252 29 = some (.iconst 0, 1) := by decide +kernel
theorem D252_30 : pgDecT 252 30 = some (.iconst 0, 1) := by decide +kernel
theorem D252_31 : pgDecT 252 31 = some (.iconst 0, 1) := by decide +kernel
theorem D252_32 : pgDecT 252 32 = some (.invokevirtual 369, 3) := by decide +kernel
theorem I252_369 : pgIi 252 369 = some (247, 6, 12) := by decide +kernel
theorem D252_35 : pgDecT 252 35 = some (.istore 4, 2) := by decide +kernel
theorem D252_37 : pgDecT 252 37 = some (.aload_n 0, 1) := by decide +kernel
theorem D252_38 : pgDecT 252 38 = some (.getfield 142, 3) := by decide +kernel
theorem F252_142 : pgFf 252 142 = some (12, 64, 3) := by decide +kernel
theorem D252_41 : pgDecT 252 41 = some (.iload 5, 2) := by decide +kernel
theorem D252_43 : pgDecT 252 43 = some (.iaload, 1) := by decide +kernel
theorem D252_44 : pgDecT 252 44 = some (.istore 5, 2) := by decide +kernel
theorem D252_46 : pgDecT 252 46 = some (.goto (-40), 3) := by decide +kernel
/-! 252: DictionaryHouseModel.fold (III)V -/
def l252 : Nat → Nat → Mm → Int → Int → Int → Int → Int → Option (Int × Mm)
  | 0, _, _, _, _, _, _, _ => none
  | f + 1, 6, M, x1, x2, x3, x4, x5 => if 0 ≤ x5 ∧ x5 < 6000 then (if ¬ (M 95 (Int.toNat x5)) = 3 then (f243 (up M 53 78 x2) 5 x1 x4 0 0 0).bind (fun zq6 => some (0, zq6.2)) else (f247 M 6 (M 96 (Int.toNat x5)) x4 0 0 0).bind (fun zq12 => l252 f 6 zq12.2 x1 x2 x3 zq12.1 (zq12.2 97 (Int.toNat x5)))) else none
  | _, _, _, _, _, _, _, _ => none
theorem d252 {L : Nat} {xs : Nat → Int32} (f : Nat) : (∀ (M : Mm) (x1 x2 x3 x4 x5 : Int) (h : mvH) (v : Int) (M' : Mm), l252 f 6 M x1 x2 x3 x4 x5 = some (v, M') → rp h M → rg x1 → rg x2 → rg x3 → rg x4 → rg x5 → evx L xs 2 252 6 [(0, .inr (.inr (.inl (some 53)))), (1, .inl (iz x1)), (2, .inl (iz x2)), (3, .inl (iz x3)), (4, .inl (iz x4)), (5, .inl (iz x5))] [] h (.inl none, 0) M') := by
  induction f with
  | zero => exact (fun M x1 x2 x3 x4 x5 h v M' hs _ _ _ _ _ _ => by cases hs)
  | succ f ih =>
    intro M x1 x2 x3 x4 x5 h v M' hs R rx1 rx2 rx3 rx4 rx5
    rw [l252] at hs
    refine evx_F E252 D252_6 rfl rfl ?_
    refine evx_gfr E252 D252_7 F252_136 H53 rfl R ?_
    refine evx_F E252 D252_10 rfl rfl ?_
    obtain ⟨k1, hs⟩ := ck hs
    refine evx_ial E252 D252_12 H95 (by decide) R k1 ?_
    refine evx_F E252 D252_13 rfl rfl ?_
    by_cases cb2 : ¬ (M 95 (Int.toNat x5)) = 3
    · rw [if_pos cb2] at hs
      refine evx_F E252 D252_14 rfl (ifT (c2_ne_T (R.1 95 (Int.toNat x5)) (by decide) cb2)) ?_
      refine evx_F E252 D252_49 rfl rfl ?_
      refine evx_F E252 D252_50 rfl rfl ?_
      refine evx_pfi (k := 78) E252 D252_51 F252_373 H53 rfl R rx2 rfl ?_
      intro h3 R4
      refine evx_F E252 D252_54 rfl rfl ?_
      refine evx_F E252 D252_55 rfl rfl ?_
      refine evx_F E252 D252_56 rfl rfl ?_
      refine evx_F E252 D252_57 rfl rfl ?_
      refine evx_F E252 D252_59 rfl rfl ?_
      refine evx_F E252 D252_60 rfl rfl ?_
      refine evx_F E252 D252_61 rfl rfl ?_
      obtain ⟨⟨q6, M10⟩, e5, hs⟩ := Option.bind_eq_some_iff.mp hs
      dsimp only at hs
      refine evx_cv (D := 1) E252 D252_62 I252_376 rfl rfl H53 ⟨Nat.le_of_ble_eq_true rfl, Nat.le_of_ble_eq_true rfl⟩ ⟨rfl, Nat.le_of_ble_eq_true rfl⟩ rfl R4 (evx_up (Nat.le_of_ble_eq_true rfl) (c243 R4 (by decide) rx1 rx4 (by decide) (by decide) (by decide) e5)) ?_
      intro h7 R8 w9
      cases hs
      exact evx_ret E252 D252_65 rfl (fun d => rfl) rfl trivial R8
    · rw [if_neg cb2] at hs
      refine evx_F E252 D252_14 rfl (ifF (c2_ne_F (R.1 95 (Int.toNat x5)) (by decide) (by omega))) ?_
      refine evx_F E252 D252_17 rfl rfl ?_
      refine evx_k (k := 6) E252 D252_18 rfl (by decide) ?_
      refine evx_F E252 D252_20 rfl rfl ?_
      refine evx_gfr E252 D252_21 F252_139 H53 rfl R ?_
      refine evx_F E252 D252_24 rfl rfl ?_
      refine evx_ial E252 D252_26 H96 (by decide) R k1 ?_
      refine evx_F E252 D252_27 rfl rfl ?_
      refine evx_F E252 D252_29 rfl rfl ?_
      refine evx_F E252 D252_30 rfl rfl ?_
      refine evx_F E252 D252_31 rfl rfl ?_
      obtain ⟨⟨q12, M16⟩, e11, hs⟩ := Option.bind_eq_some_iff.mp hs
      dsimp only at hs
      refine evx_cv (D := 1) E252 D252_32 I252_369 rfl rfl H53 ⟨Nat.le_of_ble_eq_true rfl, Nat.le_of_ble_eq_true rfl⟩ ⟨rfl, Nat.le_of_ble_eq_true rfl⟩ rfl R (evx_up (Nat.le_of_ble_eq_true rfl) (c247 R (by decide) (R.1 96 (Int.toNat x5)) rx4 (by decide) (by decide) (by decide) e11)) ?_
      intro h13 R14 w15
      have w15 : rg q12 := w15
      show evx _ _ _ _ _ _ (.inl (iz q12) :: _) _ _ _
      refine evx_F E252 D252_35 rfl rfl ?_
      refine evx_F E252 D252_37 rfl rfl ?_
      refine evx_gfr E252 D252_38 F252_142 H53 rfl R14 ?_
      refine evx_F E252 D252_41 rfl rfl ?_
      refine evx_ial E252 D252_43 H97 (by decide) R14 k1 ?_
      refine evx_F E252 D252_44 rfl rfl ?_
      refine evx_F E252 D252_46 rfl rfl ?_
      show evx _ _ _ _ _ [(5, .inl (iz (M16 97 (Int.toNat x5)))), (4, .inl (iz q12)), (0, .inr (.inr (.inl (some 53)))), (1, .inl (iz x1)), (2, .inl (iz x2)), (3, .inl (iz x3))] _ _ _ _
      exact evx_lv (lvLe_mk (fm rfl (fm rfl (fm rfl (fm rfl (fm rfl (fm rfl fn)))))) (fm rfl (fm rfl (fm rfl (fm rfl (fm rfl (fm rfl fn)))))) (fm rfl (fm rfl (fm rfl (fm rfl (fm rfl (fm rfl fn))))))) (ih _ _ _ _ _ _ _ _ _ hs R14 rx1 rx2 rx3 w15 (R14.1 97 (Int.toNat x5)))
def f252 (M : Mm) (x1 : Int) (x2 : Int) (x3 : Int) : Option (Int × Mm) := l252 FU 6 M x1 x2 x3 (-1) x3
theorem c252 {L : Nat} {xs : Nat → Int32} {h : mvH} {M : Mm} {x1 x2 x3 : Int} {v : Int} {M' : Mm} (R : rp h M) (rx1 : rg x1) (rx2 : rg x2) (rx3 : rg x3) (hs : f252 M x1 x2 x3 = some (v, M')) : evx L xs 2 252 0 [(0, .inr (.inr (.inl (some 53)))), (1, .inl (iz x1)), (2, .inl (iz x2)), (3, .inl (iz x3))] [] h (.inl none, 0) M' := by
  unfold f252 at hs
  refine evx_F E252 D252_0 rfl rfl ?_
  refine evx_F E252 D252_1 rfl rfl ?_
  refine evx_F E252 D252_3 rfl rfl ?_
  refine evx_F E252 D252_4 rfl rfl ?_
  show evx _ _ _ _ _ [(5, .inl (iz x3)), (4, .inl (iz (-1))), (0, .inr (.inr (.inl (some 53)))), (1, .inl (iz x1)), (2, .inl (iz x2)), (3, .inl (iz x3))] _ _ _ _
  exact evx_lv (lvLe_mk (fm rfl (fm rfl (fm rfl (fm rfl (fm rfl (fm rfl fn)))))) (fm rfl (fm rfl (fm rfl (fm rfl (fm rfl (fm rfl fn)))))) (fm rfl (fm rfl (fm rfl (fm rfl (fm rfl (fm rfl fn))))))) ((d252 FU) _ _ _ _ _ _ _ _ _ hs R rx1 rx2 rx3 (by decide) rx3)
set_option maxRecDepth 20000 in
theorem E253 : pgMm 253 = some (⟨"DictionaryHouseModel", "value", "(I)I"⟩, prog_14_method_67_code, 2, (some .int), []) := rfl
theorem D253_0 : pgDecT 253 0 = some (.aload_n 0, 1) := by decide +kernel
theorem D253_1 : pgDecT 253 1 = some (.aload_n 0, 1) := by decide +kernel
theorem D253_2 : pgDecT 253 2 = some (.getfield 409, 3) := by decide +kernel
theorem F253_409 : pgFf 253 409 = some (12, 54, 1) := by decide +kernel
theorem D253_5 : pgDecT 253 5 = some (.ifCond .eq 20, 3) := by decide +kernel
theorem D253_25 : pgDecT 253 25 = some (.iconst 1, 1) := by decide +kernel
theorem D253_26 : pgDecT 253 26 = some (.putfield 182, 3) := by decide +kernel
theorem F253_182 : pgFf 253 182 = some (12, 0, 0) := by decide +kernel
theorem D253_29 : pgDecT 253 29 = some (.aload_n 0, 1) := by decide +kernel
theorem D253_30 : pgDecT 253 30 = some (.getfield 182, 3) := by decide +kernel
theorem D253_33 : pgDecT 253 33 = some (.ifCond .eq 5, 3) := by decide +kernel
theorem D253_36 : pgDecT 253 36 = some (.iconst 0, 1) := by decide +kernel
theorem D253_37 : pgDecT 253 37 = some (.ireturn, 1) := by decide +kernel
theorem D253_8 : pgDecT 253 8 = some (.iload_n 1, 1) := by decide +kernel
theorem D253_9 : pgDecT 253 9 = some (.iconst (-1), 1) := by decide +kernel
theorem D253_10 : pgDecT 253 10 = some (.if_icmp .lt 15, 3) := by decide +kernel
theorem D253_13 : pgDecT 253 13 = some (.iload_n 1, 1) := by decide +kernel
theorem D253_14 : pgDecT 253 14 = some (.aload_n 0, 1) := by decide +kernel
theorem D253_15 : pgDecT 253 15 = some (.getfield 415, 3) := by decide +kernel
theorem F253_415 : pgFf 253 415 = some (12, 56, 0) := by decide +kernel
theorem D253_18 : pgDecT 253 18 = some (.if_icmp .ge 7, 3) := by decide +kernel
theorem D253_21 : pgDecT 253 21 = some (.iconst 0, 1) := by decide +kernel
theorem D253_22 : pgDecT 253 22 = some (.goto 4, 3) := by decide +kernel
theorem D253_38 : pgDecT 253 38 = some (.iload_n 1, 1) := by decide +kernel
theorem D253_39 : pgDecT 253 39 = some (.iconst (-1), 1) := by decide +kernel
theorem D253_40 : pgDecT 253 40 = some (.if_icmp .ne 21, 3) := by decide +kernel
theorem D253_61 : pgDecT 253 61 = some (.aload_n 0, 1) := by decide +kernel
theorem D253_62 : pgDecT 253 62 = some (.getfield 133, 3) := by decide +kernel
theorem F253_133 : pgFf 253 133 = some (12, 57, 3) := by decide +kernel
theorem D253_65 : pgDecT 253 65 = some (.iload_n 1, 1) := by decide +kernel
theorem D253_66 : pgDecT 253 66 = some (.iaload, 1) := by decide +kernel
theorem D253_67 : pgDecT 253 67 = some (.ireturn, 1) := by decide +kernel
theorem D253_43 : pgDecT 253 43 = some (.aload_n 0, 1) := by decide +kernel
theorem D253_44 : pgDecT 253 44 = some (.getfield 412, 3) := by decide +kernel
theorem F253_412 : pgFf 253 412 = some (12, 55, 1) := by decide +kernel
theorem D253_47 : pgDecT 253 47 = some (.ifCond .eq 10, 3) := by decide +kernel
theorem D253_57 : pgDecT 253 57 = some (.iconst 1, 1) := by decide +kernel
theorem D253_58 : pgDecT 253 58 = some (.goto 9, 3) := by decide +kernel
theorem D253_50 : pgDecT 253 50 = some (.aload_n 0, 1) := by decide +kernel
theorem D253_51 : pgDecT 253 51 = some (.getfield 415, 3) := by decide +kernel
theorem D253_54 : pgDecT 253 54 = some (.goto 13, 3) := by decide +kernel
/-! 253: DictionaryHouseModel.value (I)I -/
def f253 (M : Mm) (x1 : Int) : Option (Int × Mm) := if (M 53 54) = 0 then (some (0, (up M 53 0 1))) else (if x1 < (-1) then (some (0, (up M 53 0 1))) else (if (M 53 56) ≤ x1 then (some (0, (up M 53 0 1))) else (if ¬ x1 = (-1) then (if 0 ≤ x1 ∧ x1 < 400 then (some ((M 94 (Int.toNat x1)), (up M 53 0 0))) else none) else (if (M 53 55) = 0 then (some (1, (up M 53 0 0))) else (some ((M 53 56), (up M 53 0 0)))))))
theorem c253 {L : Nat} {xs : Nat → Int32} {h : mvH} {M : Mm} {x1 : Int} {v : Int} {M' : Mm} (R : rp h M) (rx1 : rg x1) (hs : f253 M x1 = some (v, M')) : evx L xs 1 253 0 [(0, .inr (.inr (.inl (some 53)))), (1, .inl (iz x1))] [] h (.inl (some (.inl v)), 0) M' := by
  unfold f253 at hs
  refine evx_F E253 D253_0 rfl rfl ?_
  refine evx_F E253 D253_1 rfl rfl ?_
  refine evx_gfi (k := 54) E253 D253_2 F253_409 H53 rfl R ?_
  by_cases cb1 : (M 53 54) = 0
  · rw [if_pos cb1] at hs
    refine evx_F E253 D253_5 rfl (ifT (c1_eq_T (R.1 53 54) cb1)) ?_
    refine evx_F E253 D253_25 rfl rfl ?_
    refine evx_pfi (k := 0) E253 D253_26 F253_182 H53 rfl R (by decide) rfl ?_
    intro h2 R3
    refine evx_F E253 D253_29 rfl rfl ?_
    refine evx_gfi (k := 0) E253 D253_30 F253_182 H53 rfl R3 ?_
    show evx _ _ _ _ _ _ (.inl (iz 1) :: _) _ _ _
    refine evx_F E253 D253_33 rfl rfl ?_
    refine evx_F E253 D253_36 rfl rfl ?_
    cases hs
    exact evx_ret E253 D253_37 rfl (fun d => rfl) rfl (show rg _ from (by decide)) R3
  · rw [if_neg cb1] at hs
    refine evx_F E253 D253_5 rfl (ifF (c1_eq_F (R.1 53 54) (by omega))) ?_
    refine evx_F E253 D253_8 rfl rfl ?_
    refine evx_F E253 D253_9 rfl rfl ?_
    by_cases cb4 : x1 < (-1)
    · rw [if_pos cb4] at hs
      refine evx_F E253 D253_10 rfl (ifT (c2_lt_T rx1 (by decide) cb4)) ?_
      refine evx_F E253 D253_25 rfl rfl ?_
      refine evx_pfi (k := 0) E253 D253_26 F253_182 H53 rfl R (by decide) rfl ?_
      intro h5 R6
      refine evx_F E253 D253_29 rfl rfl ?_
      refine evx_gfi (k := 0) E253 D253_30 F253_182 H53 rfl R6 ?_
      show evx _ _ _ _ _ _ (.inl (iz 1) :: _) _ _ _
      refine evx_F E253 D253_33 rfl rfl ?_
      refine evx_F E253 D253_36 rfl rfl ?_
      cases hs
      exact evx_ret E253 D253_37 rfl (fun d => rfl) rfl (show rg _ from (by decide)) R6
    · rw [if_neg cb4] at hs
      refine evx_F E253 D253_10 rfl (ifF (c2_lt_F rx1 (by decide) (by omega))) ?_
      refine evx_F E253 D253_13 rfl rfl ?_
      refine evx_F E253 D253_14 rfl rfl ?_
      refine evx_gfi (k := 56) E253 D253_15 F253_415 H53 rfl R ?_
      by_cases cb7 : (M 53 56) ≤ x1
      · rw [if_pos cb7] at hs
        refine evx_F E253 D253_18 rfl (ifT (c2_ge_T rx1 (R.1 53 56) cb7)) ?_
        refine evx_F E253 D253_25 rfl rfl ?_
        refine evx_pfi (k := 0) E253 D253_26 F253_182 H53 rfl R (by decide) rfl ?_
        intro h8 R9
        refine evx_F E253 D253_29 rfl rfl ?_
        refine evx_gfi (k := 0) E253 D253_30 F253_182 H53 rfl R9 ?_
        show evx _ _ _ _ _ _ (.inl (iz 1) :: _) _ _ _
        refine evx_F E253 D253_33 rfl rfl ?_
        refine evx_F E253 D253_36 rfl rfl ?_
        cases hs
        exact evx_ret E253 D253_37 rfl (fun d => rfl) rfl (show rg _ from (by decide)) R9
      · rw [if_neg cb7] at hs
        refine evx_F E253 D253_18 rfl (ifF (c2_ge_F rx1 (R.1 53 56) (by omega))) ?_
        refine evx_F E253 D253_21 rfl rfl ?_
        refine evx_F E253 D253_22 rfl rfl ?_
        refine evx_pfi (k := 0) E253 D253_26 F253_182 H53 rfl R (by decide) rfl ?_
        intro h10 R11
        refine evx_F E253 D253_29 rfl rfl ?_
        refine evx_gfi (k := 0) E253 D253_30 F253_182 H53 rfl R11 ?_
        show evx _ _ _ _ _ _ (.inl (iz 0) :: _) _ _ _
        refine evx_F E253 D253_33 rfl rfl ?_
        refine evx_F E253 D253_38 rfl rfl ?_
        refine evx_F E253 D253_39 rfl rfl ?_
        by_cases cb12 : ¬ x1 = (-1)
        · rw [if_pos cb12] at hs
          refine evx_F E253 D253_40 rfl (ifT (c2_ne_T rx1 (by decide) cb12)) ?_
          refine evx_F E253 D253_61 rfl rfl ?_
          refine evx_gfr E253 D253_62 F253_133 H53 rfl R11 ?_
          refine evx_F E253 D253_65 rfl rfl ?_
          obtain ⟨k13, hs⟩ := ck hs
          refine evx_ial E253 D253_66 H94 (by decide) R11 k13 ?_
          show evx _ _ _ _ _ _ (.inl (iz (M 94 (Int.toNat x1))) :: _) _ _ _
          cases hs
          exact evx_ret E253 D253_67 rfl (fun d => rfl) rfl (show rg _ from (R11.1 94 (Int.toNat x1))) R11
        · rw [if_neg cb12] at hs
          refine evx_F E253 D253_40 rfl (ifF (c2_ne_F rx1 (by decide) (by omega))) ?_
          refine evx_F E253 D253_43 rfl rfl ?_
          refine evx_gfi (k := 55) E253 D253_44 F253_412 H53 rfl R11 ?_
          show evx _ _ _ _ _ _ (.inl (iz (M 53 55)) :: _) _ _ _
          by_cases cb14 : (M 53 55) = 0
          · rw [if_pos cb14] at hs
            refine evx_F E253 D253_47 rfl (ifT (c1_eq_T (R11.1 53 55) cb14)) ?_
            refine evx_F E253 D253_57 rfl rfl ?_
            refine evx_F E253 D253_58 rfl rfl ?_
            cases hs
            exact evx_ret E253 D253_67 rfl (fun d => rfl) rfl (show rg _ from (by decide)) R11
          · rw [if_neg cb14] at hs
            refine evx_F E253 D253_47 rfl (ifF (c1_eq_F (R11.1 53 55) (by omega))) ?_
            refine evx_F E253 D253_50 rfl rfl ?_
            refine evx_gfi (k := 56) E253 D253_51 F253_415 H53 rfl R11 ?_
            show evx _ _ _ _ _ _ (.inl (iz (M 53 56)) :: _) _ _ _
            refine evx_F E253 D253_54 rfl rfl ?_
            cases hs
            exact evx_ret E253 D253_67 rfl (fun d => rfl) rfl (show rg _ from (R11.1 53 56)) R11
set_option maxRecDepth 20000 in
theorem E99 : pgMm 99 = some (⟨"java/util/Arrays", "fill", "([IIII)V"⟩, prog_29_method_104_code, 5, none, []) := rfl
theorem D99_0 : pgDecT 99 0 = some (.aload_n 0, 1) := by decide +kernel
theorem D99_1 : pgDecT 99 1 = some (.arraylength, 1) := by decide +kernel
theorem D99_2 : pgDecT 99 2 = some (.iload_n 1, 1) := by decide +kernel
theorem D99_3 : pgDecT 99 3 = some (.iload_n 2, 1) := by decide +kernel
theorem D99_4 : pgDecT 99 4 = some (.invokestatic 13, 3) := by decide +kernel
theorem I99_13 : pgIi 99 13 = some (100, 3, 100) := by decide +kernel
theorem D99_7 : pgDecT 99 7 = some (.iload_n 1, 1) := by decide +kernel
theorem D99_8 : pgDecT 99 8 = some (.istore 4, 2) := by decide +kernel
theorem D99_10 : pgDecT 99 10 = some (.iload 4, 2) := by decide +kernel
theorem D99_12 : pgDecT 99 12 = some (.iload_n 2, 1) := by decide +kernel
theorem D99_13 : pgDecT 99 13 = some (.if_icmp .ge 14, 3) := by decide +kernel
theorem D99_27 : pgDecT 99 27 = some (.return_, 1) := by decide +kernel
theorem D99_16 : pgDecT 99 16 = some (.aload_n 0, 1) := by decide +kernel
theorem D99_17 : pgDecT 99 17 = some (.iload 4, 2) := by decide +kernel
theorem D99_19 : pgDecT 99 19 = some (.iload_n 3, 1) := by decide +kernel
theorem D99_20 : pgDecT 99 20 = some (.iastore, 1) := by decide +kernel
theorem D99_21 : pgDecT 99 21 = some (.iinc 4 1, 3) := by decide +kernel
theorem D99_24 : pgDecT 99 24 = some (.goto (-14), 3) := by decide +kernel
/-! 99_50: java/util/Arrays.fill ([IIII)V -/
def l99_50 : Nat → Nat → Mm → Int → Int → Int → Int → Option (Int × Mm)
  | 0, _, _, _, _, _, _ => none
  | f + 1, 10, M, x1, x2, x3, x4 => if x2 ≤ x4 then (some (0, M)) else (if 0 ≤ x4 ∧ x4 < 2416 then (if rg (x4 + 1) then (l99_50 f 10 (up M 50 (Int.toNat x4) x3) x1 x2 x3 (x4 + 1)) else none) else none)
  | _, _, _, _, _, _, _ => none
theorem d99_50 {L : Nat} {xs : Nat → Int32} (f : Nat) : (∀ (M : Mm) (x1 x2 x3 x4 : Int) (h : mvH) (v : Int) (M' : Mm), l99_50 f 10 M x1 x2 x3 x4 = some (v, M') → rp h M → rg x1 → rg x2 → rg x3 → rg x4 → evx L xs 2 99 10 [(0, .inr (.inr (.inl (some 50)))), (1, .inl (iz x1)), (2, .inl (iz x2)), (3, .inl (iz x3)), (4, .inl (iz x4))] [] h (.inl none, 0) M') := by
  induction f with
  | zero => exact (fun M x1 x2 x3 x4 h v M' hs _ _ _ _ _ => by cases hs)
  | succ f ih =>
    intro M x1 x2 x3 x4 h v M' hs R rx1 rx2 rx3 rx4
    rw [l99_50] at hs
    refine evx_F E99 D99_10 rfl rfl ?_
    refine evx_F E99 D99_12 rfl rfl ?_
    by_cases cb7 : x2 ≤ x4
    · rw [if_pos cb7] at hs
      refine evx_F E99 D99_13 rfl (ifT (c2_ge_T rx4 rx2 cb7)) ?_
      cases hs
      exact evx_ret E99 D99_27 rfl (fun d => rfl) rfl trivial R
    · rw [if_neg cb7] at hs
      refine evx_F E99 D99_13 rfl (ifF (c2_ge_F rx4 rx2 (by omega))) ?_
      refine evx_F E99 D99_16 rfl rfl ?_
      refine evx_F E99 D99_17 rfl rfl ?_
      refine evx_F E99 D99_19 rfl rfl ?_
      obtain ⟨k8, hs⟩ := ck hs
      refine evx_ias E99 D99_20 H50 (by decide) R k8 rx3 ?_
      intro h9 R10
      refine evx_inc E99 D99_21 (Nat.le_of_ble_eq_true rfl) rfl ?_
      refine evx_F E99 D99_24 rfl rfl ?_
      obtain ⟨k11, hs⟩ := ck hs
      show evx _ _ _ _ _ [(4, .inl (iz (x4 + 1))), (0, .inr (.inr (.inl (some 50)))), (1, .inl (iz x1)), (2, .inl (iz x2)), (3, .inl (iz x3))] _ _ _ _
      exact evx_lv (lvLe_mk (fm rfl (fm rfl (fm rfl (fm rfl (fm rfl fn))))) (fm rfl (fm rfl (fm rfl (fm rfl (fm rfl fn))))) (fm rfl (fm rfl (fm rfl (fm rfl (fm rfl fn)))))) (ih _ _ _ _ _ _ _ _ hs R10 rx1 rx2 rx3 k11)
def f99_50 (M : Mm) (x1 : Int) (x2 : Int) (x3 : Int) : Option (Int × Mm) := (f100 M 2416 x1 x2).bind (fun zq2 => l99_50 FU 10 zq2.2 x1 x2 x3 x1)
theorem c99_50 {L : Nat} {xs : Nat → Int32} {h : mvH} {M : Mm} {x1 x2 x3 : Int} {v : Int} {M' : Mm} (R : rp h M) (rx1 : rg x1) (rx2 : rg x2) (rx3 : rg x3) (hs : f99_50 M x1 x2 x3 = some (v, M')) : evx L xs 2 99 0 [(0, .inr (.inr (.inl (some 50)))), (1, .inl (iz x1)), (2, .inl (iz x2)), (3, .inl (iz x3))] [] h (.inl none, 0) M' := by
  unfold f99_50 at hs
  refine evx_F E99 D99_0 rfl rfl ?_
  refine evx_len E99 D99_1 H50 (by decide) R ?_
  refine evx_F E99 D99_2 rfl rfl ?_
  refine evx_F E99 D99_3 rfl rfl ?_
  obtain ⟨⟨q2, M6⟩, e1, hs⟩ := Option.bind_eq_some_iff.mp hs
  dsimp only at hs
  refine evx_cs (D := 1) E99 D99_4 I99_13 rfl rfl (Nat.le_of_ble_eq_true rfl) ⟨rfl, Nat.le_of_ble_eq_true rfl⟩ rfl (evx_up (Nat.le_of_ble_eq_true rfl) (c100 R (by decide) rx1 rx2 e1)) ?_
  intro h3 R4 w5
  refine evx_F E99 D99_7 rfl rfl ?_
  refine evx_F E99 D99_8 rfl rfl ?_
  show evx _ _ _ _ _ [(4, .inl (iz x1)), (0, .inr (.inr (.inl (some 50)))), (1, .inl (iz x1)), (2, .inl (iz x2)), (3, .inl (iz x3))] _ _ _ _
  exact evx_lv (lvLe_mk (fm rfl (fm rfl (fm rfl (fm rfl (fm rfl fn))))) (fm rfl (fm rfl (fm rfl (fm rfl (fm rfl fn))))) (fm rfl (fm rfl (fm rfl (fm rfl (fm rfl fn)))))) ((d99_50 FU) _ _ _ _ _ _ _ _ hs R4 rx1 rx2 rx3 rx1)
/-! 99_31: java/util/Arrays.fill ([IIII)V -/
def l99_31 : Nat → Nat → Mm → Int → Int → Int → Int → Option (Int × Mm)
  | 0, _, _, _, _, _, _ => none
  | f + 1, 10, M, x1, x2, x3, x4 => if x2 ≤ x4 then (some (0, M)) else (if 0 ≤ x4 ∧ x4 < 2504 then (if rg (x4 + 1) then (l99_31 f 10 (up M 31 (Int.toNat x4) x3) x1 x2 x3 (x4 + 1)) else none) else none)
  | _, _, _, _, _, _, _ => none
theorem d99_31 {L : Nat} {xs : Nat → Int32} (f : Nat) : (∀ (M : Mm) (x1 x2 x3 x4 : Int) (h : mvH) (v : Int) (M' : Mm), l99_31 f 10 M x1 x2 x3 x4 = some (v, M') → rp h M → rg x1 → rg x2 → rg x3 → rg x4 → evx L xs 2 99 10 [(0, .inr (.inr (.inl (some 31)))), (1, .inl (iz x1)), (2, .inl (iz x2)), (3, .inl (iz x3)), (4, .inl (iz x4))] [] h (.inl none, 0) M') := by
  induction f with
  | zero => exact (fun M x1 x2 x3 x4 h v M' hs _ _ _ _ _ => by cases hs)
  | succ f ih =>
    intro M x1 x2 x3 x4 h v M' hs R rx1 rx2 rx3 rx4
    rw [l99_31] at hs
    refine evx_F E99 D99_10 rfl rfl ?_
    refine evx_F E99 D99_12 rfl rfl ?_
    by_cases cb7 : x2 ≤ x4
    · rw [if_pos cb7] at hs
      refine evx_F E99 D99_13 rfl (ifT (c2_ge_T rx4 rx2 cb7)) ?_
      cases hs
      exact evx_ret E99 D99_27 rfl (fun d => rfl) rfl trivial R
    · rw [if_neg cb7] at hs
      refine evx_F E99 D99_13 rfl (ifF (c2_ge_F rx4 rx2 (by omega))) ?_
      refine evx_F E99 D99_16 rfl rfl ?_
      refine evx_F E99 D99_17 rfl rfl ?_
      refine evx_F E99 D99_19 rfl rfl ?_
      obtain ⟨k8, hs⟩ := ck hs
      refine evx_ias E99 D99_20 H31 (by decide) R k8 rx3 ?_
      intro h9 R10
      refine evx_inc E99 D99_21 (Nat.le_of_ble_eq_true rfl) rfl ?_
      refine evx_F E99 D99_24 rfl rfl ?_
      obtain ⟨k11, hs⟩ := ck hs
      show evx _ _ _ _ _ [(4, .inl (iz (x4 + 1))), (0, .inr (.inr (.inl (some 31)))), (1, .inl (iz x1)), (2, .inl (iz x2)), (3, .inl (iz x3))] _ _ _ _
      exact evx_lv (lvLe_mk (fm rfl (fm rfl (fm rfl (fm rfl (fm rfl fn))))) (fm rfl (fm rfl (fm rfl (fm rfl (fm rfl fn))))) (fm rfl (fm rfl (fm rfl (fm rfl (fm rfl fn)))))) (ih _ _ _ _ _ _ _ _ hs R10 rx1 rx2 rx3 k11)
def f99_31 (M : Mm) (x1 : Int) (x2 : Int) (x3 : Int) : Option (Int × Mm) := (f100 M 2504 x1 x2).bind (fun zq2 => l99_31 FU 10 zq2.2 x1 x2 x3 x1)
theorem c99_31 {L : Nat} {xs : Nat → Int32} {h : mvH} {M : Mm} {x1 x2 x3 : Int} {v : Int} {M' : Mm} (R : rp h M) (rx1 : rg x1) (rx2 : rg x2) (rx3 : rg x3) (hs : f99_31 M x1 x2 x3 = some (v, M')) : evx L xs 2 99 0 [(0, .inr (.inr (.inl (some 31)))), (1, .inl (iz x1)), (2, .inl (iz x2)), (3, .inl (iz x3))] [] h (.inl none, 0) M' := by
  unfold f99_31 at hs
  refine evx_F E99 D99_0 rfl rfl ?_
  refine evx_len E99 D99_1 H31 (by decide) R ?_
  refine evx_F E99 D99_2 rfl rfl ?_
  refine evx_F E99 D99_3 rfl rfl ?_
  obtain ⟨⟨q2, M6⟩, e1, hs⟩ := Option.bind_eq_some_iff.mp hs
  dsimp only at hs
  refine evx_cs (D := 1) E99 D99_4 I99_13 rfl rfl (Nat.le_of_ble_eq_true rfl) ⟨rfl, Nat.le_of_ble_eq_true rfl⟩ rfl (evx_up (Nat.le_of_ble_eq_true rfl) (c100 R (by decide) rx1 rx2 e1)) ?_
  intro h3 R4 w5
  refine evx_F E99 D99_7 rfl rfl ?_
  refine evx_F E99 D99_8 rfl rfl ?_
  show evx _ _ _ _ _ [(4, .inl (iz x1)), (0, .inr (.inr (.inl (some 31)))), (1, .inl (iz x1)), (2, .inl (iz x2)), (3, .inl (iz x3))] _ _ _ _
  exact evx_lv (lvLe_mk (fm rfl (fm rfl (fm rfl (fm rfl (fm rfl fn))))) (fm rfl (fm rfl (fm rfl (fm rfl (fm rfl fn))))) (fm rfl (fm rfl (fm rfl (fm rfl (fm rfl fn)))))) ((d99_31 FU) _ _ _ _ _ _ _ _ hs R4 rx1 rx2 rx3 rx1)
set_option maxRecDepth 20000 in
theorem E16 : pgMm 16 = some (⟨"DictionaryHouse", "list", "(I)I"⟩, prog_1_method_2_code, 2, (some .int), []) := rfl
theorem D16_0 : pgDecT 16 0 = some (.aload_n 0, 1) := by decide +kernel
theorem D16_1 : pgDecT 16 1 = some (.getfield 12, 3) := by decide +kernel
theorem F16_12 : pgFf 16 12 = some (11, 0, 3) := by decide +kernel
theorem D16_4 : pgDecT 16 4 = some (.iload_n 1, 1) := by decide +kernel
theorem D16_5 : pgDecT 16 5 = some (.invokevirtual 63, 3) := by decide +kernel
theorem I16_63 : pgIi 16 63 = some (17, 1, 9) := by decide +kernel
theorem D16_8 : pgDecT 16 8 = some (.invokestatic 67, 3) := by decide +kernel
theorem I16_67 : pgIi 16 67 = some (18, 1, 100) := by decide +kernel
theorem D16_11 : pgDecT 16 11 = some (.aload_n 0, 1) := by decide +kernel
theorem D16_12 : pgDecT 16 12 = some (.getfield 12, 3) := by decide +kernel
theorem D16_15 : pgDecT 16 15 = some (.iload_n 1, 1) := by decide +kernel
theorem D16_16 : pgDecT 16 16 = some (.iconst (-1), 1) := by decide +kernel
theorem D16_17 : pgDecT 16 17 = some (.invokevirtual 71, 3) := by decide +kernel
theorem I16_71 : pgIi 16 71 = some (19, 2, 9) := by decide +kernel
theorem D16_20 : pgDecT 16 20 = some (.invokestatic 75, 3) := by decide +kernel
theorem I16_75 : pgIi 16 75 = some (20, 1, 100) := by decide +kernel
theorem D16_23 : pgDecT 16 23 = some (.ireturn, 1) := by decide +kernel
/-! 16: DictionaryHouse.list (I)I -/
def f16 (M : Mm) (x1 : Int) : Option (Int × Int × Mm) := (f17 M x1).bind (fun q2 => if q2 = 0 then some (1, 0, M) else (f19 M x1 (-1)).bind (fun zq8 => (f20 zq8.2 zq8.1).bind (fun zq14 => if zq14.1 = 0 then (some (0, zq14.2.1, zq14.2.2)) else some (zq14.1, 0, zq14.2.2))))
theorem c16 {L : Nat} {xs : Nat → Int32} {h : mvH} {M : Mm} {x1 : Int} {k v : Int} {M' : Mm} (R : rp h M) (rx1 : rg x1) (hs : f16 M x1 = some (k, v, M')) : evx L xs 10 16 0 [(0, .inr (.inr (.inl (some 0)))), (1, .inl (iz x1))] [] h (ot k v) M' := by
  unfold f16 at hs
  refine evx_F E16 D16_0 rfl rfl ?_
  refine evx_gfr E16 D16_1 F16_12 H0 rfl R ?_
  refine evx_F E16 D16_4 rfl rfl ?_
  obtain ⟨q2, e1, hs⟩ := Option.bind_eq_some_iff.mp hs
  refine evx_cv (D := 9) E16 D16_5 I16_63 rfl rfl H1 ⟨Nat.le_of_ble_eq_true rfl, Nat.le_of_ble_eq_true rfl⟩ ⟨rfl, Nat.le_of_ble_eq_true rfl⟩ rfl R (evx_up (Nat.le_of_ble_eq_true rfl) (c17 R rx1 e1)) ?_
  intro h3 R4 w5
  have w5 : rg q2 := w5
  show evx _ _ _ _ _ _ (.inl (iz q2) :: _) _ _ _
  by_cases cb6 : q2 = 0
  · rw [if_pos cb6] at hs
    cases hs
    exact evx_rqF (b := true) E16 D16_8 I16_67 (Nat.le_of_ble_eq_true rfl) rfl (Nat.le_of_ble_eq_true rfl) cb6 rfl rfl R4
  · rw [if_neg cb6] at hs
    refine evx_rqT (b := true) E16 D16_8 I16_67 (Nat.le_of_ble_eq_true rfl) rfl (Nat.le_of_ble_eq_true rfl) w5 cb6 ?_
    refine evx_F E16 D16_11 rfl rfl ?_
    refine evx_gfr E16 D16_12 F16_12 H0 rfl R4 ?_
    refine evx_F E16 D16_15 rfl rfl ?_
    refine evx_F E16 D16_16 rfl rfl ?_
    obtain ⟨⟨q8, M12⟩, e7, hs⟩ := Option.bind_eq_some_iff.mp hs
    dsimp only at hs
    refine evx_cv (D := 9) E16 D16_17 I16_71 rfl rfl H1 ⟨Nat.le_of_ble_eq_true rfl, Nat.le_of_ble_eq_true rfl⟩ ⟨rfl, Nat.le_of_ble_eq_true rfl⟩ rfl R4 (evx_up (Nat.le_of_ble_eq_true rfl) (c19 R4 rx1 (by decide) e7)) ?_
    intro h9 R10 w11
    have w11 : rg q8 := w11
    show evx _ _ _ _ _ _ (.inl (iz q8) :: _) _ _ _
    obtain ⟨⟨kq19, q14, M18⟩, e13, hs⟩ := Option.bind_eq_some_iff.mp hs
    dsimp only at hs
    have ge13 := c20 (L := L) (xs := xs) R10 w11 e13
    by_cases cb20 : kq19 = 0
    · rw [if_pos cb20] at hs
      subst cb20
      refine evx_cs (D := 9) E16 D16_20 I16_75 rfl rfl (Nat.le_of_ble_eq_true rfl) ⟨rfl, Nat.le_of_ble_eq_true rfl⟩ rfl (evx_up (Nat.le_of_ble_eq_true rfl) ge13) ?_
      intro h15 R16 w17
      have w17 : rg q14 := w17
      show evx _ _ _ _ _ _ (.inl (iz q14) :: _) _ _ _
      cases hs
      exact evx_ret E16 D16_23 rfl (fun d => rfl) rfl (show rg _ from w17) R16
    · rw [if_neg cb20] at hs
      cases hs
      rw [ot_ne cb20] at ge13 ⊢
      exact evx_ths (D := 9) E16 D16_20 I16_75 rfl rfl (Nat.le_of_ble_eq_true rfl) ⟨rfl, Nat.le_of_ble_eq_true rfl⟩ rfl (thb (P := fun b => pgHf 16 20 (exn b) = none) rfl rfl _) rfl (evx_up (Nat.le_of_ble_eq_true rfl) ge13)
set_option maxRecDepth 20000 in
theorem E25 : pgMm 25 = some (⟨"DictionaryHouse", "type", "(I)I"⟩, prog_1_method_4_code, 2, (some .int), []) := rfl
theorem D25_0 : pgDecT 25 0 = some (.iload_n 1, 1) := by decide +kernel
theorem D25_1 : pgDecT 25 1 = some (.iconst (-1), 1) := by decide +kernel
theorem D25_2 : pgDecT 25 2 = some (.if_icmp .eq 14, 3) := by decide +kernel
theorem D25_16 : pgDecT 25 16 = some (.iconst 1, 1) := by decide +kernel
theorem D25_17 : pgDecT 25 17 = some (.goto 4, 3) := by decide +kernel
theorem D25_21 : pgDecT 25 21 = some (.invokestatic 67, 3) := by decide +kernel
theorem I25_67 : pgIi 25 67 = some (18, 1, 100) := by decide +kernel
theorem D25_24 : pgDecT 25 24 = some (.aload_n 0, 1) := by decide +kernel
theorem D25_25 : pgDecT 25 25 = some (.getfield 19, 3) := by decide +kernel
theorem F25_19 : pgFf 25 19 = some (11, 1, 3) := by decide +kernel
theorem D25_28 : pgDecT 25 28 = some (.invokevirtual 80, 3) := by decide +kernel
theorem I25_80 : pgIi 25 80 = some (27, 0, 1) := by decide +kernel
theorem D25_31 : pgDecT 25 31 = some (.bipush 6, 2) := by decide +kernel
theorem D25_33 : pgDecT 25 33 = some (.if_icmp .ge 7, 3) := by decide +kernel
theorem D25_40 : pgDecT 25 40 = some (.iconst 0, 1) := by decide +kernel
theorem D25_41 : pgDecT 25 41 = some (.invokestatic 84, 3) := by decide +kernel
theorem I25_84 : pgIi 25 84 = some (21, 1, 100) := by decide +kernel
theorem D25_36 : pgDecT 25 36 = some (.iconst 1, 1) := by decide +kernel
theorem D25_37 : pgDecT 25 37 = some (.goto 4, 3) := by decide +kernel
theorem D25_44 : pgDecT 25 44 = some (.aload_n 0, 1) := by decide +kernel
theorem D25_45 : pgDecT 25 45 = some (.getfield 19, 3) := by decide +kernel
theorem D25_48 : pgDecT 25 48 = some (.iload_n 1, 1) := by decide +kernel
theorem D25_49 : pgDecT 25 49 = some (.invokevirtual 87, 3) := by decide +kernel
theorem I25_87 : pgIi 25 87 = some (28, 1, 1) := by decide +kernel
theorem D25_52 : pgDecT 25 52 = some (.ireturn, 1) := by decide +kernel
theorem D25_5 : pgDecT 25 5 = some (.aload_n 0, 1) := by decide +kernel
theorem D25_6 : pgDecT 25 6 = some (.getfield 19, 3) := by decide +kernel
theorem D25_9 : pgDecT 25 9 = some (.iload_n 1, 1) := by decide +kernel
theorem D25_10 : pgDecT 25 10 = some (.invokevirtual 79, 3) := by decide +kernel
theorem I25_79 : pgIi 25 79 = some (26, 1, 1) := by decide +kernel
theorem D25_13 : pgDecT 25 13 = some (.ifCond .eq 7, 3) := by decide +kernel
theorem D25_20 : pgDecT 25 20 = some (.iconst 0, 1) := by decide +kernel
/-! 25: DictionaryHouse.type (I)I -/
def f25 (M : Mm) (x1 : Int) : Option (Int × Int × Mm) := if x1 = (-1) then (f27 M).bind (fun q4 => if 6 ≤ q4 then (some (2, 0, M)) else (f28 M x1).bind (fun zq12 => some (0, zq12.1, zq12.2))) else (f26 M x1).bind (fun q18 => if q18 = 0 then (some (1, 0, M)) else (f27 M).bind (fun q26 => if 6 ≤ q26 then (some (2, 0, M)) else (f28 M x1).bind (fun zq34 => some (0, zq34.1, zq34.2))))
theorem c25 {L : Nat} {xs : Nat → Int32} {h : mvH} {M : Mm} {x1 : Int} {k v : Int} {M' : Mm} (R : rp h M) (rx1 : rg x1) (hs : f25 M x1 = some (k, v, M')) : evx L xs 9 25 0 [(0, .inr (.inr (.inl (some 0)))), (1, .inl (iz x1))] [] h (ot k v) M' := by
  unfold f25 at hs
  refine evx_F E25 D25_0 rfl rfl ?_
  refine evx_F E25 D25_1 rfl rfl ?_
  by_cases cb1 : x1 = (-1)
  · rw [if_pos cb1] at hs
    refine evx_F E25 D25_2 rfl (ifT (c2_eq_T rx1 (by decide) cb1)) ?_
    refine evx_F E25 D25_16 rfl rfl ?_
    refine evx_F E25 D25_17 rfl rfl ?_
    refine evx_rqT (b := true) E25 D25_21 I25_67 (Nat.le_of_ble_eq_true rfl) rfl (Nat.le_of_ble_eq_true rfl) (by decide) (by decide) ?_
    refine evx_F E25 D25_24 rfl rfl ?_
    refine evx_gfr E25 D25_25 F25_19 H0 rfl R ?_
    obtain ⟨q4, e3, hs⟩ := Option.bind_eq_some_iff.mp hs
    refine evx_cv (D := 8) E25 D25_28 I25_80 rfl rfl H5 ⟨Nat.le_of_ble_eq_true rfl, Nat.le_of_ble_eq_true rfl⟩ ⟨rfl, Nat.le_of_ble_eq_true rfl⟩ rfl R (evx_up (Nat.le_of_ble_eq_true rfl) (c27 R  e3)) ?_
    intro h5 R6 w7
    have w7 : rg q4 := w7
    show evx _ _ _ _ _ _ (.inl (iz q4) :: _) _ _ _
    refine evx_k (k := 6) E25 D25_31 rfl (by decide) ?_
    by_cases cb8 : 6 ≤ q4
    · rw [if_pos cb8] at hs
      refine evx_F E25 D25_33 rfl (ifT (c2_ge_T w7 (by decide) cb8)) ?_
      refine evx_F E25 D25_40 rfl rfl ?_
      cases hs
      exact evx_rqF (b := false) E25 D25_41 I25_84 (Nat.le_of_ble_eq_true rfl) rfl (Nat.le_of_ble_eq_true rfl) rfl rfl rfl R6
    · rw [if_neg cb8] at hs
      refine evx_F E25 D25_33 rfl (ifF (c2_ge_F w7 (by decide) (by omega))) ?_
      refine evx_F E25 D25_36 rfl rfl ?_
      refine evx_F E25 D25_37 rfl rfl ?_
      refine evx_rqT (b := false) E25 D25_41 I25_84 (Nat.le_of_ble_eq_true rfl) rfl (Nat.le_of_ble_eq_true rfl) (by decide) (by decide) ?_
      refine evx_F E25 D25_44 rfl rfl ?_
      refine evx_gfr E25 D25_45 F25_19 H0 rfl R6 ?_
      refine evx_F E25 D25_48 rfl rfl ?_
      obtain ⟨⟨q12, M16⟩, e11, hs⟩ := Option.bind_eq_some_iff.mp hs
      dsimp only at hs
      refine evx_cv (D := 8) E25 D25_49 I25_87 rfl rfl H5 ⟨Nat.le_of_ble_eq_true rfl, Nat.le_of_ble_eq_true rfl⟩ ⟨rfl, Nat.le_of_ble_eq_true rfl⟩ rfl R6 (evx_up (Nat.le_of_ble_eq_true rfl) (c28 R6 rx1 e11)) ?_
      intro h13 R14 w15
      have w15 : rg q12 := w15
      show evx _ _ _ _ _ _ (.inl (iz q12) :: _) _ _ _
      cases hs
      exact evx_ret E25 D25_52 rfl (fun d => rfl) rfl (show rg _ from w15) R14
  · rw [if_neg cb1] at hs
    refine evx_F E25 D25_2 rfl (ifF (c2_eq_F rx1 (by decide) (by omega))) ?_
    refine evx_F E25 D25_5 rfl rfl ?_
    refine evx_gfr E25 D25_6 F25_19 H0 rfl R ?_
    refine evx_F E25 D25_9 rfl rfl ?_
    obtain ⟨q18, e17, hs⟩ := Option.bind_eq_some_iff.mp hs
    refine evx_cv (D := 8) E25 D25_10 I25_79 rfl rfl H5 ⟨Nat.le_of_ble_eq_true rfl, Nat.le_of_ble_eq_true rfl⟩ ⟨rfl, Nat.le_of_ble_eq_true rfl⟩ rfl R (evx_up (Nat.le_of_ble_eq_true rfl) (c26 R rx1 e17)) ?_
    intro h19 R20 w21
    have w21 : rg q18 := w21
    show evx _ _ _ _ _ _ (.inl (iz q18) :: _) _ _ _
    by_cases cb22 : q18 = 0
    · rw [if_pos cb22] at hs
      refine evx_F E25 D25_13 rfl (ifT (c1_eq_T w21 cb22)) ?_
      refine evx_F E25 D25_20 rfl rfl ?_
      cases hs
      exact evx_rqF (b := true) E25 D25_21 I25_67 (Nat.le_of_ble_eq_true rfl) rfl (Nat.le_of_ble_eq_true rfl) rfl rfl rfl R20
    · rw [if_neg cb22] at hs
      refine evx_F E25 D25_13 rfl (ifF (c1_eq_F w21 (by omega))) ?_
      refine evx_F E25 D25_16 rfl rfl ?_
      refine evx_F E25 D25_17 rfl rfl ?_
      refine evx_rqT (b := true) E25 D25_21 I25_67 (Nat.le_of_ble_eq_true rfl) rfl (Nat.le_of_ble_eq_true rfl) (by decide) (by decide) ?_
      refine evx_F E25 D25_24 rfl rfl ?_
      refine evx_gfr E25 D25_25 F25_19 H0 rfl R20 ?_
      obtain ⟨q26, e25, hs⟩ := Option.bind_eq_some_iff.mp hs
      refine evx_cv (D := 8) E25 D25_28 I25_80 rfl rfl H5 ⟨Nat.le_of_ble_eq_true rfl, Nat.le_of_ble_eq_true rfl⟩ ⟨rfl, Nat.le_of_ble_eq_true rfl⟩ rfl R20 (evx_up (Nat.le_of_ble_eq_true rfl) (c27 R20  e25)) ?_
      intro h27 R28 w29
      have w29 : rg q26 := w29
      show evx _ _ _ _ _ _ (.inl (iz q26) :: _) _ _ _
      refine evx_k (k := 6) E25 D25_31 rfl (by decide) ?_
      by_cases cb30 : 6 ≤ q26
      · rw [if_pos cb30] at hs
        refine evx_F E25 D25_33 rfl (ifT (c2_ge_T w29 (by decide) cb30)) ?_
        refine evx_F E25 D25_40 rfl rfl ?_
        cases hs
        exact evx_rqF (b := false) E25 D25_41 I25_84 (Nat.le_of_ble_eq_true rfl) rfl (Nat.le_of_ble_eq_true rfl) rfl rfl rfl R28
      · rw [if_neg cb30] at hs
        refine evx_F E25 D25_33 rfl (ifF (c2_ge_F w29 (by decide) (by omega))) ?_
        refine evx_F E25 D25_36 rfl rfl ?_
        refine evx_F E25 D25_37 rfl rfl ?_
        refine evx_rqT (b := false) E25 D25_41 I25_84 (Nat.le_of_ble_eq_true rfl) rfl (Nat.le_of_ble_eq_true rfl) (by decide) (by decide) ?_
        refine evx_F E25 D25_44 rfl rfl ?_
        refine evx_gfr E25 D25_45 F25_19 H0 rfl R28 ?_
        refine evx_F E25 D25_48 rfl rfl ?_
        obtain ⟨⟨q34, M38⟩, e33, hs⟩ := Option.bind_eq_some_iff.mp hs
        dsimp only at hs
        refine evx_cv (D := 8) E25 D25_49 I25_87 rfl rfl H5 ⟨Nat.le_of_ble_eq_true rfl, Nat.le_of_ble_eq_true rfl⟩ ⟨rfl, Nat.le_of_ble_eq_true rfl⟩ rfl R28 (evx_up (Nat.le_of_ble_eq_true rfl) (c28 R28 rx1 e33)) ?_
        intro h35 R36 w37
        have w37 : rg q34 := w37
        show evx _ _ _ _ _ _ (.inl (iz q34) :: _) _ _ _
        cases hs
        exact evx_ret E25 D25_52 rfl (fun d => rfl) rfl (show rg _ from w37) R36
set_option maxRecDepth 20000 in
theorem E33 : pgMm 33 = some (⟨"DictionaryHouse$ClassTable", "hasAnyInstance", "(I)Z"⟩, prog_3_method_10_code, 2, (some .boolean), []) := rfl
theorem D33_0 : pgDecT 33 0 = some (.aload_n 0, 1) := by decide +kernel
theorem D33_1 : pgDecT 33 1 = some (.iload_n 1, 1) := by decide +kernel
theorem D33_2 : pgDecT 33 2 = some (.iconst 0, 1) := by decide +kernel
theorem D33_3 : pgDecT 33 3 = some (.invokevirtual 45, 3) := by decide +kernel
theorem I33_45 : pgIi 33 45 = some (34, 2, 1) := by decide +kernel
theorem D33_6 : pgDecT 33 6 = some (.ifCond .ne 21, 3) := by decide +kernel
theorem D33_27 : pgDecT 33 27 = some (.iconst 1, 1) := by decide +kernel
theorem D33_28 : pgDecT 33 28 = some (.goto 4, 3) := by decide +kernel
theorem D33_32 : pgDecT 33 32 = some (.ireturn, 1) := by decide +kernel
theorem D33_9 : pgDecT 33 9 = some (.aload_n 0, 1) := by decide +kernel
theorem D33_10 : pgDecT 33 10 = some (.iload_n 1, 1) := by decide +kernel
theorem D33_11 : pgDecT 33 11 = some (.iconst 1, 1) := by decide +kernel
theorem D33_12 : pgDecT 33 12 = some (.invokevirtual 45, 3) := by decide +kernel
theorem D33_15 : pgDecT 33 15 = some (.ifCond .ne 12, 3) := by decide +kernel
theorem D33_18 : pgDecT 33 18 = some (.aload_n 0, 1) := by decide +kernel
theorem D33_19 : pgDecT 33 19 = some (.iload_n 1, 1) := by decide +kernel
theorem D33_20 : pgDecT 33 20 = some (.iconst 2, 1) := by decide +kernel
theorem D33_21 : pgDecT 33 21 = some (.invokevirtual 45, 3) := by decide +kernel
theorem D33_24 : pgDecT 33 24 = some (.ifCond .eq 7, 3) := by decide +kernel
theorem D33_31 : pgDecT 33 31 = some (.iconst 0, 1) := by decide +kernel
/-! 33: DictionaryHouse$ClassTable.hasAnyInstance (I)Z -/
def f33 (M : Mm) (x1 : Int) : Option Int := (f34 M x1 0).bind (fun q2 => if ¬ q2 = 0 then (some 1) else (f34 M x1 1).bind (fun q8 => if ¬ q8 = 0 then (some 1) else (f34 M x1 2).bind (fun q14 => if q14 = 0 then (some 0) else (some 1))))
theorem c33 {L : Nat} {xs : Nat → Int32} {h : mvH} {M : Mm} {x1 : Int} {v : Int} (R : rp h M) (rx1 : rg x1) (hs : f33 M x1 = some v) : evx L xs 2 33 0 [(0, .inr (.inr (.inl (some 5)))), (1, .inl (iz x1))] [] h (.inl (some (.inl v)), 0) M := by
  unfold f33 at hs
  refine evx_F E33 D33_0 rfl rfl ?_
  refine evx_F E33 D33_1 rfl rfl ?_
  refine evx_F E33 D33_2 rfl rfl ?_
  obtain ⟨q2, e1, hs⟩ := Option.bind_eq_some_iff.mp hs
  refine evx_cv (D := 1) E33 D33_3 I33_45 rfl rfl H5 ⟨Nat.le_of_ble_eq_true rfl, Nat.le_of_ble_eq_true rfl⟩ ⟨rfl, Nat.le_of_ble_eq_true rfl⟩ rfl R (evx_up (Nat.le_of_ble_eq_true rfl) (c34 R rx1 (by decide) e1)) ?_
  intro h3 R4 w5
  have w5 : rg q2 := w5
  show evx _ _ _ _ _ _ (.inl (iz q2) :: _) _ _ _
  by_cases cb6 : ¬ q2 = 0
  · rw [if_pos cb6] at hs
    refine evx_F E33 D33_6 rfl (ifT (c1_ne_T w5 cb6)) ?_
    refine evx_F E33 D33_27 rfl rfl ?_
    refine evx_F E33 D33_28 rfl rfl ?_
    cases hs
    exact evx_ret E33 D33_32 rfl (fun d => rfl) rfl (show rg _ from (by decide)) R4
  · rw [if_neg cb6] at hs
    refine evx_F E33 D33_6 rfl (ifF (c1_ne_F w5 (by omega))) ?_
    refine evx_F E33 D33_9 rfl rfl ?_
    refine evx_F E33 D33_10 rfl rfl ?_
    refine evx_F E33 D33_11 rfl rfl ?_
    obtain ⟨q8, e7, hs⟩ := Option.bind_eq_some_iff.mp hs
    refine evx_cv (D := 1) E33 D33_12 I33_45 rfl rfl H5 ⟨Nat.le_of_ble_eq_true rfl, Nat.le_of_ble_eq_true rfl⟩ ⟨rfl, Nat.le_of_ble_eq_true rfl⟩ rfl R4 (evx_up (Nat.le_of_ble_eq_true rfl) (c34 R4 rx1 (by decide) e7)) ?_
    intro h9 R10 w11
    have w11 : rg q8 := w11
    show evx _ _ _ _ _ _ (.inl (iz q8) :: _) _ _ _
    by_cases cb12 : ¬ q8 = 0
    · rw [if_pos cb12] at hs
      refine evx_F E33 D33_15 rfl (ifT (c1_ne_T w11 cb12)) ?_
      refine evx_F E33 D33_27 rfl rfl ?_
      refine evx_F E33 D33_28 rfl rfl ?_
      cases hs
      exact evx_ret E33 D33_32 rfl (fun d => rfl) rfl (show rg _ from (by decide)) R10
    · rw [if_neg cb12] at hs
      refine evx_F E33 D33_15 rfl (ifF (c1_ne_F w11 (by omega))) ?_
      refine evx_F E33 D33_18 rfl rfl ?_
      refine evx_F E33 D33_19 rfl rfl ?_
      refine evx_F E33 D33_20 rfl rfl ?_
      obtain ⟨q14, e13, hs⟩ := Option.bind_eq_some_iff.mp hs
      refine evx_cv (D := 1) E33 D33_21 I33_45 rfl rfl H5 ⟨Nat.le_of_ble_eq_true rfl, Nat.le_of_ble_eq_true rfl⟩ ⟨rfl, Nat.le_of_ble_eq_true rfl⟩ rfl R10 (evx_up (Nat.le_of_ble_eq_true rfl) (c34 R10 rx1 (by decide) e13)) ?_
      intro h15 R16 w17
      have w17 : rg q14 := w17
      show evx _ _ _ _ _ _ (.inl (iz q14) :: _) _ _ _
      by_cases cb18 : q14 = 0
      · rw [if_pos cb18] at hs
        refine evx_F E33 D33_24 rfl (ifT (c1_eq_T w17 cb18)) ?_
        refine evx_F E33 D33_31 rfl rfl ?_
        cases hs
        exact evx_ret E33 D33_32 rfl (fun d => rfl) rfl (show rg _ from (by decide)) R16
      · rw [if_neg cb18] at hs
        refine evx_F E33 D33_24 rfl (ifF (c1_eq_F w17 (by omega))) ?_
        refine evx_F E33 D33_27 rfl rfl ?_
        refine evx_F E33 D33_28 rfl rfl ?_
        cases hs
        exact evx_ret E33 D33_32 rfl (fun d => rfl) rfl (show rg _ from (by decide)) R16
set_option maxRecDepth 20000 in
theorem E39 : pgMm 39 = some (⟨"DictionaryHouse$Expressions", "hasRoomFor", "(III)Z"⟩, prog_6_method_7_code, 4, (some .boolean), []) := rfl
theorem D39_0 : pgDecT 39 0 = some (.aload_n 0, 1) := by decide +kernel
theorem D39_1 : pgDecT 39 1 = some (.getfield 24, 3) := by decide +kernel
theorem F39_24 : pgFf 39 24 = some (4, 4, 0) := by decide +kernel
theorem D39_4 : pgDecT 39 4 = some (.sipush 200, 3) := by decide +kernel
theorem D39_7 : pgDecT 39 7 = some (.if_icmp .ge 19, 3) := by decide +kernel
theorem D39_26 : pgDecT 39 26 = some (.iconst 0, 1) := by decide +kernel
theorem D39_27 : pgDecT 39 27 = some (.ireturn, 1) := by decide +kernel
theorem D39_10 : pgDecT 39 10 = some (.aload_n 0, 1) := by decide +kernel
theorem D39_11 : pgDecT 39 11 = some (.iload_n 1, 1) := by decide +kernel
theorem D39_12 : pgDecT 39 12 = some (.iload_n 2, 1) := by decide +kernel
theorem D39_13 : pgDecT 39 13 = some (.iload_n 3, 1) := by decide +kernel
theorem D39_14 : pgDecT 39 14 = some (.invokevirtual 28, 3) := by decide +kernel
theorem I39_28 : pgIi 39 28 = some (40, 3, 4) := by decide +kernel
theorem D39_17 : pgDecT 39 17 = some (.bipush 60, 2) := by decide +kernel
theorem D39_19 : pgDecT 39 19 = some (.if_icmp .gt 7, 3) := by decide +kernel
theorem D39_22 : pgDecT 39 22 = some (.iconst 1, 1) := by decide +kernel
theorem D39_23 : pgDecT 39 23 = some (.goto 4, 3) := by decide +kernel
/-! 39: DictionaryHouse$Expressions.hasRoomFor (III)Z -/
def f39 (M : Mm) (x1 : Int) (x2 : Int) (x3 : Int) : Option Int := if 200 ≤ (M 12 4) then (some 0) else (f40 M x1 x2 x3).bind (fun q3 => if 60 < q3 then (some 0) else (some 1))
theorem c39 {L : Nat} {xs : Nat → Int32} {h : mvH} {M : Mm} {x1 x2 x3 : Int} {v : Int} (R : rp h M) (rx1 : rg x1) (rx2 : rg x2) (rx3 : rg x3) (hs : f39 M x1 x2 x3 = some v) : evx L xs 2 39 0 [(0, .inr (.inr (.inl (some 12)))), (1, .inl (iz x1)), (2, .inl (iz x2)), (3, .inl (iz x3))] [] h (.inl (some (.inl v)), 0) M := by
  unfold f39 at hs
  refine evx_F E39 D39_0 rfl rfl ?_
  refine evx_gfi (k := 4) E39 D39_1 F39_24 H12 rfl R ?_
  refine evx_k (k := 200) E39 D39_4 rfl (by decide) ?_
  by_cases cb1 : 200 ≤ (M 12 4)
  · rw [if_pos cb1] at hs
    refine evx_F E39 D39_7 rfl (ifT (c2_ge_T (R.1 12 4) (by decide) cb1)) ?_
    refine evx_F E39 D39_26 rfl rfl ?_
    cases hs
    exact evx_ret E39 D39_27 rfl (fun d => rfl) rfl (show rg _ from (by decide)) R
  · rw [if_neg cb1] at hs
    refine evx_F E39 D39_7 rfl (ifF (c2_ge_F (R.1 12 4) (by decide) (by omega))) ?_
    refine evx_F E39 D39_10 rfl rfl ?_
    refine evx_F E39 D39_11 rfl rfl ?_
    refine evx_F E39 D39_12 rfl rfl ?_
    refine evx_F E39 D39_13 rfl rfl ?_
    obtain ⟨q3, e2, hs⟩ := Option.bind_eq_some_iff.mp hs
    refine evx_cv (D := 1) E39 D39_14 I39_28 rfl rfl H12 ⟨Nat.le_of_ble_eq_true rfl, Nat.le_of_ble_eq_true rfl⟩ ⟨rfl, Nat.le_of_ble_eq_true rfl⟩ rfl R (evx_up (Nat.le_of_ble_eq_true rfl) (c40 R rx1 rx2 rx3 e2)) ?_
    intro h4 R5 w6
    have w6 : rg q3 := w6
    show evx _ _ _ _ _ _ (.inl (iz q3) :: _) _ _ _
    refine evx_k (k := 60) E39 D39_17 rfl (by decide) ?_
    by_cases cb7 : 60 < q3
    · rw [if_pos cb7] at hs
      refine evx_F E39 D39_19 rfl (ifT (c2_gt_T w6 (by decide) cb7)) ?_
      refine evx_F E39 D39_26 rfl rfl ?_
      cases hs
      exact evx_ret E39 D39_27 rfl (fun d => rfl) rfl (show rg _ from (by decide)) R5
    · rw [if_neg cb7] at hs
      refine evx_F E39 D39_19 rfl (ifF (c2_gt_F w6 (by decide) (by omega))) ?_
      refine evx_F E39 D39_22 rfl rfl ?_
      refine evx_F E39 D39_23 rfl rfl ?_
      cases hs
      exact evx_ret E39 D39_27 rfl (fun d => rfl) rfl (show rg _ from (by decide)) R5
set_option maxRecDepth 20000 in
theorem E59 : pgMm 59 = some (⟨"DictionaryHouse$ClassTable", "agreesWithAbove", "(III)Z"⟩, prog_3_method_14_code, 6, (some .boolean), []) := rfl
theorem D59_0 : pgDecT 59 0 = some (.aload_n 0, 1) := by decide +kernel
theorem D59_1 : pgDecT 59 1 = some (.getfield 9, 3) := by decide +kernel
theorem F59_9 : pgFf 59 9 = some (1, 0, 3) := by decide +kernel
theorem D59_4 : pgDecT 59 4 = some (.iload_n 1, 1) := by decide +kernel
theorem D59_5 : pgDecT 59 5 = some (.iaload, 1) := by decide +kernel
theorem D59_6 : pgDecT 59 6 = some (.istore 4, 2) := by decide +kernel
theorem D59_8 : pgDecT 59 8 = some (.iload 4, 2) := by decide +kernel
theorem D59_10 : pgDecT 59 10 = some (.iconst (-1), 1) := by decide +kernel
theorem D59_11 : pgDecT 59 11 = some (.if_icmp .ne 5, 3) := by decide +kernel
theorem D59_16 : pgDecT 59 16 = some (.aload_n 0, 1) := by decide +kernel
theorem D59_17 : pgDecT 59 17 = some (.iload 4, 2) := by decide +kernel
theorem D59_19 : pgDecT 59 19 = some (.iload_n 2, 1) := by decide +kernel
theorem D59_20 : pgDecT 59 20 = some (.invokevirtual 45, 3) := by decide +kernel
theorem I59_45 : pgIi 59 45 = some (34, 2, 1) := by decide +kernel
theorem D59_23 : pgDecT 59 23 = some (.ifCond .ne 5, 3) := by decide +kernel
theorem D59_28 : pgDecT 59 28 = some (.aload_n 0, 1) := by decide +kernel
theorem D59_29 : pgDecT 59 29 = some (.getfield 25, 3) := by decide +kernel
theorem F59_25 : pgFf 59 25 = some (1, 4, 3) := by decide +kernel
theorem D59_32 : pgDecT 59 32 = some (.iload 4, 2) := by decide +kernel
theorem D59_34 : pgDecT 59 34 = some (.iconst 3, 1) := by decide +kernel
theorem D59_35 : pgDecT 59 35 = some (.imul, 1) := by decide +kernel
theorem D59_36 : pgDecT 59 36 = some (.iload_n 2, 1) := by decide +kernel
theorem D59_37 : pgDecT 59 37 = some (.iadd, 1) := by decide +kernel
theorem D59_38 : pgDecT 59 38 = some (.iaload, 1) := by decide +kernel
theorem D59_39 : pgDecT 59 39 = some (.istore 5, 2) := by decide +kernel
theorem D59_41 : pgDecT 59 41 = some (.iload 5, 2) := by decide +kernel
theorem D59_43 : pgDecT 59 43 = some (.iconst (-1), 1) := by decide +kernel
theorem D59_44 : pgDecT 59 44 = some (.if_icmp .eq 13, 3) := by decide +kernel
theorem D59_57 : pgDecT 59 57 = some (.iconst 1, 1) := by decide +kernel
theorem D59_58 : pgDecT 59 58 = some (.goto 4, 3) := by decide +kernel
theorem D59_62 : pgDecT 59 62 = some (.ireturn, 1) := by decide +kernel
theorem D59_47 : pgDecT 59 47 = some (.aload_n 0, 1) := by decide +kernel
theorem D59_48 : pgDecT 59 48 = some (.iload_n 3, 1) := by decide +kernel
theorem D59_49 : pgDecT 59 49 = some (.iload 5, 2) := by decide +kernel
theorem D59_51 : pgDecT 59 51 = some (.invokevirtual 49, 3) := by decide +kernel
theorem I59_49 : pgIi 59 49 = some (60, 2, 1) := by decide +kernel
theorem D59_54 : pgDecT 59 54 = some (.ifCond .eq 7, 3) := by decide +kernel
theorem D59_61 : pgDecT 59 61 = some (.iconst 0, 1) := by decide +kernel
theorem D59_26 : pgDecT 59 26 = some (.iconst 0, 1) := by decide +kernel
theorem D59_27 : pgDecT 59 27 = some (.ireturn, 1) := by decide +kernel
theorem D59_14 : pgDecT 59 14 = some (.iconst 1, 1) := by decide +kernel
theorem D59_15 : pgDecT 59 15 = some (.ireturn, 1) := by decide +kernel
/-! 59: DictionaryHouse$ClassTable.agreesWithAbove (III)Z -/
def f59 (M : Mm) (x1 : Int) (x2 : Int) (x3 : Int) : Option Int := if 0 ≤ x1 ∧ x1 < 6 then (if ¬ (M 6 (Int.toNat x1)) = (-1) then (f34 M (M 6 (Int.toNat x1)) x2).bind (fun q4 => if ¬ q4 = 0 then (if 0 ≤ (((M 6 (Int.toNat x1)) * 3) + x2) ∧ (((M 6 (Int.toNat x1)) * 3) + x2) < 18 then (if (M 10 (Int.toNat (((M 6 (Int.toNat x1)) * 3) + x2))) = (-1) then (some 1) else (f60 M x3 (M 10 (Int.toNat (((M 6 (Int.toNat x1)) * 3) + x2)))).bind (fun q12 => if q12 = 0 then (some 0) else (some 1))) else none) else (some 0)) else (some 1)) else none
theorem c59 {L : Nat} {xs : Nat → Int32} {h : mvH} {M : Mm} {x1 x2 x3 : Int} {v : Int} (R : rp h M) (rx1 : rg x1) (rx2 : rg x2) (rx3 : rg x3) (hs : f59 M x1 x2 x3 = some v) : evx L xs 2 59 0 [(0, .inr (.inr (.inl (some 5)))), (1, .inl (iz x1)), (2, .inl (iz x2)), (3, .inl (iz x3))] [] h (.inl (some (.inl v)), 0) M := by
  unfold f59 at hs
  refine evx_F E59 D59_0 rfl rfl ?_
  refine evx_gfr E59 D59_1 F59_9 H5 rfl R ?_
  refine evx_F E59 D59_4 rfl rfl ?_
  obtain ⟨k1, hs⟩ := ck hs
  refine evx_ial E59 D59_5 H6 (by decide) R k1 ?_
  refine evx_F E59 D59_6 rfl rfl ?_
  refine evx_F E59 D59_8 rfl rfl ?_
  refine evx_F E59 D59_10 rfl rfl ?_
  by_cases cb2 : ¬ (M 6 (Int.toNat x1)) = (-1)
  · rw [if_pos cb2] at hs
    refine evx_F E59 D59_11 rfl (ifT (c2_ne_T (R.1 6 (Int.toNat x1)) (by decide) cb2)) ?_
    refine evx_F E59 D59_16 rfl rfl ?_
    refine evx_F E59 D59_17 rfl rfl ?_
    refine evx_F E59 D59_19 rfl rfl ?_
    obtain ⟨q4, e3, hs⟩ := Option.bind_eq_some_iff.mp hs
    refine evx_cv (D := 1) E59 D59_20 I59_45 rfl rfl H5 ⟨Nat.le_of_ble_eq_true rfl, Nat.le_of_ble_eq_true rfl⟩ ⟨rfl, Nat.le_of_ble_eq_true rfl⟩ rfl R (evx_up (Nat.le_of_ble_eq_true rfl) (c34 R (R.1 6 (Int.toNat x1)) rx2 e3)) ?_
    intro h5 R6 w7
    have w7 : rg q4 := w7
    show evx _ _ _ _ _ _ (.inl (iz q4) :: _) _ _ _
    by_cases cb8 : ¬ q4 = 0
    · rw [if_pos cb8] at hs
      refine evx_F E59 D59_23 rfl (ifT (c1_ne_T w7 cb8)) ?_
      refine evx_F E59 D59_28 rfl rfl ?_
      refine evx_gfr E59 D59_29 F59_25 H5 rfl R6 ?_
      refine evx_F E59 D59_32 rfl rfl ?_
      refine evx_F E59 D59_34 rfl rfl ?_
      refine evx_mul E59 D59_35 ?_
      refine evx_F E59 D59_36 rfl rfl ?_
      refine evx_add E59 D59_37 ?_
      obtain ⟨k9, hs⟩ := ck hs
      refine evx_ial E59 D59_38 H10 (by decide) R6 k9 ?_
      refine evx_F E59 D59_39 rfl rfl ?_
      refine evx_F E59 D59_41 rfl rfl ?_
      refine evx_F E59 D59_43 rfl rfl ?_
      by_cases cb10 : (M 10 (Int.toNat (((M 6 (Int.toNat x1)) * 3) + x2))) = (-1)
      · rw [if_pos cb10] at hs
        refine evx_F E59 D59_44 rfl (ifT (c2_eq_T (R6.1 10 (Int.toNat (((M 6 (Int.toNat x1)) * 3) + x2))) (by decide) cb10)) ?_
        refine evx_F E59 D59_57 rfl rfl ?_
        refine evx_F E59 D59_58 rfl rfl ?_
        cases hs
        exact evx_ret E59 D59_62 rfl (fun d => rfl) rfl (show rg _ from (by decide)) R6
      · rw [if_neg cb10] at hs
        refine evx_F E59 D59_44 rfl (ifF (c2_eq_F (R6.1 10 (Int.toNat (((M 6 (Int.toNat x1)) * 3) + x2))) (by decide) (by omega))) ?_
        refine evx_F E59 D59_47 rfl rfl ?_
        refine evx_F E59 D59_48 rfl rfl ?_
        refine evx_F E59 D59_49 rfl rfl ?_
        obtain ⟨q12, e11, hs⟩ := Option.bind_eq_some_iff.mp hs
        refine evx_cv (D := 1) E59 D59_51 I59_49 rfl rfl H5 ⟨Nat.le_of_ble_eq_true rfl, Nat.le_of_ble_eq_true rfl⟩ ⟨rfl, Nat.le_of_ble_eq_true rfl⟩ rfl R6 (evx_up (Nat.le_of_ble_eq_true rfl) (c60 R6 rx3 (R6.1 10 (Int.toNat (((M 6 (Int.toNat x1)) * 3) + x2))) e11)) ?_
        intro h13 R14 w15
        have w15 : rg q12 := w15
        show evx _ _ _ _ _ _ (.inl (iz q12) :: _) _ _ _
        by_cases cb16 : q12 = 0
        · rw [if_pos cb16] at hs
          refine evx_F E59 D59_54 rfl (ifT (c1_eq_T w15 cb16)) ?_
          refine evx_F E59 D59_61 rfl rfl ?_
          cases hs
          exact evx_ret E59 D59_62 rfl (fun d => rfl) rfl (show rg _ from (by decide)) R14
        · rw [if_neg cb16] at hs
          refine evx_F E59 D59_54 rfl (ifF (c1_eq_F w15 (by omega))) ?_
          refine evx_F E59 D59_57 rfl rfl ?_
          refine evx_F E59 D59_58 rfl rfl ?_
          cases hs
          exact evx_ret E59 D59_62 rfl (fun d => rfl) rfl (show rg _ from (by decide)) R14
    · rw [if_neg cb8] at hs
      refine evx_F E59 D59_23 rfl (ifF (c1_ne_F w7 (by omega))) ?_
      refine evx_F E59 D59_26 rfl rfl ?_
      cases hs
      exact evx_ret E59 D59_27 rfl (fun d => rfl) rfl (show rg _ from (by decide)) R6
  · rw [if_neg cb2] at hs
    refine evx_F E59 D59_11 rfl (ifF (c2_ne_F (R.1 6 (Int.toNat x1)) (by decide) (by omega))) ?_
    refine evx_F E59 D59_14 rfl rfl ?_
    cases hs
    exact evx_ret E59 D59_15 rfl (fun d => rfl) rfl (show rg _ from (by decide)) R
set_option maxRecDepth 20000 in
theorem E66 : pgMm 66 = some (⟨"DictionaryHouse$Typing", "layOut", "(I)V"⟩, prog_12_method_11_code, 4, none, []) := rfl
theorem D66_0 : pgDecT 66 0 = some (.aload_n 0, 1) := by decide +kernel
theorem D66_1 : pgDecT 66 1 = some (.aload_n 0, 1) := by decide +kernel
theorem D66_2 : pgDecT 66 2 = some (.getfield 52, 3) := by decide +kernel
theorem F66_52 : pgFf 66 52 = some (10, 2, 3) := by decide +kernel
theorem D66_5 : pgDecT 66 5 = some (.iload_n 1, 1) := by decide +kernel
theorem D66_6 : pgDecT 66 6 = some (.invokevirtual 100, 3) := by decide +kernel
theorem I66_100 : pgIi 66 100 = some (67, 1, 4) := by decide +kernel
theorem D66_9 : pgDecT 66 9 = some (.putfield 60, 3) := by decide +kernel
theorem F66_60 : pgFf 66 60 = some (10, 13, 0) := by decide +kernel
theorem D66_12 : pgDecT 66 12 = some (.aload_n 0, 1) := by decide +kernel
theorem D66_13 : pgDecT 66 13 = some (.iconst 0, 1) := by decide +kernel
theorem D66_14 : pgDecT 66 14 = some (.iload_n 1, 1) := by decide +kernel
theorem D66_15 : pgDecT 66 15 = some (.iconst (-1), 1) := by decide +kernel
theorem D66_16 : pgDecT 66 16 = some (.invokevirtual 102, 3) := by decide +kernel
theorem I66_102 : pgIi 66 102 = some (68, 3, 10) := by decide +kernel
theorem D66_19 : pgDecT 66 19 = some (.iconst 0, 1) := by decide +kernel
theorem D66_20 : pgDecT 66 20 = some (.istore_n 2, 1) := by decide +kernel
theorem D66_21 : pgDecT 66 21 = some (.iload_n 2, 1) := by decide +kernel
theorem D66_22 : pgDecT 66 22 = some (.aload_n 0, 1) := by decide +kernel
theorem D66_23 : pgDecT 66 23 = some (.getfield 60, 3) := by decide +kernel
theorem D66_26 : pgDecT 66 26 = some (.if_icmp .ge 103, 3) := by decide +kernel
theorem D66_129 : pgDecT 66 129 = some (.return_, 1) := by decide +kernel
theorem D66_29 : pgDecT 66 29 = some (.aload_n 0, 1) := by decide +kernel
theorem D66_30 : pgDecT 66 30 = some (.getfield 18, 3) := by decide +kernel
theorem F66_18 : pgFf 66 18 = some (10, 5, 3) := by decide +kernel
theorem D66_33 : pgDecT 66 33 = some (.iload_n 2, 1) := by decide +kernel
theorem D66_34 : pgDecT 66 34 = some (.iaload, 1) := by decide +kernel
theorem D66_35 : pgDecT 66 35 = some (.istore_n 3, 1) := by decide +kernel
theorem D66_36 : pgDecT 66 36 = some (.aload_n 0, 1) := by decide +kernel
theorem D66_37 : pgDecT 66 37 = some (.getfield 52, 3) := by decide +kernel
theorem D66_40 : pgDecT 66 40 = some (.iload_n 3, 1) := by decide +kernel
theorem D66_41 : pgDecT 66 41 = some (.invokevirtual 64, 3) := by decide +kernel
theorem I66_64 : pgIi 66 64 = some (69, 1, 4) := by decide +kernel
theorem D66_44 : pgDecT 66 44 = some (.iconst 3, 1) := by decide +kernel
theorem D66_45 : pgDecT 66 45 = some (.if_icmp .ne 22, 3) := by decide +kernel
theorem D66_67 : pgDecT 66 67 = some (.aload_n 0, 1) := by decide +kernel
theorem D66_68 : pgDecT 66 68 = some (.getfield 52, 3) := by decide +kernel
theorem D66_71 : pgDecT 66 71 = some (.iload_n 3, 1) := by decide +kernel
theorem D66_72 : pgDecT 66 72 = some (.invokevirtual 64, 3) := by decide +kernel
theorem D66_75 : pgDecT 66 75 = some (.iconst 4, 1) := by decide +kernel
theorem D66_76 : pgDecT 66 76 = some (.if_icmp .ne 47, 3) := by decide +kernel
theorem D66_123 : pgDecT 66 123 = some (.iinc 2 1, 3) := by decide +kernel
theorem D66_126 : pgDecT 66 126 = some (.goto (-105), 3) := by decide +kernel
theorem D66_79 : pgDecT 66 79 = some (.aload_n 0, 1) := by decide +kernel
theorem D66_80 : pgDecT 66 80 = some (.iload_n 2, 1) := by decide +kernel
theorem D66_81 : pgDecT 66 81 = some (.iconst 1, 1) := by decide +kernel
theorem D66_82 : pgDecT 66 82 = some (.iadd, 1) := by decide +kernel
theorem D66_83 : pgDecT 66 83 = some (.aload_n 0, 1) := by decide +kernel
theorem D66_84 : pgDecT 66 84 = some (.getfield 52, 3) := by decide +kernel
theorem D66_87 : pgDecT 66 87 = some (.iload_n 3, 1) := by decide +kernel
theorem D66_88 : pgDecT 66 88 = some (.invokevirtual 70, 3) := by decide +kernel
theorem I66_70 : pgIi 66 70 = some (70, 1, 4) := by decide +kernel
theorem D66_91 : pgDecT 66 91 = some (.aload_n 0, 1) := by decide +kernel
theorem D66_92 : pgDecT 66 92 = some (.getfield 22, 3) := by decide +kernel
theorem F66_22 : pgFf 66 22 = some (10, 6, 3) := by decide +kernel
theorem D66_95 : pgDecT 66 95 = some (.iload_n 2, 1) := by decide +kernel
theorem D66_96 : pgDecT 66 96 = some (.iaload, 1) := by decide +kernel
theorem D66_97 : pgDecT 66 97 = some (.invokevirtual 102, 3) := by decide +kernel
theorem D66_100 : pgDecT 66 100 = some (.aload_n 0, 1) := by decide +kernel
theorem D66_101 : pgDecT 66 101 = some (.aload_n 0, 1) := by decide +kernel
theorem D66_102 : pgDecT 66 102 = some (.iload_n 2, 1) := by decide +kernel
theorem D66_103 : pgDecT 66 103 = some (.invokevirtual 106, 3) := by decide +kernel
theorem I66_106 : pgIi 66 106 = some (71, 1, 10) := by decide +kernel
theorem D66_106 : pgDecT 66 106 = some (.aload_n 0, 1) := by decide +kernel
theorem D66_107 : pgDecT 66 107 = some (.getfield 52, 3) := by decide +kernel
theorem D66_110 : pgDecT 66 110 = some (.iload_n 3, 1) := by decide +kernel
theorem D66_111 : pgDecT 66 111 = some (.invokevirtual 109, 3) := by decide +kernel
theorem I66_109 : pgIi 66 109 = some (72, 1, 4) := by decide +kernel
theorem D66_114 : pgDecT 66 114 = some (.aload_n 0, 1) := by decide +kernel
theorem D66_115 : pgDecT 66 115 = some (.getfield 22, 3) := by decide +kernel
theorem D66_118 : pgDecT 66 118 = some (.iload_n 2, 1) := by decide +kernel
theorem D66_119 : pgDecT 66 119 = some (.iaload, 1) := by decide +kernel
theorem D66_120 : pgDecT 66 120 = some (.invokevirtual 102, 3) := by decide +kernel
theorem D66_48 : pgDecT 66 48 = some (.aload_n 0, 1) := by decide +kernel
theorem D66_49 : pgDecT 66 49 = some (.iload_n 2, 1) := by decide +kernel
theorem D66_50 : pgDecT 66 50 = some (.iconst 1, 1) := by decide +kernel
theorem D66_51 : pgDecT 66 51 = some (.iadd, 1) := by decide +kernel
theorem D66_52 : pgDecT 66 52 = some (.aload_n 0, 1) := by decide +kernel
theorem D66_53 : pgDecT 66 53 = some (.getfield 52, 3) := by decide +kernel
theorem D66_56 : pgDecT 66 56 = some (.iload_n 3, 1) := by decide +kernel
theorem D66_57 : pgDecT 66 57 = some (.invokevirtual 70, 3) := by decide +kernel
theorem D66_60 : pgDecT 66 60 = some (.iload_n 2, 1) := by decide +kernel
theorem D66_61 : pgDecT 66 61 = some (.invokevirtual 102, 3) := by decide +kernel
theorem D66_64 : pgDecT 66 64 = some (.goto 59, 3) := by decide +kernel
/-! 66: DictionaryHouse$Typing.layOut (I)V -/
def l66 : Nat → Nat → Mm → Int → Int → Option (Int × Mm)
  | 0, _, _, _, _ => none
  | f + 1, 21, M, x1, x2 => if (M 24 13) ≤ x2 then (some (0, M)) else (if 0 ≤ x2 ∧ x2 < 60 then (f69 M (M 34 (Int.toNat x2))).bind (fun q17 => if ¬ q17 = 3 then (f69 M (M 34 (Int.toNat x2))).bind (fun q23 => if ¬ q23 = 4 then (if rg (x2 + 1) then (l66 f 21 M x1 (x2 + 1)) else none) else (f70 M (M 34 (Int.toNat x2))).bind (fun q30 => if rg (x2 + 1) then (f68 M (x2 + 1) q30 (M 35 (Int.toNat x2))).bind (fun zq36 => (f71 zq36.2 x2).bind (fun q42 => (f72 zq36.2 (M 34 (Int.toNat x2))).bind (fun q47 => (f68 zq36.2 q42 q47 (zq36.2 35 (Int.toNat x2))).bind (fun zq52 => l66 f 21 zq52.2 x1 (x2 + 1))))) else none)) else (f70 M (M 34 (Int.toNat x2))).bind (fun q58 => if rg (x2 + 1) then (f68 M (x2 + 1) q58 x2).bind (fun zq64 => l66 f 21 zq64.2 x1 (x2 + 1)) else none)) else none)
  | _, _, _, _, _ => none
theorem d66 {L : Nat} {xs : Nat → Int32} (f : Nat) : (∀ (M : Mm) (x1 x2 : Int) (h : mvH) (v : Int) (M' : Mm), l66 f 21 M x1 x2 = some (v, M') → rp h M → rg x1 → rg x2 → evx L xs 3 66 21 [(0, .inr (.inr (.inl (some 24)))), (1, .inl (iz x1)), (2, .inl (iz x2))] [] h (.inl none, 0) M') := by
  induction f with
  | zero => exact (fun M x1 x2 h v M' hs _ _ _ => by cases hs)
  | succ f ih =>
    intro M x1 x2 h v M' hs R rx1 rx2
    rw [l66] at hs
    refine evx_F E66 D66_21 rfl rfl ?_
    refine evx_F E66 D66_22 rfl rfl ?_
    refine evx_gfi (k := 13) E66 D66_23 F66_60 H24 rfl R ?_
    by_cases cb14 : (M 24 13) ≤ x2
    · rw [if_pos cb14] at hs
      refine evx_F E66 D66_26 rfl (ifT (c2_ge_T rx2 (R.1 24 13) cb14)) ?_
      cases hs
      exact evx_ret E66 D66_129 rfl (fun d => rfl) rfl trivial R
    · rw [if_neg cb14] at hs
      refine evx_F E66 D66_26 rfl (ifF (c2_ge_F rx2 (R.1 24 13) (by omega))) ?_
      refine evx_F E66 D66_29 rfl rfl ?_
      refine evx_gfr E66 D66_30 F66_18 H24 rfl R ?_
      refine evx_F E66 D66_33 rfl rfl ?_
      obtain ⟨k15, hs⟩ := ck hs
      refine evx_ial E66 D66_34 H34 (by decide) R k15 ?_
      refine evx_F E66 D66_35 rfl rfl ?_
      refine evx_F E66 D66_36 rfl rfl ?_
      refine evx_gfr E66 D66_37 F66_52 H24 rfl R ?_
      refine evx_F E66 D66_40 rfl rfl ?_
      obtain ⟨q17, e16, hs⟩ := Option.bind_eq_some_iff.mp hs
      refine evx_cv (D := 2) E66 D66_41 I66_64 rfl rfl H12 ⟨Nat.le_of_ble_eq_true rfl, Nat.le_of_ble_eq_true rfl⟩ ⟨rfl, Nat.le_of_ble_eq_true rfl⟩ rfl R (evx_up (Nat.le_of_ble_eq_true rfl) (c69 R (R.1 34 (Int.toNat x2)) e16)) ?_
      intro h18 R19 w20
      have w20 : rg q17 := w20
      show evx _ _ _ _ _ _ (.inl (iz q17) :: _) _ _ _
      refine evx_F E66 D66_44 rfl rfl ?_
      by_cases cb21 : ¬ q17 = 3
      · rw [if_pos cb21] at hs
        refine evx_F E66 D66_45 rfl (ifT (c2_ne_T w20 (by decide) cb21)) ?_
        refine evx_F E66 D66_67 rfl rfl ?_
        refine evx_gfr E66 D66_68 F66_52 H24 rfl R19 ?_
        refine evx_F E66 D66_71 rfl rfl ?_
        obtain ⟨q23, e22, hs⟩ := Option.bind_eq_some_iff.mp hs
        refine evx_cv (D := 2) E66 D66_72 I66_64 rfl rfl H12 ⟨Nat.le_of_ble_eq_true rfl, Nat.le_of_ble_eq_true rfl⟩ ⟨rfl, Nat.le_of_ble_eq_true rfl⟩ rfl R19 (evx_up (Nat.le_of_ble_eq_true rfl) (c69 R19 (R.1 34 (Int.toNat x2)) e22)) ?_
        intro h24 R25 w26
        have w26 : rg q23 := w26
        show evx _ _ _ _ _ _ (.inl (iz q23) :: _) _ _ _
        refine evx_F E66 D66_75 rfl rfl ?_
        by_cases cb27 : ¬ q23 = 4
        · rw [if_pos cb27] at hs
          refine evx_F E66 D66_76 rfl (ifT (c2_ne_T w26 (by decide) cb27)) ?_
          refine evx_inc E66 D66_123 (Nat.le_of_ble_eq_true rfl) rfl ?_
          refine evx_F E66 D66_126 rfl rfl ?_
          obtain ⟨k28, hs⟩ := ck hs
          show evx _ _ _ _ _ [(2, .inl (iz (x2 + 1))), (3, .inl (iz (M 34 (Int.toNat x2)))), (0, .inr (.inr (.inl (some 24)))), (1, .inl (iz x1))] _ _ _ _
          exact evx_lv (lvLe_mk (fm rfl (fm rfl (fm rfl fn))) (fm rfl (fm rfl (fm rfl (fm rfl fn)))) (fm rfl (fm rfl (fm rfl fn)))) (ih _ _ _ _ _ _ hs R25 rx1 k28)
        · rw [if_neg cb27] at hs
          refine evx_F E66 D66_76 rfl (ifF (c2_ne_F w26 (by decide) (by omega))) ?_
          refine evx_F E66 D66_79 rfl rfl ?_
          refine evx_F E66 D66_80 rfl rfl ?_
          refine evx_F E66 D66_81 rfl rfl ?_
          refine evx_add E66 D66_82 ?_
          refine evx_F E66 D66_83 rfl rfl ?_
          refine evx_gfr E66 D66_84 F66_52 H24 rfl R25 ?_
          refine evx_F E66 D66_87 rfl rfl ?_
          obtain ⟨q30, e29, hs⟩ := Option.bind_eq_some_iff.mp hs
          refine evx_cv (D := 2) E66 D66_88 I66_70 rfl rfl H12 ⟨Nat.le_of_ble_eq_true rfl, Nat.le_of_ble_eq_true rfl⟩ ⟨rfl, Nat.le_of_ble_eq_true rfl⟩ rfl R25 (evx_up (Nat.le_of_ble_eq_true rfl) (c70 R25 (R.1 34 (Int.toNat x2)) e29)) ?_
          intro h31 R32 w33
          have w33 : rg q30 := w33
          show evx _ _ _ _ _ _ (.inl (iz q30) :: _) _ _ _
          refine evx_F E66 D66_91 rfl rfl ?_
          refine evx_gfr E66 D66_92 F66_22 H24 rfl R32 ?_
          refine evx_F E66 D66_95 rfl rfl ?_
          refine evx_ial E66 D66_96 H35 (by decide) R32 k15 ?_
          obtain ⟨k34, hs⟩ := ck hs
          obtain ⟨⟨q36, M40⟩, e35, hs⟩ := Option.bind_eq_some_iff.mp hs
          dsimp only at hs
          refine evx_cv (D := 2) E66 D66_97 I66_102 rfl rfl H24 ⟨Nat.le_of_ble_eq_true rfl, Nat.le_of_ble_eq_true rfl⟩ ⟨rfl, Nat.le_of_ble_eq_true rfl⟩ rfl R32 (evx_up (Nat.le_of_ble_eq_true rfl) (c68 R32 k34 w33 (R32.1 35 (Int.toNat x2)) e35)) ?_
          intro h37 R38 w39
          refine evx_F E66 D66_100 rfl rfl ?_
          refine evx_F E66 D66_101 rfl rfl ?_
          refine evx_F E66 D66_102 rfl rfl ?_
          obtain ⟨q42, e41, hs⟩ := Option.bind_eq_some_iff.mp hs
          refine evx_cv (D := 2) E66 D66_103 I66_106 rfl rfl H24 ⟨Nat.le_of_ble_eq_true rfl, Nat.le_of_ble_eq_true rfl⟩ ⟨rfl, Nat.le_of_ble_eq_true rfl⟩ rfl R38 (evx_up (Nat.le_of_ble_eq_true rfl) (c71 R38 rx2 e41)) ?_
          intro h43 R44 w45
          have w45 : rg q42 := w45
          show evx _ _ _ _ _ _ (.inl (iz q42) :: _) _ _ _
          refine evx_F E66 D66_106 rfl rfl ?_
          refine evx_gfr E66 D66_107 F66_52 H24 rfl R44 ?_
          refine evx_F E66 D66_110 rfl rfl ?_
          obtain ⟨q47, e46, hs⟩ := Option.bind_eq_some_iff.mp hs
          refine evx_cv (D := 2) E66 D66_111 I66_109 rfl rfl H12 ⟨Nat.le_of_ble_eq_true rfl, Nat.le_of_ble_eq_true rfl⟩ ⟨rfl, Nat.le_of_ble_eq_true rfl⟩ rfl R44 (evx_up (Nat.le_of_ble_eq_true rfl) (c72 R44 (R.1 34 (Int.toNat x2)) e46)) ?_
          intro h48 R49 w50
          have w50 : rg q47 := w50
          show evx _ _ _ _ _ _ (.inl (iz q47) :: _) _ _ _
          refine evx_F E66 D66_114 rfl rfl ?_
          refine evx_gfr E66 D66_115 F66_22 H24 rfl R49 ?_
          refine evx_F E66 D66_118 rfl rfl ?_
          refine evx_ial E66 D66_119 H35 (by decide) R49 k15 ?_
          obtain ⟨⟨q52, M56⟩, e51, hs⟩ := Option.bind_eq_some_iff.mp hs
          dsimp only at hs
          refine evx_cv (D := 2) E66 D66_120 I66_102 rfl rfl H24 ⟨Nat.le_of_ble_eq_true rfl, Nat.le_of_ble_eq_true rfl⟩ ⟨rfl, Nat.le_of_ble_eq_true rfl⟩ rfl R49 (evx_up (Nat.le_of_ble_eq_true rfl) (c68 R49 w45 w50 (R49.1 35 (Int.toNat x2)) e51)) ?_
          intro h53 R54 w55
          refine evx_inc E66 D66_123 (Nat.le_of_ble_eq_true rfl) rfl ?_
          refine evx_F E66 D66_126 rfl rfl ?_
          show evx _ _ _ _ _ [(2, .inl (iz (x2 + 1))), (3, .inl (iz (M 34 (Int.toNat x2)))), (0, .inr (.inr (.inl (some 24)))), (1, .inl (iz x1))] _ _ _ _
          exact evx_lv (lvLe_mk (fm rfl (fm rfl (fm rfl fn))) (fm rfl (fm rfl (fm rfl (fm rfl fn)))) (fm rfl (fm rfl (fm rfl fn)))) (ih _ _ _ _ _ _ hs R54 rx1 k34)
      · rw [if_neg cb21] at hs
        refine evx_F E66 D66_45 rfl (ifF (c2_ne_F w20 (by decide) (by omega))) ?_
        refine evx_F E66 D66_48 rfl rfl ?_
        refine evx_F E66 D66_49 rfl rfl ?_
        refine evx_F E66 D66_50 rfl rfl ?_
        refine evx_add E66 D66_51 ?_
        refine evx_F E66 D66_52 rfl rfl ?_
        refine evx_gfr E66 D66_53 F66_52 H24 rfl R19 ?_
        refine evx_F E66 D66_56 rfl rfl ?_
        obtain ⟨q58, e57, hs⟩ := Option.bind_eq_some_iff.mp hs
        refine evx_cv (D := 2) E66 D66_57 I66_70 rfl rfl H12 ⟨Nat.le_of_ble_eq_true rfl, Nat.le_of_ble_eq_true rfl⟩ ⟨rfl, Nat.le_of_ble_eq_true rfl⟩ rfl R19 (evx_up (Nat.le_of_ble_eq_true rfl) (c70 R19 (R.1 34 (Int.toNat x2)) e57)) ?_
        intro h59 R60 w61
        have w61 : rg q58 := w61
        show evx _ _ _ _ _ _ (.inl (iz q58) :: _) _ _ _
        refine evx_F E66 D66_60 rfl rfl ?_
        obtain ⟨k62, hs⟩ := ck hs
        obtain ⟨⟨q64, M68⟩, e63, hs⟩ := Option.bind_eq_some_iff.mp hs
        dsimp only at hs
        refine evx_cv (D := 2) E66 D66_61 I66_102 rfl rfl H24 ⟨Nat.le_of_ble_eq_true rfl, Nat.le_of_ble_eq_true rfl⟩ ⟨rfl, Nat.le_of_ble_eq_true rfl⟩ rfl R60 (evx_up (Nat.le_of_ble_eq_true rfl) (c68 R60 k62 w61 rx2 e63)) ?_
        intro h65 R66 w67
        refine evx_F E66 D66_64 rfl rfl ?_
        refine evx_inc E66 D66_123 (Nat.le_of_ble_eq_true rfl) rfl ?_
        refine evx_F E66 D66_126 rfl rfl ?_
        show evx _ _ _ _ _ [(2, .inl (iz (x2 + 1))), (3, .inl (iz (M 34 (Int.toNat x2)))), (0, .inr (.inr (.inl (some 24)))), (1, .inl (iz x1))] _ _ _ _
        exact evx_lv (lvLe_mk (fm rfl (fm rfl (fm rfl fn))) (fm rfl (fm rfl (fm rfl (fm rfl fn)))) (fm rfl (fm rfl (fm rfl fn)))) (ih _ _ _ _ _ _ hs R66 rx1 k62)
def f66 (M : Mm) (x1 : Int) : Option (Int × Mm) := (f67 M x1).bind (fun q2 => (f68 (up M 24 13 q2) 0 x1 (-1)).bind (fun zq9 => l66 FU 21 zq9.2 x1 0))
theorem c66 {L : Nat} {xs : Nat → Int32} {h : mvH} {M : Mm} {x1 : Int} {v : Int} {M' : Mm} (R : rp h M) (rx1 : rg x1) (hs : f66 M x1 = some (v, M')) : evx L xs 3 66 0 [(0, .inr (.inr (.inl (some 24)))), (1, .inl (iz x1))] [] h (.inl none, 0) M' := by
  unfold f66 at hs
  refine evx_F E66 D66_0 rfl rfl ?_
  refine evx_F E66 D66_1 rfl rfl ?_
  refine evx_gfr E66 D66_2 F66_52 H24 rfl R ?_
  refine evx_F E66 D66_5 rfl rfl ?_
  obtain ⟨q2, e1, hs⟩ := Option.bind_eq_some_iff.mp hs
  refine evx_cv (D := 2) E66 D66_6 I66_100 rfl rfl H12 ⟨Nat.le_of_ble_eq_true rfl, Nat.le_of_ble_eq_true rfl⟩ ⟨rfl, Nat.le_of_ble_eq_true rfl⟩ rfl R (evx_up (Nat.le_of_ble_eq_true rfl) (c67 R rx1 e1)) ?_
  intro h3 R4 w5
  have w5 : rg q2 := w5
  show evx _ _ _ _ _ _ (.inl (iz q2) :: _) _ _ _
  refine evx_pfi (k := 13) E66 D66_9 F66_60 H24 rfl R4 w5 rfl ?_
  intro h6 R7
  refine evx_F E66 D66_12 rfl rfl ?_
  refine evx_F E66 D66_13 rfl rfl ?_
  refine evx_F E66 D66_14 rfl rfl ?_
  refine evx_F E66 D66_15 rfl rfl ?_
  obtain ⟨⟨q9, M13⟩, e8, hs⟩ := Option.bind_eq_some_iff.mp hs
  dsimp only at hs
  refine evx_cv (D := 2) E66 D66_16 I66_102 rfl rfl H24 ⟨Nat.le_of_ble_eq_true rfl, Nat.le_of_ble_eq_true rfl⟩ ⟨rfl, Nat.le_of_ble_eq_true rfl⟩ rfl R7 (evx_up (Nat.le_of_ble_eq_true rfl) (c68 R7 (by decide) rx1 (by decide) e8)) ?_
  intro h10 R11 w12
  refine evx_F E66 D66_19 rfl rfl ?_
  refine evx_F E66 D66_20 rfl rfl ?_
  show evx _ _ _ _ _ [(2, .inl (iz 0)), (0, .inr (.inr (.inl (some 24)))), (1, .inl (iz x1))] _ _ _ _
  exact evx_lv (lvLe_mk (fm rfl (fm rfl (fm rfl fn))) (fm rfl (fm rfl (fm rfl fn))) (fm rfl (fm rfl (fm rfl fn)))) ((d66 FU) _ _ _ _ _ _ hs R11 rx1 (by decide))
set_option maxRecDepth 20000 in
theorem E73 : pgMm 73 = some (⟨"DictionaryHouse$Graph", "clear", "()V"⟩, prog_7_method_2_code, 1, none, []) := rfl
theorem D73_0 : pgDecT 73 0 = some (.aload_n 0, 1) := by decide +kernel
theorem D73_1 : pgDecT 73 1 = some (.iconst 0, 1) := by decide +kernel
theorem D73_2 : pgDecT 73 2 = some (.putfield 36, 3) := by decide +kernel
theorem F73_36 : pgFf 73 36 = some (5, 8, 0) := by decide +kernel
theorem D73_5 : pgDecT 73 5 = some (.aload_n 0, 1) := by decide +kernel
theorem D73_6 : pgDecT 73 6 = some (.iconst 0, 1) := by decide +kernel
theorem D73_7 : pgDecT 73 7 = some (.iconst (-1), 1) := by decide +kernel
theorem D73_8 : pgDecT 73 8 = some (.iconst (-1), 1) := by decide +kernel
theorem D73_9 : pgDecT 73 9 = some (.invokevirtual 40, 3) := by decide +kernel
theorem I73_40 : pgIi 73 40 = some (74, 3, 5) := by decide +kernel
theorem D73_12 : pgDecT 73 12 = some (.pop, 1) := by decide +kernel
theorem D73_13 : pgDecT 73 13 = some (.aload_n 0, 1) := by decide +kernel
theorem D73_14 : pgDecT 73 14 = some (.iconst 1, 1) := by decide +kernel
theorem D73_15 : pgDecT 73 15 = some (.iconst (-1), 1) := by decide +kernel
theorem D73_16 : pgDecT 73 16 = some (.iconst (-1), 1) := by decide +kernel
theorem D73_17 : pgDecT 73 17 = some (.invokevirtual 40, 3) := by decide +kernel
theorem D73_20 : pgDecT 73 20 = some (.pop, 1) := by decide +kernel
theorem D73_21 : pgDecT 73 21 = some (.return_, 1) := by decide +kernel
/-! 73: DictionaryHouse$Graph.clear ()V -/
def f73 (M : Mm) : Option (Int × Mm) := (f74 (up M 25 8 0) 0 (-1) (-1)).bind (fun zq4 => (f74 zq4.2 1 (-1) (-1)).bind (fun zq10 => some (0, zq10.2)))
theorem c73 {L : Nat} {xs : Nat → Int32} {h : mvH} {M : Mm} {v : Int} {M' : Mm} (R : rp h M)  (hs : f73 M  = some (v, M')) : evx L xs 2 73 0 [(0, .inr (.inr (.inl (some 25))))] [] h (.inl none, 0) M' := by
  unfold f73 at hs
  refine evx_F E73 D73_0 rfl rfl ?_
  refine evx_F E73 D73_1 rfl rfl ?_
  refine evx_pfi (k := 8) E73 D73_2 F73_36 H25 rfl R (by decide) rfl ?_
  intro h1 R2
  refine evx_F E73 D73_5 rfl rfl ?_
  refine evx_F E73 D73_6 rfl rfl ?_
  refine evx_F E73 D73_7 rfl rfl ?_
  refine evx_F E73 D73_8 rfl rfl ?_
  obtain ⟨⟨q4, M8⟩, e3, hs⟩ := Option.bind_eq_some_iff.mp hs
  dsimp only at hs
  refine evx_cv (D := 1) E73 D73_9 I73_40 rfl rfl H25 ⟨Nat.le_of_ble_eq_true rfl, Nat.le_of_ble_eq_true rfl⟩ ⟨rfl, Nat.le_of_ble_eq_true rfl⟩ rfl R2 (evx_up (Nat.le_of_ble_eq_true rfl) (c74 R2 (by decide) (by decide) (by decide) e3)) ?_
  intro h5 R6 w7
  have w7 : rg q4 := w7
  show evx _ _ _ _ _ _ (.inl (iz q4) :: _) _ _ _
  refine evx_F E73 D73_12 rfl rfl ?_
  refine evx_F E73 D73_13 rfl rfl ?_
  refine evx_F E73 D73_14 rfl rfl ?_
  refine evx_F E73 D73_15 rfl rfl ?_
  refine evx_F E73 D73_16 rfl rfl ?_
  obtain ⟨⟨q10, M14⟩, e9, hs⟩ := Option.bind_eq_some_iff.mp hs
  dsimp only at hs
  refine evx_cv (D := 1) E73 D73_17 I73_40 rfl rfl H25 ⟨Nat.le_of_ble_eq_true rfl, Nat.le_of_ble_eq_true rfl⟩ ⟨rfl, Nat.le_of_ble_eq_true rfl⟩ rfl R6 (evx_up (Nat.le_of_ble_eq_true rfl) (c74 R6 (by decide) (by decide) (by decide) e9)) ?_
  intro h11 R12 w13
  have w13 : rg q10 := w13
  show evx _ _ _ _ _ _ (.inl (iz q10) :: _) _ _ _
  refine evx_F E73 D73_20 rfl rfl ?_
  cases hs
  exact evx_ret E73 D73_21 rfl (fun d => rfl) rfl trivial R12
set_option maxRecDepth 20000 in
theorem E79 : pgMm 79 = some (⟨"DictionaryHouse$Graph", "join", "(II)Z"⟩, prog_7_method_10_code, 7, (some .boolean), []) := rfl
theorem D79_0 : pgDecT 79 0 = some (.aload_n 0, 1) := by decide +kernel
theorem D79_1 : pgDecT 79 1 = some (.getfield 33, 3) := by decide +kernel
theorem F79_33 : pgFf 79 33 = some (5, 7, 3) := by decide +kernel
theorem D79_4 : pgDecT 79 4 = some (.iconst 0, 1) := by decide +kernel
theorem D79_5 : pgDecT 79 5 = some (.iload_n 1, 1) := by decide +kernel
theorem D79_6 : pgDecT 79 6 = some (.iastore, 1) := by decide +kernel
theorem D79_7 : pgDecT 79 7 = some (.aload_n 0, 1) := by decide +kernel
theorem D79_8 : pgDecT 79 8 = some (.getfield 33, 3) := by decide +kernel
theorem D79_11 : pgDecT 79 11 = some (.iconst 1, 1) := by decide +kernel
theorem D79_12 : pgDecT 79 12 = some (.iload_n 2, 1) := by decide +kernel
theorem D79_13 : pgDecT 79 13 = some (.iastore, 1) := by decide +kernel
theorem D79_14 : pgDecT 79 14 = some (.iconst 2, 1) := by decide +kernel
theorem D79_15 : pgDecT 79 15 = some (.istore_n 3, 1) := by decide +kernel
theorem D79_16 : pgDecT 79 16 = some (.iconst 0, 1) := by decide +kernel
theorem D79_17 : pgDecT 79 17 = some (.istore 4, 2) := by decide +kernel
theorem D79_19 : pgDecT 79 19 = some (.iload_n 3, 1) := by decide +kernel
theorem D79_20 : pgDecT 79 20 = some (.ifCond .le 140, 3) := by decide +kernel
theorem D79_160 : pgDecT 79 160 = some (.iconst 1, 1) := by decide +kernel
theorem D79_161 : pgDecT 79 161 = some (.ireturn, 1) := by decide +kernel
theorem D79_23 : pgDecT 79 23 = some (.iload 4, 2) := by decide +kernel
theorem D79_25 : pgDecT 79 25 = some (.sipush 5008, 3) := by decide +kernel
theorem D79_28 : pgDecT 79 28 = some (.if_icmp .gt 132, 3) := by decide +kernel
theorem D79_31 : pgDecT 79 31 = some (.iinc 3 (-2), 3) := by decide +kernel
theorem D79_34 : pgDecT 79 34 = some (.aload_n 0, 1) := by decide +kernel
theorem D79_35 : pgDecT 79 35 = some (.aload_n 0, 1) := by decide +kernel
theorem D79_36 : pgDecT 79 36 = some (.getfield 33, 3) := by decide +kernel
theorem D79_39 : pgDecT 79 39 = some (.iload_n 3, 1) := by decide +kernel
theorem D79_40 : pgDecT 79 40 = some (.iaload, 1) := by decide +kernel
theorem D79_41 : pgDecT 79 41 = some (.invokevirtual 44, 3) := by decide +kernel
theorem I79_44 : pgIi 79 44 = some (80, 1, 5) := by decide +kernel
theorem D79_44 : pgDecT 79 44 = some (.istore 5, 2) := by decide +kernel
theorem D79_46 : pgDecT 79 46 = some (.aload_n 0, 1) := by decide +kernel
theorem D79_47 : pgDecT 79 47 = some (.aload_n 0, 1) := by decide +kernel
theorem D79_48 : pgDecT 79 48 = some (.getfield 33, 3) := by decide +kernel
theorem D79_51 : pgDecT 79 51 = some (.iload_n 3, 1) := by decide +kernel
theorem D79_52 : pgDecT 79 52 = some (.iconst 1, 1) := by decide +kernel
theorem D79_53 : pgDecT 79 53 = some (.iadd, 1) := by decide +kernel
theorem D79_54 : pgDecT 79 54 = some (.iaload, 1) := by decide +kernel
theorem D79_55 : pgDecT 79 55 = some (.invokevirtual 44, 3) := by decide +kernel
theorem D79_58 : pgDecT 79 58 = some (.istore 6, 2) := by decide +kernel
theorem D79_60 : pgDecT 79 60 = some (.iload 5, 2) := by decide +kernel
theorem D79_62 : pgDecT 79 62 = some (.iload 6, 2) := by decide +kernel
theorem D79_64 : pgDecT 79 64 = some (.if_icmp .ne 6, 3) := by decide +kernel
theorem D79_70 : pgDecT 79 70 = some (.aload_n 0, 1) := by decide +kernel
theorem D79_71 : pgDecT 79 71 = some (.getfield 11, 3) := by decide +kernel
theorem F79_11 : pgFf 79 11 = some (5, 0, 3) := by decide +kernel
theorem D79_74 : pgDecT 79 74 = some (.iload 5, 2) := by decide +kernel
theorem D79_76 : pgDecT 79 76 = some (.iaload, 1) := by decide +kernel
theorem D79_77 : pgDecT 79 77 = some (.iconst 2, 1) := by decide +kernel
theorem D79_78 : pgDecT 79 78 = some (.if_icmp .ne 15, 3) := by decide +kernel
theorem D79_93 : pgDecT 79 93 = some (.aload_n 0, 1) := by decide +kernel
theorem D79_94 : pgDecT 79 94 = some (.getfield 11, 3) := by decide +kernel
theorem D79_97 : pgDecT 79 97 = some (.iload 6, 2) := by decide +kernel
theorem D79_99 : pgDecT 79 99 = some (.iaload, 1) := by decide +kernel
theorem D79_100 : pgDecT 79 100 = some (.iconst 2, 1) := by decide +kernel
theorem D79_101 : pgDecT 79 101 = some (.if_icmp .ne 15, 3) := by decide +kernel
theorem D79_116 : pgDecT 79 116 = some (.aload_n 0, 1) := by decide +kernel
theorem D79_117 : pgDecT 79 117 = some (.getfield 11, 3) := by decide +kernel
theorem D79_120 : pgDecT 79 120 = some (.iload 5, 2) := by decide +kernel
theorem D79_122 : pgDecT 79 122 = some (.iaload, 1) := by decide +kernel
theorem D79_123 : pgDecT 79 123 = some (.aload_n 0, 1) := by decide +kernel
theorem D79_124 : pgDecT 79 124 = some (.getfield 11, 3) := by decide +kernel
theorem D79_127 : pgDecT 79 127 = some (.iload 6, 2) := by decide +kernel
theorem D79_129 : pgDecT 79 129 = some (.iaload, 1) := by decide +kernel
theorem D79_130 : pgDecT 79 130 = some (.if_icmp .eq 5, 3) := by decide +kernel
theorem D79_135 : pgDecT 79 135 = some (.aload_n 0, 1) := by decide +kernel
theorem D79_136 : pgDecT 79 136 = some (.getfield 21, 3) := by decide +kernel
theorem F79_21 : pgFf 79 21 = some (5, 3, 3) := by decide +kernel
theorem D79_139 : pgDecT 79 139 = some (.iload 5, 2) := by decide +kernel
theorem D79_141 : pgDecT 79 141 = some (.iload 6, 2) := by decide +kernel
theorem D79_143 : pgDecT 79 143 = some (.iastore, 1) := by decide +kernel
theorem D79_144 : pgDecT 79 144 = some (.aload_n 0, 1) := by decide +kernel
theorem D79_145 : pgDecT 79 145 = some (.iload 5, 2) := by decide +kernel
theorem D79_147 : pgDecT 79 147 = some (.iload 6, 2) := by decide +kernel
theorem D79_149 : pgDecT 79 149 = some (.iload_n 3, 1) := by decide +kernel
theorem D79_150 : pgDecT 79 150 = some (.invokevirtual 48, 3) := by decide +kernel
theorem I79_48 : pgIi 79 48 = some (81, 3, 5) := by decide +kernel
theorem D79_153 : pgDecT 79 153 = some (.istore_n 3, 1) := by decide +kernel
theorem D79_154 : pgDecT 79 154 = some (.iinc 4 1, 3) := by decide +kernel
theorem D79_157 : pgDecT 79 157 = some (.goto (-138), 3) := by decide +kernel
theorem D79_133 : pgDecT 79 133 = some (.iconst 0, 1) := by decide +kernel
theorem D79_134 : pgDecT 79 134 = some (.ireturn, 1) := by decide +kernel
theorem D79_104 : pgDecT 79 104 = some (.aload_n 0, 1) := by decide +kernel
theorem D79_105 : pgDecT 79 105 = some (.getfield 21, 3) := by decide +kernel
theorem D79_108 : pgDecT 79 108 = some (.iload 6, 2) := by decide +kernel
theorem D79_110 : pgDecT 79 110 = some (.iload 5, 2) := by decide +kernel
theorem D79_112 : pgDecT 79 112 = some (.iastore, 1) := by decide +kernel
theorem D79_113 : pgDecT 79 113 = some (.goto 41, 3) := by decide +kernel
theorem D79_81 : pgDecT 79 81 = some (.aload_n 0, 1) := by decide +kernel
theorem D79_82 : pgDecT 79 82 = some (.getfield 21, 3) := by decide +kernel
theorem D79_85 : pgDecT 79 85 = some (.iload 5, 2) := by decide +kernel
theorem D79_87 : pgDecT 79 87 = some (.iload 6, 2) := by decide +kernel
theorem D79_89 : pgDecT 79 89 = some (.iastore, 1) := by decide +kernel
theorem D79_90 : pgDecT 79 90 = some (.goto 64, 3) := by decide +kernel
theorem D79_67 : pgDecT 79 67 = some (.goto 87, 3) := by decide +kernel
/-! 79: DictionaryHouse$Graph.join (II)Z -/
def l79 : Nat → Nat → Mm → Int → Int → Int → Int → Option (Int × Mm)
  | 0, _, _, _, _, _, _ => none
  | f + 1, 19, M, x1, x2, x3, x4 => if x3 ≤ 0 then (some (1, M)) else (if 5008 < x4 then (some (1, M)) else (if 0 ≤ (x3 + (-2)) ∧ (x3 + (-2)) < 5012 then (f80 M (M 33 (Int.toNat (x3 + (-2))))).bind (fun zq9 => if 0 ≤ ((x3 + (-2)) + 1) ∧ ((x3 + (-2)) + 1) < 5012 then (f80 zq9.2 (zq9.2 33 (Int.toNat ((x3 + (-2)) + 1)))).bind (fun zq16 => if ¬ zq9.1 = zq16.1 then (if 0 ≤ zq9.1 ∧ zq9.1 < 2504 then (if ¬ (zq16.2 26 (Int.toNat zq9.1)) = 2 then (if 0 ≤ zq16.1 ∧ zq16.1 < 2504 then (if ¬ (zq16.2 26 (Int.toNat zq16.1)) = 2 then (if (zq16.2 26 (Int.toNat zq9.1)) = (zq16.2 26 (Int.toNat zq16.1)) then (if rg (x3 + (-2)) then (f81 (up zq16.2 29 (Int.toNat zq9.1) zq16.1) zq9.1 zq16.1 (x3 + (-2))).bind (fun zq31 => if rg (x4 + 1) then (l79 f 19 zq31.2 x1 x2 zq31.1 (x4 + 1)) else none) else none) else (some (0, zq16.2))) else (if rg (x3 + (-2)) then (if rg (x4 + 1) then (l79 f 19 (up zq16.2 29 (Int.toNat zq16.1) zq9.1) x1 x2 (x3 + (-2)) (x4 + 1)) else none) else none)) else none) else (if rg (x3 + (-2)) then (if rg (x4 + 1) then (l79 f 19 (up zq16.2 29 (Int.toNat zq9.1) zq16.1) x1 x2 (x3 + (-2)) (x4 + 1)) else none) else none)) else none) else (if rg (x3 + (-2)) then (if rg (x4 + 1) then (l79 f 19 zq16.2 x1 x2 (x3 + (-2)) (x4 + 1)) else none) else none)) else none) else none))
  | _, _, _, _, _, _, _ => none
theorem d79 {L : Nat} {xs : Nat → Int32} (f : Nat) : (∀ (M : Mm) (x1 x2 x3 x4 : Int) (h : mvH) (v : Int) (M' : Mm), l79 f 19 M x1 x2 x3 x4 = some (v, M') → rp h M → rg x1 → rg x2 → rg x3 → rg x4 → evx L xs 2 79 19 [(0, .inr (.inr (.inl (some 25)))), (1, .inl (iz x1)), (2, .inl (iz x2)), (3, .inl (iz x3)), (4, .inl (iz x4))] [] h (.inl (some (.inl v)), 0) M') := by
  induction f with
  | zero => exact (fun M x1 x2 x3 x4 h v M' hs _ _ _ _ _ => by cases hs)
  | succ f ih =>
    intro M x1 x2 x3 x4 h v M' hs R rx1 rx2 rx3 rx4
    rw [l79] at hs
    refine evx_F E79 D79_19 rfl rfl ?_
    by_cases cb5 : x3 ≤ 0
    · rw [if_pos cb5] at hs
      refine evx_F E79 D79_20 rfl (ifT (c1_le_T rx3 cb5)) ?_
      refine evx_F E79 D79_160 rfl rfl ?_
      cases hs
      exact evx_ret E79 D79_161 rfl (fun d => rfl) rfl (show rg _ from (by decide)) R
    · rw [if_neg cb5] at hs
      refine evx_F E79 D79_20 rfl (ifF (c1_le_F rx3 (by omega))) ?_
      refine evx_F E79 D79_23 rfl rfl ?_
      refine evx_k (k := 5008) E79 D79_25 rfl (by decide) ?_
      by_cases cb6 : 5008 < x4
      · rw [if_pos cb6] at hs
        refine evx_F E79 D79_28 rfl (ifT (c2_gt_T rx4 (by decide) cb6)) ?_
        refine evx_F E79 D79_160 rfl rfl ?_
        cases hs
        exact evx_ret E79 D79_161 rfl (fun d => rfl) rfl (show rg _ from (by decide)) R
      · rw [if_neg cb6] at hs
        refine evx_F E79 D79_28 rfl (ifF (c2_gt_F rx4 (by decide) (by omega))) ?_
        refine evx_inc E79 D79_31 (Nat.le_of_ble_eq_true rfl) rfl ?_
        refine evx_F E79 D79_34 rfl rfl ?_
        refine evx_F E79 D79_35 rfl rfl ?_
        refine evx_gfr E79 D79_36 F79_33 H25 rfl R ?_
        refine evx_F E79 D79_39 rfl rfl ?_
        obtain ⟨k7, hs⟩ := ck hs
        refine evx_ial E79 D79_40 H33 (by decide) R k7 ?_
        obtain ⟨⟨q9, M13⟩, e8, hs⟩ := Option.bind_eq_some_iff.mp hs
        dsimp only at hs
        refine evx_cv (D := 1) E79 D79_41 I79_44 rfl rfl H25 ⟨Nat.le_of_ble_eq_true rfl, Nat.le_of_ble_eq_true rfl⟩ ⟨rfl, Nat.le_of_ble_eq_true rfl⟩ rfl R (evx_up (Nat.le_of_ble_eq_true rfl) (c80 R (R.1 33 (Int.toNat (x3 + (-2)))) e8)) ?_
        intro h10 R11 w12
        have w12 : rg q9 := w12
        show evx _ _ _ _ _ _ (.inl (iz q9) :: _) _ _ _
        refine evx_F E79 D79_44 rfl rfl ?_
        refine evx_F E79 D79_46 rfl rfl ?_
        refine evx_F E79 D79_47 rfl rfl ?_
        refine evx_gfr E79 D79_48 F79_33 H25 rfl R11 ?_
        refine evx_F E79 D79_51 rfl rfl ?_
        refine evx_F E79 D79_52 rfl rfl ?_
        refine evx_add E79 D79_53 ?_
        obtain ⟨k14, hs⟩ := ck hs
        refine evx_ial E79 D79_54 H33 (by decide) R11 k14 ?_
        obtain ⟨⟨q16, M20⟩, e15, hs⟩ := Option.bind_eq_some_iff.mp hs
        dsimp only at hs
        refine evx_cv (D := 1) E79 D79_55 I79_44 rfl rfl H25 ⟨Nat.le_of_ble_eq_true rfl, Nat.le_of_ble_eq_true rfl⟩ ⟨rfl, Nat.le_of_ble_eq_true rfl⟩ rfl R11 (evx_up (Nat.le_of_ble_eq_true rfl) (c80 R11 (R11.1 33 (Int.toNat ((x3 + (-2)) + 1))) e15)) ?_
        intro h17 R18 w19
        have w19 : rg q16 := w19
        show evx _ _ _ _ _ _ (.inl (iz q16) :: _) _ _ _
        refine evx_F E79 D79_58 rfl rfl ?_
        refine evx_F E79 D79_60 rfl rfl ?_
        refine evx_F E79 D79_62 rfl rfl ?_
        by_cases cb21 : ¬ q9 = q16
        · rw [if_pos cb21] at hs
          refine evx_F E79 D79_64 rfl (ifT (c2_ne_T w12 w19 cb21)) ?_
          refine evx_F E79 D79_70 rfl rfl ?_
          refine evx_gfr E79 D79_71 F79_11 H25 rfl R18 ?_
          refine evx_F E79 D79_74 rfl rfl ?_
          obtain ⟨k22, hs⟩ := ck hs
          refine evx_ial E79 D79_76 H26 (by decide) R18 k22 ?_
          refine evx_F E79 D79_77 rfl rfl ?_
          by_cases cb23 : ¬ (M20 26 (Int.toNat q9)) = 2
          · rw [if_pos cb23] at hs
            refine evx_F E79 D79_78 rfl (ifT (c2_ne_T (R18.1 26 (Int.toNat q9)) (by decide) cb23)) ?_
            refine evx_F E79 D79_93 rfl rfl ?_
            refine evx_gfr E79 D79_94 F79_11 H25 rfl R18 ?_
            refine evx_F E79 D79_97 rfl rfl ?_
            obtain ⟨k24, hs⟩ := ck hs
            refine evx_ial E79 D79_99 H26 (by decide) R18 k24 ?_
            refine evx_F E79 D79_100 rfl rfl ?_
            by_cases cb25 : ¬ (M20 26 (Int.toNat q16)) = 2
            · rw [if_pos cb25] at hs
              refine evx_F E79 D79_101 rfl (ifT (c2_ne_T (R18.1 26 (Int.toNat q16)) (by decide) cb25)) ?_
              refine evx_F E79 D79_116 rfl rfl ?_
              refine evx_gfr E79 D79_117 F79_11 H25 rfl R18 ?_
              refine evx_F E79 D79_120 rfl rfl ?_
              refine evx_ial E79 D79_122 H26 (by decide) R18 k22 ?_
              refine evx_F E79 D79_123 rfl rfl ?_
              refine evx_gfr E79 D79_124 F79_11 H25 rfl R18 ?_
              refine evx_F E79 D79_127 rfl rfl ?_
              refine evx_ial E79 D79_129 H26 (by decide) R18 k24 ?_
              by_cases cb26 : (M20 26 (Int.toNat q9)) = (M20 26 (Int.toNat q16))
              · rw [if_pos cb26] at hs
                refine evx_F E79 D79_130 rfl (ifT (c2_eq_T (R18.1 26 (Int.toNat q9)) (R18.1 26 (Int.toNat q16)) cb26)) ?_
                refine evx_F E79 D79_135 rfl rfl ?_
                refine evx_gfr E79 D79_136 F79_21 H25 rfl R18 ?_
                refine evx_F E79 D79_139 rfl rfl ?_
                refine evx_F E79 D79_141 rfl rfl ?_
                refine evx_ias E79 D79_143 H29 (by decide) R18 k22 w19 ?_
                intro h27 R28
                refine evx_F E79 D79_144 rfl rfl ?_
                refine evx_F E79 D79_145 rfl rfl ?_
                refine evx_F E79 D79_147 rfl rfl ?_
                refine evx_F E79 D79_149 rfl rfl ?_
                obtain ⟨k29, hs⟩ := ck hs
                obtain ⟨⟨q31, M35⟩, e30, hs⟩ := Option.bind_eq_some_iff.mp hs
                dsimp only at hs
                refine evx_cv (D := 1) E79 D79_150 I79_48 rfl rfl H25 ⟨Nat.le_of_ble_eq_true rfl, Nat.le_of_ble_eq_true rfl⟩ ⟨rfl, Nat.le_of_ble_eq_true rfl⟩ rfl R28 (evx_up (Nat.le_of_ble_eq_true rfl) (c81 R28 w12 w19 k29 e30)) ?_
                intro h32 R33 w34
                have w34 : rg q31 := w34
                show evx _ _ _ _ _ _ (.inl (iz q31) :: _) _ _ _
                refine evx_F E79 D79_153 rfl rfl ?_
                refine evx_inc E79 D79_154 (Nat.le_of_ble_eq_true rfl) rfl ?_
                refine evx_F E79 D79_157 rfl rfl ?_
                obtain ⟨k36, hs⟩ := ck hs
                show evx _ _ _ _ _ [(4, .inl (iz (x4 + 1))), (3, .inl (iz q31)), (6, .inl (iz q16)), (5, .inl (iz q9)), (0, .inr (.inr (.inl (some 25)))), (1, .inl (iz x1)), (2, .inl (iz x2))] _ _ _ _
                exact evx_lv (lvLe_mk (fm rfl (fm rfl (fm rfl (fm rfl (fm rfl fn))))) (fm rfl (fm rfl (fm rfl (fm rfl (fm rfl (fm rfl (fm rfl fn))))))) (fm rfl (fm rfl (fm rfl (fm rfl (fm rfl fn)))))) (ih _ _ _ _ _ _ _ _ hs R33 rx1 rx2 w34 k36)
              · rw [if_neg cb26] at hs
                refine evx_F E79 D79_130 rfl (ifF (c2_eq_F (R18.1 26 (Int.toNat q9)) (R18.1 26 (Int.toNat q16)) (by omega))) ?_
                refine evx_F E79 D79_133 rfl rfl ?_
                cases hs
                exact evx_ret E79 D79_134 rfl (fun d => rfl) rfl (show rg _ from (by decide)) R18
            · rw [if_neg cb25] at hs
              refine evx_F E79 D79_101 rfl (ifF (c2_ne_F (R18.1 26 (Int.toNat q16)) (by decide) (by omega))) ?_
              refine evx_F E79 D79_104 rfl rfl ?_
              refine evx_gfr E79 D79_105 F79_21 H25 rfl R18 ?_
              refine evx_F E79 D79_108 rfl rfl ?_
              refine evx_F E79 D79_110 rfl rfl ?_
              refine evx_ias E79 D79_112 H29 (by decide) R18 k24 w12 ?_
              intro h37 R38
              refine evx_F E79 D79_113 rfl rfl ?_
              refine evx_inc E79 D79_154 (Nat.le_of_ble_eq_true rfl) rfl ?_
              refine evx_F E79 D79_157 rfl rfl ?_
              obtain ⟨k39, hs⟩ := ck hs
              obtain ⟨k40, hs⟩ := ck hs
              show evx _ _ _ _ _ [(4, .inl (iz (x4 + 1))), (6, .inl (iz q16)), (5, .inl (iz q9)), (3, .inl (iz (x3 + (-2)))), (0, .inr (.inr (.inl (some 25)))), (1, .inl (iz x1)), (2, .inl (iz x2))] _ _ _ _
              exact evx_lv (lvLe_mk (fm rfl (fm rfl (fm rfl (fm rfl (fm rfl fn))))) (fm rfl (fm rfl (fm rfl (fm rfl (fm rfl (fm rfl (fm rfl fn))))))) (fm rfl (fm rfl (fm rfl (fm rfl (fm rfl fn)))))) (ih _ _ _ _ _ _ _ _ hs R38 rx1 rx2 k39 k40)
          · rw [if_neg cb23] at hs
            refine evx_F E79 D79_78 rfl (ifF (c2_ne_F (R18.1 26 (Int.toNat q9)) (by decide) (by omega))) ?_
            refine evx_F E79 D79_81 rfl rfl ?_
            refine evx_gfr E79 D79_82 F79_21 H25 rfl R18 ?_
            refine evx_F E79 D79_85 rfl rfl ?_
            refine evx_F E79 D79_87 rfl rfl ?_
            refine evx_ias E79 D79_89 H29 (by decide) R18 k22 w19 ?_
            intro h41 R42
            refine evx_F E79 D79_90 rfl rfl ?_
            refine evx_inc E79 D79_154 (Nat.le_of_ble_eq_true rfl) rfl ?_
            refine evx_F E79 D79_157 rfl rfl ?_
            obtain ⟨k43, hs⟩ := ck hs
            obtain ⟨k44, hs⟩ := ck hs
            show evx _ _ _ _ _ [(4, .inl (iz (x4 + 1))), (6, .inl (iz q16)), (5, .inl (iz q9)), (3, .inl (iz (x3 + (-2)))), (0, .inr (.inr (.inl (some 25)))), (1, .inl (iz x1)), (2, .inl (iz x2))] _ _ _ _
            exact evx_lv (lvLe_mk (fm rfl (fm rfl (fm rfl (fm rfl (fm rfl fn))))) (fm rfl (fm rfl (fm rfl (fm rfl (fm rfl (fm rfl (fm rfl fn))))))) (fm rfl (fm rfl (fm rfl (fm rfl (fm rfl fn)))))) (ih _ _ _ _ _ _ _ _ hs R42 rx1 rx2 k43 k44)
        · rw [if_neg cb21] at hs
          refine evx_F E79 D79_64 rfl (ifF (c2_ne_F w12 w19 (by omega))) ?_
          refine evx_F E79 D79_67 rfl rfl ?_
          refine evx_inc E79 D79_154 (Nat.le_of_ble_eq_true rfl) rfl ?_
          refine evx_F E79 D79_157 rfl rfl ?_
          obtain ⟨k45, hs⟩ := ck hs
          obtain ⟨k46, hs⟩ := ck hs
          show evx _ _ _ _ _ [(4, .inl (iz (x4 + 1))), (6, .inl (iz q16)), (5, .inl (iz q9)), (3, .inl (iz (x3 + (-2)))), (0, .inr (.inr (.inl (some 25)))), (1, .inl (iz x1)), (2, .inl (iz x2))] _ _ _ _
          exact evx_lv (lvLe_mk (fm rfl (fm rfl (fm rfl (fm rfl (fm rfl fn))))) (fm rfl (fm rfl (fm rfl (fm rfl (fm rfl (fm rfl (fm rfl fn))))))) (fm rfl (fm rfl (fm rfl (fm rfl (fm rfl fn)))))) (ih _ _ _ _ _ _ _ _ hs R18 rx1 rx2 k45 k46)
def f79 (M : Mm) (x1 : Int) (x2 : Int) : Option (Int × Mm) := l79 FU 19 (up (up M 33 (Int.toNat 0) x1) 33 (Int.toNat 1) x2) x1 x2 2 0
theorem c79 {L : Nat} {xs : Nat → Int32} {h : mvH} {M : Mm} {x1 x2 : Int} {v : Int} {M' : Mm} (R : rp h M) (rx1 : rg x1) (rx2 : rg x2) (hs : f79 M x1 x2 = some (v, M')) : evx L xs 2 79 0 [(0, .inr (.inr (.inl (some 25)))), (1, .inl (iz x1)), (2, .inl (iz x2))] [] h (.inl (some (.inl v)), 0) M' := by
  unfold f79 at hs
  refine evx_F E79 D79_0 rfl rfl ?_
  refine evx_gfr E79 D79_1 F79_33 H25 rfl R ?_
  refine evx_F E79 D79_4 rfl rfl ?_
  refine evx_F E79 D79_5 rfl rfl ?_
  refine evx_ias E79 D79_6 H33 (by decide) R (by decide) rx1 ?_
  intro h1 R2
  refine evx_F E79 D79_7 rfl rfl ?_
  refine evx_gfr E79 D79_8 F79_33 H25 rfl R2 ?_
  refine evx_F E79 D79_11 rfl rfl ?_
  refine evx_F E79 D79_12 rfl rfl ?_
  refine evx_ias E79 D79_13 H33 (by decide) R2 (by decide) rx2 ?_
  intro h3 R4
  refine evx_F E79 D79_14 rfl rfl ?_
  refine evx_F E79 D79_15 rfl rfl ?_
  refine evx_F E79 D79_16 rfl rfl ?_
  refine evx_F E79 D79_17 rfl rfl ?_
  show evx _ _ _ _ _ [(4, .inl (iz 0)), (3, .inl (iz 2)), (0, .inr (.inr (.inl (some 25)))), (1, .inl (iz x1)), (2, .inl (iz x2))] _ _ _ _
  exact evx_lv (lvLe_mk (fm rfl (fm rfl (fm rfl (fm rfl (fm rfl fn))))) (fm rfl (fm rfl (fm rfl (fm rfl (fm rfl fn))))) (fm rfl (fm rfl (fm rfl (fm rfl (fm rfl fn)))))) ((d79 FU) _ _ _ _ _ _ _ _ hs R4 rx1 rx2 (by decide) (by decide))
set_option maxRecDepth 20000 in
theorem E82 : pgMm 82 = some (⟨"DictionaryHouse$Typing", "primitiveNode", "(I)I"⟩, prog_12_method_19_code, 5, (some .int), []) := rfl
theorem D82_0 : pgDecT 82 0 = some (.iload_n 1, 1) := by decide +kernel
theorem D82_1 : pgDecT 82 1 = some (.ifCond .eq 8, 3) := by decide +kernel
theorem D82_9 : pgDecT 82 9 = some (.iconst 1, 1) := by decide +kernel
theorem D82_10 : pgDecT 82 10 = some (.ireturn, 1) := by decide +kernel
theorem D82_4 : pgDecT 82 4 = some (.iload_n 1, 1) := by decide +kernel
theorem D82_5 : pgDecT 82 5 = some (.iconst 1, 1) := by decide +kernel
theorem D82_6 : pgDecT 82 6 = some (.if_icmp .ne 5, 3) := by decide +kernel
theorem D82_11 : pgDecT 82 11 = some (.iload_n 1, 1) := by decide +kernel
theorem D82_12 : pgDecT 82 12 = some (.iconst 2, 1) := by decide +kernel
theorem D82_13 : pgDecT 82 13 = some (.if_icmp .eq 8, 3) := by decide +kernel
theorem D82_21 : pgDecT 82 21 = some (.aload_n 0, 1) := by decide +kernel
theorem D82_22 : pgDecT 82 22 = some (.iconst 0, 1) := by decide +kernel
theorem D82_23 : pgDecT 82 23 = some (.aload_n 0, 1) := by decide +kernel
theorem D82_24 : pgDecT 82 24 = some (.iconst 0, 1) := by decide +kernel
theorem D82_25 : pgDecT 82 25 = some (.iload_n 1, 1) := by decide +kernel
theorem D82_26 : pgDecT 82 26 = some (.iconst 2, 1) := by decide +kernel
theorem D82_27 : pgDecT 82 27 = some (.if_icmp .ne 7, 3) := by decide +kernel
theorem D82_34 : pgDecT 82 34 = some (.iconst 1, 1) := by decide +kernel
theorem D82_35 : pgDecT 82 35 = some (.invokevirtual 124, 3) := by decide +kernel
theorem I82_124 : pgIi 82 124 = some (83, 2, 10) := by decide +kernel
theorem D82_38 : pgDecT 82 38 = some (.invokevirtual 124, 3) := by decide +kernel
theorem D82_41 : pgDecT 82 41 = some (.ireturn, 1) := by decide +kernel
theorem D82_30 : pgDecT 82 30 = some (.iconst 0, 1) := by decide +kernel
theorem D82_31 : pgDecT 82 31 = some (.goto 4, 3) := by decide +kernel
theorem D82_16 : pgDecT 82 16 = some (.iload_n 1, 1) := by decide +kernel
theorem D82_17 : pgDecT 82 17 = some (.iconst 3, 1) := by decide +kernel
theorem D82_18 : pgDecT 82 18 = some (.if_icmp .ne 24, 3) := by decide +kernel
theorem D82_42 : pgDecT 82 42 = some (.aload_n 0, 1) := by decide +kernel
theorem D82_43 : pgDecT 82 43 = some (.getfield 12, 3) := by decide +kernel
theorem F82_12 : pgFf 82 12 = some (10, 4, 3) := by decide +kernel
theorem D82_46 : pgDecT 82 46 = some (.iconst 2, 1) := by decide +kernel
theorem D82_47 : pgDecT 82 47 = some (.iconst (-1), 1) := by decide +kernel
theorem D82_48 : pgDecT 82 48 = some (.iconst (-1), 1) := by decide +kernel
theorem D82_49 : pgDecT 82 49 = some (.invokevirtual 80, 3) := by decide +kernel
theorem I82_80 : pgIi 82 80 = some (74, 3, 5) := by decide +kernel
theorem D82_52 : pgDecT 82 52 = some (.istore_n 2, 1) := by decide +kernel
theorem D82_53 : pgDecT 82 53 = some (.iload_n 1, 1) := by decide +kernel
theorem D82_54 : pgDecT 82 54 = some (.iconst 4, 1) := by decide +kernel
theorem D82_55 : pgDecT 82 55 = some (.if_icmp .ne 20, 3) := by decide +kernel
theorem D82_75 : pgDecT 82 75 = some (.aload_n 0, 1) := by decide +kernel
theorem D82_76 : pgDecT 82 76 = some (.getfield 12, 3) := by decide +kernel
theorem D82_79 : pgDecT 82 79 = some (.iconst 3, 1) := by decide +kernel
theorem D82_80 : pgDecT 82 80 = some (.iload_n 2, 1) := by decide +kernel
theorem D82_81 : pgDecT 82 81 = some (.iconst (-1), 1) := by decide +kernel
theorem D82_82 : pgDecT 82 82 = some (.invokevirtual 80, 3) := by decide +kernel
theorem D82_85 : pgDecT 82 85 = some (.istore_n 3, 1) := by decide +kernel
theorem D82_86 : pgDecT 82 86 = some (.iload_n 1, 1) := by decide +kernel
theorem D82_87 : pgDecT 82 87 = some (.iconst 5, 1) := by decide +kernel
theorem D82_88 : pgDecT 82 88 = some (.if_icmp .ne 5, 3) := by decide +kernel
theorem D82_93 : pgDecT 82 93 = some (.iload_n 1, 1) := by decide +kernel
theorem D82_94 : pgDecT 82 94 = some (.bipush 6, 2) := by decide +kernel
theorem D82_96 : pgDecT 82 96 = some (.if_icmp .ne 15, 3) := by decide +kernel
theorem D82_111 : pgDecT 82 111 = some (.aload_n 0, 1) := by decide +kernel
theorem D82_112 : pgDecT 82 112 = some (.getfield 12, 3) := by decide +kernel
theorem D82_115 : pgDecT 82 115 = some (.iconst 2, 1) := by decide +kernel
theorem D82_116 : pgDecT 82 116 = some (.iconst (-1), 1) := by decide +kernel
theorem D82_117 : pgDecT 82 117 = some (.iconst (-1), 1) := by decide +kernel
theorem D82_118 : pgDecT 82 118 = some (.invokevirtual 80, 3) := by decide +kernel
theorem D82_121 : pgDecT 82 121 = some (.istore 4, 2) := by decide +kernel
theorem D82_123 : pgDecT 82 123 = some (.aload_n 0, 1) := by decide +kernel
theorem D82_124 : pgDecT 82 124 = some (.aload_n 0, 1) := by decide +kernel
theorem D82_125 : pgDecT 82 125 = some (.iload_n 2, 1) := by decide +kernel
theorem D82_126 : pgDecT 82 126 = some (.aload_n 0, 1) := by decide +kernel
theorem D82_127 : pgDecT 82 127 = some (.iload 4, 2) := by decide +kernel
theorem D82_129 : pgDecT 82 129 = some (.iload 4, 2) := by decide +kernel
theorem D82_131 : pgDecT 82 131 = some (.invokevirtual 124, 3) := by decide +kernel
theorem D82_134 : pgDecT 82 134 = some (.invokevirtual 124, 3) := by decide +kernel
theorem D82_137 : pgDecT 82 137 = some (.aload_n 0, 1) := by decide +kernel
theorem D82_138 : pgDecT 82 138 = some (.iload 4, 2) := by decide +kernel
theorem D82_140 : pgDecT 82 140 = some (.aload_n 0, 1) := by decide +kernel
theorem D82_141 : pgDecT 82 141 = some (.iload_n 3, 1) := by decide +kernel
theorem D82_142 : pgDecT 82 142 = some (.iload 4, 2) := by decide +kernel
theorem D82_144 : pgDecT 82 144 = some (.invokevirtual 124, 3) := by decide +kernel
theorem D82_147 : pgDecT 82 147 = some (.invokevirtual 124, 3) := by decide +kernel
theorem D82_150 : pgDecT 82 150 = some (.invokevirtual 124, 3) := by decide +kernel
theorem D82_153 : pgDecT 82 153 = some (.ireturn, 1) := by decide +kernel
theorem D82_99 : pgDecT 82 99 = some (.aload_n 0, 1) := by decide +kernel
theorem D82_100 : pgDecT 82 100 = some (.iload_n 2, 1) := by decide +kernel
theorem D82_101 : pgDecT 82 101 = some (.aload_n 0, 1) := by decide +kernel
theorem D82_102 : pgDecT 82 102 = some (.iload_n 3, 1) := by decide +kernel
theorem D82_103 : pgDecT 82 103 = some (.iload_n 3, 1) := by decide +kernel
theorem D82_104 : pgDecT 82 104 = some (.invokevirtual 124, 3) := by decide +kernel
theorem D82_107 : pgDecT 82 107 = some (.invokevirtual 124, 3) := by decide +kernel
theorem D82_110 : pgDecT 82 110 = some (.ireturn, 1) := by decide +kernel
theorem D82_91 : pgDecT 82 91 = some (.iload_n 3, 1) := by decide +kernel
theorem D82_92 : pgDecT 82 92 = some (.ireturn, 1) := by decide +kernel
theorem D82_58 : pgDecT 82 58 = some (.aload_n 0, 1) := by decide +kernel
theorem D82_59 : pgDecT 82 59 = some (.iconst 1, 1) := by decide +kernel
theorem D82_60 : pgDecT 82 60 = some (.aload_n 0, 1) := by decide +kernel
theorem D82_61 : pgDecT 82 61 = some (.iload_n 2, 1) := by decide +kernel
theorem D82_62 : pgDecT 82 62 = some (.aload_n 0, 1) := by decide +kernel
theorem D82_63 : pgDecT 82 63 = some (.iload_n 2, 1) := by decide +kernel
theorem D82_64 : pgDecT 82 64 = some (.iload_n 2, 1) := by decide +kernel
theorem D82_65 : pgDecT 82 65 = some (.invokevirtual 124, 3) := by decide +kernel
theorem D82_68 : pgDecT 82 68 = some (.invokevirtual 124, 3) := by decide +kernel
theorem D82_71 : pgDecT 82 71 = some (.invokevirtual 124, 3) := by decide +kernel
theorem D82_74 : pgDecT 82 74 = some (.ireturn, 1) := by decide +kernel
/-! 82: DictionaryHouse$Typing.primitiveNode (I)I -/
def f82 (M : Mm) (x1 : Int) : Option (Int × Mm) := if x1 = 0 then (some (1, M)) else (if ¬ x1 = 1 then (if x1 = 2 then (if ¬ x1 = 2 then (f83 M 0 1).bind (fun zq6 => (f83 zq6.2 0 zq6.1).bind (fun zq12 => some (zq12.1, zq12.2))) else (f83 M 0 0).bind (fun zq18 => (f83 zq18.2 0 zq18.1).bind (fun zq24 => some (zq24.1, zq24.2)))) else (if ¬ x1 = 3 then (f74 M 2 (-1) (-1)).bind (fun zq31 => if ¬ x1 = 4 then (f74 zq31.2 3 zq31.1 (-1)).bind (fun zq38 => if ¬ x1 = 5 then (if ¬ x1 = 6 then (f74 zq38.2 2 (-1) (-1)).bind (fun zq46 => (f83 zq46.2 zq46.1 zq46.1).bind (fun zq52 => (f83 zq52.2 zq31.1 zq52.1).bind (fun zq58 => (f83 zq58.2 zq38.1 zq46.1).bind (fun zq64 => (f83 zq64.2 zq46.1 zq64.1).bind (fun zq70 => (f83 zq70.2 zq58.1 zq70.1).bind (fun zq76 => some (zq76.1, zq76.2))))))) else (f83 zq38.2 zq38.1 zq38.1).bind (fun zq82 => (f83 zq82.2 zq31.1 zq82.1).bind (fun zq88 => some (zq88.1, zq88.2)))) else (some (zq38.1, zq38.2))) else (f83 zq31.2 zq31.1 zq31.1).bind (fun zq94 => (f83 zq94.2 zq31.1 zq94.1).bind (fun zq100 => (f83 zq100.2 1 zq100.1).bind (fun zq106 => some (zq106.1, zq106.2))))) else (if ¬ x1 = 2 then (f83 M 0 1).bind (fun zq113 => (f83 zq113.2 0 zq113.1).bind (fun zq119 => some (zq119.1, zq119.2))) else (f83 M 0 0).bind (fun zq125 => (f83 zq125.2 0 zq125.1).bind (fun zq131 => some (zq131.1, zq131.2)))))) else (some (1, M)))
theorem c82 {L : Nat} {xs : Nat → Int32} {h : mvH} {M : Mm} {x1 : Int} {v : Int} {M' : Mm} (R : rp h M) (rx1 : rg x1) (hs : f82 M x1 = some (v, M')) : evx L xs 3 82 0 [(0, .inr (.inr (.inl (some 24)))), (1, .inl (iz x1))] [] h (.inl (some (.inl v)), 0) M' := by
  unfold f82 at hs
  refine evx_F E82 D82_0 rfl rfl ?_
  by_cases cb1 : x1 = 0
  · rw [if_pos cb1] at hs
    refine evx_F E82 D82_1 rfl (ifT (c1_eq_T rx1 cb1)) ?_
    refine evx_F E82 D82_9 rfl rfl ?_
    cases hs
    exact evx_ret E82 D82_10 rfl (fun d => rfl) rfl (show rg _ from (by decide)) R
  · rw [if_neg cb1] at hs
    refine evx_F E82 D82_1 rfl (ifF (c1_eq_F rx1 (by omega))) ?_
    refine evx_F E82 D82_4 rfl rfl ?_
    refine evx_F E82 D82_5 rfl rfl ?_
    by_cases cb2 : ¬ x1 = 1
    · rw [if_pos cb2] at hs
      refine evx_F E82 D82_6 rfl (ifT (c2_ne_T rx1 (by decide) cb2)) ?_
      refine evx_F E82 D82_11 rfl rfl ?_
      refine evx_F E82 D82_12 rfl rfl ?_
      by_cases cb3 : x1 = 2
      · rw [if_pos cb3] at hs
        refine evx_F E82 D82_13 rfl (ifT (c2_eq_T rx1 (by decide) cb3)) ?_
        refine evx_F E82 D82_21 rfl rfl ?_
        refine evx_F E82 D82_22 rfl rfl ?_
        refine evx_F E82 D82_23 rfl rfl ?_
        refine evx_F E82 D82_24 rfl rfl ?_
        refine evx_F E82 D82_25 rfl rfl ?_
        refine evx_F E82 D82_26 rfl rfl ?_
        by_cases cb4 : ¬ x1 = 2
        · rw [if_pos cb4] at hs
          refine evx_F E82 D82_27 rfl (ifT (c2_ne_T rx1 (by decide) cb4)) ?_
          refine evx_F E82 D82_34 rfl rfl ?_
          obtain ⟨⟨q6, M10⟩, e5, hs⟩ := Option.bind_eq_some_iff.mp hs
          dsimp only at hs
          refine evx_cv (D := 2) E82 D82_35 I82_124 rfl rfl H24 ⟨Nat.le_of_ble_eq_true rfl, Nat.le_of_ble_eq_true rfl⟩ ⟨rfl, Nat.le_of_ble_eq_true rfl⟩ rfl R (evx_up (Nat.le_of_ble_eq_true rfl) (c83 R (by decide) (by decide) e5)) ?_
          intro h7 R8 w9
          have w9 : rg q6 := w9
          show evx _ _ _ _ _ _ (.inl (iz q6) :: _) _ _ _
          obtain ⟨⟨q12, M16⟩, e11, hs⟩ := Option.bind_eq_some_iff.mp hs
          dsimp only at hs
          refine evx_cv (D := 2) E82 D82_38 I82_124 rfl rfl H24 ⟨Nat.le_of_ble_eq_true rfl, Nat.le_of_ble_eq_true rfl⟩ ⟨rfl, Nat.le_of_ble_eq_true rfl⟩ rfl R8 (evx_up (Nat.le_of_ble_eq_true rfl) (c83 R8 (by decide) w9 e11)) ?_
          intro h13 R14 w15
          have w15 : rg q12 := w15
          show evx _ _ _ _ _ _ (.inl (iz q12) :: _) _ _ _
          cases hs
          exact evx_ret E82 D82_41 rfl (fun d => rfl) rfl (show rg _ from w15) R14
        · rw [if_neg cb4] at hs
          refine evx_F E82 D82_27 rfl (ifF (c2_ne_F rx1 (by decide) (by omega))) ?_
          refine evx_F E82 D82_30 rfl rfl ?_
          refine evx_F E82 D82_31 rfl rfl ?_
          obtain ⟨⟨q18, M22⟩, e17, hs⟩ := Option.bind_eq_some_iff.mp hs
          dsimp only at hs
          refine evx_cv (D := 2) E82 D82_35 I82_124 rfl rfl H24 ⟨Nat.le_of_ble_eq_true rfl, Nat.le_of_ble_eq_true rfl⟩ ⟨rfl, Nat.le_of_ble_eq_true rfl⟩ rfl R (evx_up (Nat.le_of_ble_eq_true rfl) (c83 R (by decide) (by decide) e17)) ?_
          intro h19 R20 w21
          have w21 : rg q18 := w21
          show evx _ _ _ _ _ _ (.inl (iz q18) :: _) _ _ _
          obtain ⟨⟨q24, M28⟩, e23, hs⟩ := Option.bind_eq_some_iff.mp hs
          dsimp only at hs
          refine evx_cv (D := 2) E82 D82_38 I82_124 rfl rfl H24 ⟨Nat.le_of_ble_eq_true rfl, Nat.le_of_ble_eq_true rfl⟩ ⟨rfl, Nat.le_of_ble_eq_true rfl⟩ rfl R20 (evx_up (Nat.le_of_ble_eq_true rfl) (c83 R20 (by decide) w21 e23)) ?_
          intro h25 R26 w27
          have w27 : rg q24 := w27
          show evx _ _ _ _ _ _ (.inl (iz q24) :: _) _ _ _
          cases hs
          exact evx_ret E82 D82_41 rfl (fun d => rfl) rfl (show rg _ from w27) R26
      · rw [if_neg cb3] at hs
        refine evx_F E82 D82_13 rfl (ifF (c2_eq_F rx1 (by decide) (by omega))) ?_
        refine evx_F E82 D82_16 rfl rfl ?_
        refine evx_F E82 D82_17 rfl rfl ?_
        by_cases cb29 : ¬ x1 = 3
        · rw [if_pos cb29] at hs
          refine evx_F E82 D82_18 rfl (ifT (c2_ne_T rx1 (by decide) cb29)) ?_
          refine evx_F E82 D82_42 rfl rfl ?_
          refine evx_gfr E82 D82_43 F82_12 H24 rfl R ?_
          refine evx_F E82 D82_46 rfl rfl ?_
          refine evx_F E82 D82_47 rfl rfl ?_
          refine evx_F E82 D82_48 rfl rfl ?_
          obtain ⟨⟨q31, M35⟩, e30, hs⟩ := Option.bind_eq_some_iff.mp hs
          dsimp only at hs
          refine evx_cv (D := 2) E82 D82_49 I82_80 rfl rfl H25 ⟨Nat.le_of_ble_eq_true rfl, Nat.le_of_ble_eq_true rfl⟩ ⟨rfl, Nat.le_of_ble_eq_true rfl⟩ rfl R (evx_up (Nat.le_of_ble_eq_true rfl) (c74 R (by decide) (by decide) (by decide) e30)) ?_
          intro h32 R33 w34
          have w34 : rg q31 := w34
          show evx _ _ _ _ _ _ (.inl (iz q31) :: _) _ _ _
          refine evx_F E82 D82_52 rfl rfl ?_
          refine evx_F E82 D82_53 rfl rfl ?_
          refine evx_F E82 D82_54 rfl rfl ?_
          by_cases cb36 : ¬ x1 = 4
          · rw [if_pos cb36] at hs
            refine evx_F E82 D82_55 rfl (ifT (c2_ne_T rx1 (by decide) cb36)) ?_
            refine evx_F E82 D82_75 rfl rfl ?_
            refine evx_gfr E82 D82_76 F82_12 H24 rfl R33 ?_
            refine evx_F E82 D82_79 rfl rfl ?_
            refine evx_F E82 D82_80 rfl rfl ?_
            refine evx_F E82 D82_81 rfl rfl ?_
            obtain ⟨⟨q38, M42⟩, e37, hs⟩ := Option.bind_eq_some_iff.mp hs
            dsimp only at hs
            refine evx_cv (D := 2) E82 D82_82 I82_80 rfl rfl H25 ⟨Nat.le_of_ble_eq_true rfl, Nat.le_of_ble_eq_true rfl⟩ ⟨rfl, Nat.le_of_ble_eq_true rfl⟩ rfl R33 (evx_up (Nat.le_of_ble_eq_true rfl) (c74 R33 (by decide) w34 (by decide) e37)) ?_
            intro h39 R40 w41
            have w41 : rg q38 := w41
            show evx _ _ _ _ _ _ (.inl (iz q38) :: _) _ _ _
            refine evx_F E82 D82_85 rfl rfl ?_
            refine evx_F E82 D82_86 rfl rfl ?_
            refine evx_F E82 D82_87 rfl rfl ?_
            by_cases cb43 : ¬ x1 = 5
            · rw [if_pos cb43] at hs
              refine evx_F E82 D82_88 rfl (ifT (c2_ne_T rx1 (by decide) cb43)) ?_
              refine evx_F E82 D82_93 rfl rfl ?_
              refine evx_k (k := 6) E82 D82_94 rfl (by decide) ?_
              by_cases cb44 : ¬ x1 = 6
              · rw [if_pos cb44] at hs
                refine evx_F E82 D82_96 rfl (ifT (c2_ne_T rx1 (by decide) cb44)) ?_
                refine evx_F E82 D82_111 rfl rfl ?_
                refine evx_gfr E82 D82_112 F82_12 H24 rfl R40 ?_
                refine evx_F E82 D82_115 rfl rfl ?_
                refine evx_F E82 D82_116 rfl rfl ?_
                refine evx_F E82 D82_117 rfl rfl ?_
                obtain ⟨⟨q46, M50⟩, e45, hs⟩ := Option.bind_eq_some_iff.mp hs
                dsimp only at hs
                refine evx_cv (D := 2) E82 D82_118 I82_80 rfl rfl H25 ⟨Nat.le_of_ble_eq_true rfl, Nat.le_of_ble_eq_true rfl⟩ ⟨rfl, Nat.le_of_ble_eq_true rfl⟩ rfl R40 (evx_up (Nat.le_of_ble_eq_true rfl) (c74 R40 (by decide) (by decide) (by decide) e45)) ?_
                intro h47 R48 w49
                have w49 : rg q46 := w49
                show evx _ _ _ _ _ _ (.inl (iz q46) :: _) _ _ _
                refine evx_F E82 D82_121 rfl rfl ?_
                refine evx_F E82 D82_123 rfl rfl ?_
                refine evx_F E82 D82_124 rfl rfl ?_
                refine evx_F E82 D82_125 rfl rfl ?_
                refine evx_F E82 D82_126 rfl rfl ?_
                refine evx_F E82 D82_127 rfl rfl ?_
                refine evx_F E82 D82_129 rfl rfl ?_
                obtain ⟨⟨q52, M56⟩, e51, hs⟩ := Option.bind_eq_some_iff.mp hs
                dsimp only at hs
                refine evx_cv (D := 2) E82 D82_131 I82_124 rfl rfl H24 ⟨Nat.le_of_ble_eq_true rfl, Nat.le_of_ble_eq_true rfl⟩ ⟨rfl, Nat.le_of_ble_eq_true rfl⟩ rfl R48 (evx_up (Nat.le_of_ble_eq_true rfl) (c83 R48 w49 w49 e51)) ?_
                intro h53 R54 w55
                have w55 : rg q52 := w55
                show evx _ _ _ _ _ _ (.inl (iz q52) :: _) _ _ _
                obtain ⟨⟨q58, M62⟩, e57, hs⟩ := Option.bind_eq_some_iff.mp hs
                dsimp only at hs
                refine evx_cv (D := 2) E82 D82_134 I82_124 rfl rfl H24 ⟨Nat.le_of_ble_eq_true rfl, Nat.le_of_ble_eq_true rfl⟩ ⟨rfl, Nat.le_of_ble_eq_true rfl⟩ rfl R54 (evx_up (Nat.le_of_ble_eq_true rfl) (c83 R54 w34 w55 e57)) ?_
                intro h59 R60 w61
                have w61 : rg q58 := w61
                show evx _ _ _ _ _ _ (.inl (iz q58) :: _) _ _ _
                refine evx_F E82 D82_137 rfl rfl ?_
                refine evx_F E82 D82_138 rfl rfl ?_
                refine evx_F E82 D82_140 rfl rfl ?_
                refine evx_F E82 D82_141 rfl rfl ?_
                refine evx_F E82 D82_142 rfl rfl ?_
                obtain ⟨⟨q64, M68⟩, e63, hs⟩ := Option.bind_eq_some_iff.mp hs
                dsimp only at hs
                refine evx_cv (D := 2) E82 D82_144 I82_124 rfl rfl H24 ⟨Nat.le_of_ble_eq_true rfl, Nat.le_of_ble_eq_true rfl⟩ ⟨rfl, Nat.le_of_ble_eq_true rfl⟩ rfl R60 (evx_up (Nat.le_of_ble_eq_true rfl) (c83 R60 w41 w49 e63)) ?_
                intro h65 R66 w67
                have w67 : rg q64 := w67
                show evx _ _ _ _ _ _ (.inl (iz q64) :: _) _ _ _
                obtain ⟨⟨q70, M74⟩, e69, hs⟩ := Option.bind_eq_some_iff.mp hs
                dsimp only at hs
                refine evx_cv (D := 2) E82 D82_147 I82_124 rfl rfl H24 ⟨Nat.le_of_ble_eq_true rfl, Nat.le_of_ble_eq_true rfl⟩ ⟨rfl, Nat.le_of_ble_eq_true rfl⟩ rfl R66 (evx_up (Nat.le_of_ble_eq_true rfl) (c83 R66 w49 w67 e69)) ?_
                intro h71 R72 w73
                have w73 : rg q70 := w73
                show evx _ _ _ _ _ _ (.inl (iz q70) :: _) _ _ _
                obtain ⟨⟨q76, M80⟩, e75, hs⟩ := Option.bind_eq_some_iff.mp hs
                dsimp only at hs
                refine evx_cv (D := 2) E82 D82_150 I82_124 rfl rfl H24 ⟨Nat.le_of_ble_eq_true rfl, Nat.le_of_ble_eq_true rfl⟩ ⟨rfl, Nat.le_of_ble_eq_true rfl⟩ rfl R72 (evx_up (Nat.le_of_ble_eq_true rfl) (c83 R72 w61 w73 e75)) ?_
                intro h77 R78 w79
                have w79 : rg q76 := w79
                show evx _ _ _ _ _ _ (.inl (iz q76) :: _) _ _ _
                cases hs
                exact evx_ret E82 D82_153 rfl (fun d => rfl) rfl (show rg _ from w79) R78
              · rw [if_neg cb44] at hs
                refine evx_F E82 D82_96 rfl (ifF (c2_ne_F rx1 (by decide) (by omega))) ?_
                refine evx_F E82 D82_99 rfl rfl ?_
                refine evx_F E82 D82_100 rfl rfl ?_
                refine evx_F E82 D82_101 rfl rfl ?_
                refine evx_F E82 D82_102 rfl rfl ?_
                refine evx_F E82 D82_103 rfl rfl ?_
                obtain ⟨⟨q82, M86⟩, e81, hs⟩ := Option.bind_eq_some_iff.mp hs
                dsimp only at hs
                refine evx_cv (D := 2) E82 D82_104 I82_124 rfl rfl H24 ⟨Nat.le_of_ble_eq_true rfl, Nat.le_of_ble_eq_true rfl⟩ ⟨rfl, Nat.le_of_ble_eq_true rfl⟩ rfl R40 (evx_up (Nat.le_of_ble_eq_true rfl) (c83 R40 w41 w41 e81)) ?_
                intro h83 R84 w85
                have w85 : rg q82 := w85
                show evx _ _ _ _ _ _ (.inl (iz q82) :: _) _ _ _
                obtain ⟨⟨q88, M92⟩, e87, hs⟩ := Option.bind_eq_some_iff.mp hs
                dsimp only at hs
                refine evx_cv (D := 2) E82 D82_107 I82_124 rfl rfl H24 ⟨Nat.le_of_ble_eq_true rfl, Nat.le_of_ble_eq_true rfl⟩ ⟨rfl, Nat.le_of_ble_eq_true rfl⟩ rfl R84 (evx_up (Nat.le_of_ble_eq_true rfl) (c83 R84 w34 w85 e87)) ?_
                intro h89 R90 w91
                have w91 : rg q88 := w91
                show evx _ _ _ _ _ _ (.inl (iz q88) :: _) _ _ _
                cases hs
                exact evx_ret E82 D82_110 rfl (fun d => rfl) rfl (show rg _ from w91) R90
            · rw [if_neg cb43] at hs
              refine evx_F E82 D82_88 rfl (ifF (c2_ne_F rx1 (by decide) (by omega))) ?_
              refine evx_F E82 D82_91 rfl rfl ?_
              cases hs
              exact evx_ret E82 D82_92 rfl (fun d => rfl) rfl (show rg _ from w41) R40
          · rw [if_neg cb36] at hs
            refine evx_F E82 D82_55 rfl (ifF (c2_ne_F rx1 (by decide) (by omega))) ?_
            refine evx_F E82 D82_58 rfl rfl ?_
            refine evx_F E82 D82_59 rfl rfl ?_
            refine evx_F E82 D82_60 rfl rfl ?_
            refine evx_F E82 D82_61 rfl rfl ?_
            refine evx_F E82 D82_62 rfl rfl ?_
            refine evx_F E82 D82_63 rfl rfl ?_
            refine evx_F E82 D82_64 rfl rfl ?_
            obtain ⟨⟨q94, M98⟩, e93, hs⟩ := Option.bind_eq_some_iff.mp hs
            dsimp only at hs
            refine evx_cv (D := 2) E82 D82_65 I82_124 rfl rfl H24 ⟨Nat.le_of_ble_eq_true rfl, Nat.le_of_ble_eq_true rfl⟩ ⟨rfl, Nat.le_of_ble_eq_true rfl⟩ rfl R33 (evx_up (Nat.le_of_ble_eq_true rfl) (c83 R33 w34 w34 e93)) ?_
            intro h95 R96 w97
            have w97 : rg q94 := w97
            show evx _ _ _ _ _ _ (.inl (iz q94) :: _) _ _ _
            obtain ⟨⟨q100, M104⟩, e99, hs⟩ := Option.bind_eq_some_iff.mp hs
            dsimp only at hs
            refine evx_cv (D := 2) E82 D82_68 I82_124 rfl rfl H24 ⟨Nat.le_of_ble_eq_true rfl, Nat.le_of_ble_eq_true rfl⟩ ⟨rfl, Nat.le_of_ble_eq_true rfl⟩ rfl R96 (evx_up (Nat.le_of_ble_eq_true rfl) (c83 R96 w34 w97 e99)) ?_
            intro h101 R102 w103
            have w103 : rg q100 := w103
            show evx _ _ _ _ _ _ (.inl (iz q100) :: _) _ _ _
            obtain ⟨⟨q106, M110⟩, e105, hs⟩ := Option.bind_eq_some_iff.mp hs
            dsimp only at hs
            refine evx_cv (D := 2) E82 D82_71 I82_124 rfl rfl H24 ⟨Nat.le_of_ble_eq_true rfl, Nat.le_of_ble_eq_true rfl⟩ ⟨rfl, Nat.le_of_ble_eq_true rfl⟩ rfl R102 (evx_up (Nat.le_of_ble_eq_true rfl) (c83 R102 (by decide) w103 e105)) ?_
            intro h107 R108 w109
            have w109 : rg q106 := w109
            show evx _ _ _ _ _ _ (.inl (iz q106) :: _) _ _ _
            cases hs
            exact evx_ret E82 D82_74 rfl (fun d => rfl) rfl (show rg _ from w109) R108
        · rw [if_neg cb29] at hs
          refine evx_F E82 D82_18 rfl (ifF (c2_ne_F rx1 (by decide) (by omega))) ?_
          refine evx_F E82 D82_21 rfl rfl ?_
          refine evx_F E82 D82_22 rfl rfl ?_
          refine evx_F E82 D82_23 rfl rfl ?_
          refine evx_F E82 D82_24 rfl rfl ?_
          refine evx_F E82 D82_25 rfl rfl ?_
          refine evx_F E82 D82_26 rfl rfl ?_
          by_cases cb111 : ¬ x1 = 2
          · rw [if_pos cb111] at hs
            refine evx_F E82 D82_27 rfl (ifT (c2_ne_T rx1 (by decide) cb111)) ?_
            refine evx_F E82 D82_34 rfl rfl ?_
            obtain ⟨⟨q113, M117⟩, e112, hs⟩ := Option.bind_eq_some_iff.mp hs
            dsimp only at hs
            refine evx_cv (D := 2) E82 D82_35 I82_124 rfl rfl H24 ⟨Nat.le_of_ble_eq_true rfl, Nat.le_of_ble_eq_true rfl⟩ ⟨rfl, Nat.le_of_ble_eq_true rfl⟩ rfl R (evx_up (Nat.le_of_ble_eq_true rfl) (c83 R (by decide) (by decide) e112)) ?_
            intro h114 R115 w116
            have w116 : rg q113 := w116
            show evx _ _ _ _ _ _ (.inl (iz q113) :: _) _ _ _
            obtain ⟨⟨q119, M123⟩, e118, hs⟩ := Option.bind_eq_some_iff.mp hs
            dsimp only at hs
            refine evx_cv (D := 2) E82 D82_38 I82_124 rfl rfl H24 ⟨Nat.le_of_ble_eq_true rfl, Nat.le_of_ble_eq_true rfl⟩ ⟨rfl, Nat.le_of_ble_eq_true rfl⟩ rfl R115 (evx_up (Nat.le_of_ble_eq_true rfl) (c83 R115 (by decide) w116 e118)) ?_
            intro h120 R121 w122
            have w122 : rg q119 := w122
            show evx _ _ _ _ _ _ (.inl (iz q119) :: _) _ _ _
            cases hs
            exact evx_ret E82 D82_41 rfl (fun d => rfl) rfl (show rg _ from w122) R121
          · rw [if_neg cb111] at hs
            refine evx_F E82 D82_27 rfl (ifF (c2_ne_F rx1 (by decide) (by omega))) ?_
            refine evx_F E82 D82_30 rfl rfl ?_
            refine evx_F E82 D82_31 rfl rfl ?_
            obtain ⟨⟨q125, M129⟩, e124, hs⟩ := Option.bind_eq_some_iff.mp hs
            dsimp only at hs
            refine evx_cv (D := 2) E82 D82_35 I82_124 rfl rfl H24 ⟨Nat.le_of_ble_eq_true rfl, Nat.le_of_ble_eq_true rfl⟩ ⟨rfl, Nat.le_of_ble_eq_true rfl⟩ rfl R (evx_up (Nat.le_of_ble_eq_true rfl) (c83 R (by decide) (by decide) e124)) ?_
            intro h126 R127 w128
            have w128 : rg q125 := w128
            show evx _ _ _ _ _ _ (.inl (iz q125) :: _) _ _ _
            obtain ⟨⟨q131, M135⟩, e130, hs⟩ := Option.bind_eq_some_iff.mp hs
            dsimp only at hs
            refine evx_cv (D := 2) E82 D82_38 I82_124 rfl rfl H24 ⟨Nat.le_of_ble_eq_true rfl, Nat.le_of_ble_eq_true rfl⟩ ⟨rfl, Nat.le_of_ble_eq_true rfl⟩ rfl R127 (evx_up (Nat.le_of_ble_eq_true rfl) (c83 R127 (by decide) w128 e130)) ?_
            intro h132 R133 w134
            have w134 : rg q131 := w134
            show evx _ _ _ _ _ _ (.inl (iz q131) :: _) _ _ _
            cases hs
            exact evx_ret E82 D82_41 rfl (fun d => rfl) rfl (show rg _ from w134) R133
    · rw [if_neg cb2] at hs
      refine evx_F E82 D82_6 rfl (ifF (c2_ne_F rx1 (by decide) (by omega))) ?_
      refine evx_F E82 D82_9 rfl rfl ?_
      cases hs
      exact evx_ret E82 D82_10 rfl (fun d => rfl) rfl (show rg _ from (by decide)) R
set_option maxRecDepth 20000 in
theorem E84 : pgMm 84 = some (⟨"DictionaryHouse$Typing", "joinLocal", "(II)Z"⟩, prog_12_method_15_code, 5, (some .boolean), []) := rfl
theorem D84_0 : pgDecT 84 0 = some (.aload_n 0, 1) := by decide +kernel
theorem D84_1 : pgDecT 84 1 = some (.getfield 22, 3) := by decide +kernel
theorem F84_22 : pgFf 84 22 = some (10, 6, 3) := by decide +kernel
theorem D84_4 : pgDecT 84 4 = some (.iload_n 1, 1) := by decide +kernel
theorem D84_5 : pgDecT 84 5 = some (.iaload, 1) := by decide +kernel
theorem D84_6 : pgDecT 84 6 = some (.istore_n 3, 1) := by decide +kernel
theorem D84_7 : pgDecT 84 7 = some (.iconst 0, 1) := by decide +kernel
theorem D84_8 : pgDecT 84 8 = some (.istore 4, 2) := by decide +kernel
theorem D84_10 : pgDecT 84 10 = some (.iload 4, 2) := by decide +kernel
theorem D84_12 : pgDecT 84 12 = some (.iload_n 2, 1) := by decide +kernel
theorem D84_13 : pgDecT 84 13 = some (.if_icmp .ge 21, 3) := by decide +kernel
theorem D84_34 : pgDecT 84 34 = some (.iload_n 3, 1) := by decide +kernel
theorem D84_35 : pgDecT 84 35 = some (.iconst (-1), 1) := by decide +kernel
theorem D84_36 : pgDecT 84 36 = some (.if_icmp .eq 29, 3) := by decide +kernel
theorem D84_65 : pgDecT 84 65 = some (.iconst 0, 1) := by decide +kernel
theorem D84_66 : pgDecT 84 66 = some (.ireturn, 1) := by decide +kernel
theorem D84_39 : pgDecT 84 39 = some (.aload_n 0, 1) := by decide +kernel
theorem D84_40 : pgDecT 84 40 = some (.getfield 12, 3) := by decide +kernel
theorem F84_12 : pgFf 84 12 = some (10, 4, 3) := by decide +kernel
theorem D84_43 : pgDecT 84 43 = some (.aload_n 0, 1) := by decide +kernel
theorem D84_44 : pgDecT 84 44 = some (.getfield 25, 3) := by decide +kernel
theorem F84_25 : pgFf 84 25 = some (10, 7, 3) := by decide +kernel
theorem D84_47 : pgDecT 84 47 = some (.iload_n 1, 1) := by decide +kernel
theorem D84_48 : pgDecT 84 48 = some (.iaload, 1) := by decide +kernel
theorem D84_49 : pgDecT 84 49 = some (.aload_n 0, 1) := by decide +kernel
theorem D84_50 : pgDecT 84 50 = some (.getfield 28, 3) := by decide +kernel
theorem F84_28 : pgFf 84 28 = some (10, 8, 3) := by decide +kernel
theorem D84_53 : pgDecT 84 53 = some (.iload_n 3, 1) := by decide +kernel
theorem D84_54 : pgDecT 84 54 = some (.iaload, 1) := by decide +kernel
theorem D84_55 : pgDecT 84 55 = some (.invokevirtual 96, 3) := by decide +kernel
theorem I84_96 : pgIi 84 96 = some (79, 2, 5) := by decide +kernel
theorem D84_58 : pgDecT 84 58 = some (.ifCond .eq 7, 3) := by decide +kernel
theorem D84_61 : pgDecT 84 61 = some (.iconst 1, 1) := by decide +kernel
theorem D84_62 : pgDecT 84 62 = some (.goto 4, 3) := by decide +kernel
theorem D84_16 : pgDecT 84 16 = some (.iload_n 3, 1) := by decide +kernel
theorem D84_17 : pgDecT 84 17 = some (.iconst (-1), 1) := by decide +kernel
theorem D84_18 : pgDecT 84 18 = some (.if_icmp .eq 16, 3) := by decide +kernel
theorem D84_21 : pgDecT 84 21 = some (.aload_n 0, 1) := by decide +kernel
theorem D84_22 : pgDecT 84 22 = some (.getfield 22, 3) := by decide +kernel
theorem D84_25 : pgDecT 84 25 = some (.iload_n 3, 1) := by decide +kernel
theorem D84_26 : pgDecT 84 26 = some (.iaload, 1) := by decide +kernel
theorem D84_27 : pgDecT 84 27 = some (.istore_n 3, 1) := by decide +kernel
theorem D84_28 : pgDecT 84 28 = some (.iinc 4 1, 3) := by decide +kernel
theorem D84_31 : pgDecT 84 31 = some (.goto (-21), 3) := by decide +kernel
/-! 84: DictionaryHouse$Typing.joinLocal (II)Z -/
def l84 : Nat → Nat → Mm → Int → Int → Int → Int → Option (Int × Mm)
  | 0, _, _, _, _, _, _ => none
  | f + 1, 10, M, x1, x2, x3, x4 => if x2 ≤ x4 then (if x3 = (-1) then (some (0, M)) else (if 0 ≤ x1 ∧ x1 < 60 then (if 0 ≤ x3 ∧ x3 < 60 then (f79 M (M 36 (Int.toNat x1)) (M 37 (Int.toNat x3))).bind (fun zq7 => if zq7.1 = 0 then (some (0, zq7.2)) else (some (1, zq7.2))) else none) else none)) else (if x3 = (-1) then (if x3 = (-1) then (some (0, M)) else (if 0 ≤ x1 ∧ x1 < 60 then (if 0 ≤ x3 ∧ x3 < 60 then (f79 M (M 36 (Int.toNat x1)) (M 37 (Int.toNat x3))).bind (fun zq18 => if zq18.1 = 0 then (some (0, zq18.2)) else (some (1, zq18.2))) else none) else none)) else (if 0 ≤ x3 ∧ x3 < 60 then (if rg (x4 + 1) then (l84 f 10 M x1 x2 (M 35 (Int.toNat x3)) (x4 + 1)) else none) else none))
  | _, _, _, _, _, _, _ => none
theorem d84 {L : Nat} {xs : Nat → Int32} (f : Nat) : (∀ (M : Mm) (x1 x2 x3 x4 : Int) (h : mvH) (v : Int) (M' : Mm), l84 f 10 M x1 x2 x3 x4 = some (v, M') → rp h M → rg x1 → rg x2 → rg x3 → rg x4 → evx L xs 3 84 10 [(0, .inr (.inr (.inl (some 24)))), (1, .inl (iz x1)), (2, .inl (iz x2)), (3, .inl (iz x3)), (4, .inl (iz x4))] [] h (.inl (some (.inl v)), 0) M') := by
  induction f with
  | zero => exact (fun M x1 x2 x3 x4 h v M' hs _ _ _ _ _ => by cases hs)
  | succ f ih =>
    intro M x1 x2 x3 x4 h v M' hs R rx1 rx2 rx3 rx4
    rw [l84] at hs
    refine evx_F E84 D84_10 rfl rfl ?_
    refine evx_F E84 D84_12 rfl rfl ?_
    by_cases cb2 : x2 ≤ x4
    · rw [if_pos cb2] at hs
      refine evx_F E84 D84_13 rfl (ifT (c2_ge_T rx4 rx2 cb2)) ?_
      refine evx_F E84 D84_34 rfl rfl ?_
      refine evx_F E84 D84_35 rfl rfl ?_
      by_cases cb3 : x3 = (-1)
      · rw [if_pos cb3] at hs
        refine evx_F E84 D84_36 rfl (ifT (c2_eq_T rx3 (by decide) cb3)) ?_
        refine evx_F E84 D84_65 rfl rfl ?_
        cases hs
        exact evx_ret E84 D84_66 rfl (fun d => rfl) rfl (show rg _ from (by decide)) R
      · rw [if_neg cb3] at hs
        refine evx_F E84 D84_36 rfl (ifF (c2_eq_F rx3 (by decide) (by omega))) ?_
        refine evx_F E84 D84_39 rfl rfl ?_
        refine evx_gfr E84 D84_40 F84_12 H24 rfl R ?_
        refine evx_F E84 D84_43 rfl rfl ?_
        refine evx_gfr E84 D84_44 F84_25 H24 rfl R ?_
        refine evx_F E84 D84_47 rfl rfl ?_
        obtain ⟨k4, hs⟩ := ck hs
        refine evx_ial E84 D84_48 H36 (by decide) R k4 ?_
        refine evx_F E84 D84_49 rfl rfl ?_
        refine evx_gfr E84 D84_50 F84_28 H24 rfl R ?_
        refine evx_F E84 D84_53 rfl rfl ?_
        obtain ⟨k5, hs⟩ := ck hs
        refine evx_ial E84 D84_54 H37 (by decide) R k5 ?_
        obtain ⟨⟨q7, M11⟩, e6, hs⟩ := Option.bind_eq_some_iff.mp hs
        dsimp only at hs
        refine evx_cv (D := 2) E84 D84_55 I84_96 rfl rfl H25 ⟨Nat.le_of_ble_eq_true rfl, Nat.le_of_ble_eq_true rfl⟩ ⟨rfl, Nat.le_of_ble_eq_true rfl⟩ rfl R (evx_up (Nat.le_of_ble_eq_true rfl) (c79 R (R.1 36 (Int.toNat x1)) (R.1 37 (Int.toNat x3)) e6)) ?_
        intro h8 R9 w10
        have w10 : rg q7 := w10
        show evx _ _ _ _ _ _ (.inl (iz q7) :: _) _ _ _
        by_cases cb12 : q7 = 0
        · rw [if_pos cb12] at hs
          refine evx_F E84 D84_58 rfl (ifT (c1_eq_T w10 cb12)) ?_
          refine evx_F E84 D84_65 rfl rfl ?_
          cases hs
          exact evx_ret E84 D84_66 rfl (fun d => rfl) rfl (show rg _ from (by decide)) R9
        · rw [if_neg cb12] at hs
          refine evx_F E84 D84_58 rfl (ifF (c1_eq_F w10 (by omega))) ?_
          refine evx_F E84 D84_61 rfl rfl ?_
          refine evx_F E84 D84_62 rfl rfl ?_
          cases hs
          exact evx_ret E84 D84_66 rfl (fun d => rfl) rfl (show rg _ from (by decide)) R9
    · rw [if_neg cb2] at hs
      refine evx_F E84 D84_13 rfl (ifF (c2_ge_F rx4 rx2 (by omega))) ?_
      refine evx_F E84 D84_16 rfl rfl ?_
      refine evx_F E84 D84_17 rfl rfl ?_
      by_cases cb13 : x3 = (-1)
      · rw [if_pos cb13] at hs
        refine evx_F E84 D84_18 rfl (ifT (c2_eq_T rx3 (by decide) cb13)) ?_
        refine evx_F E84 D84_34 rfl rfl ?_
        refine evx_F E84 D84_35 rfl rfl ?_
        by_cases cb14 : x3 = (-1)
        · rw [if_pos cb14] at hs
          refine evx_F E84 D84_36 rfl (ifT (c2_eq_T rx3 (by decide) cb14)) ?_
          refine evx_F E84 D84_65 rfl rfl ?_
          cases hs
          exact evx_ret E84 D84_66 rfl (fun d => rfl) rfl (show rg _ from (by decide)) R
        · rw [if_neg cb14] at hs
          refine evx_F E84 D84_36 rfl (ifF (c2_eq_F rx3 (by decide) (by omega))) ?_
          refine evx_F E84 D84_39 rfl rfl ?_
          refine evx_gfr E84 D84_40 F84_12 H24 rfl R ?_
          refine evx_F E84 D84_43 rfl rfl ?_
          refine evx_gfr E84 D84_44 F84_25 H24 rfl R ?_
          refine evx_F E84 D84_47 rfl rfl ?_
          obtain ⟨k15, hs⟩ := ck hs
          refine evx_ial E84 D84_48 H36 (by decide) R k15 ?_
          refine evx_F E84 D84_49 rfl rfl ?_
          refine evx_gfr E84 D84_50 F84_28 H24 rfl R ?_
          refine evx_F E84 D84_53 rfl rfl ?_
          obtain ⟨k16, hs⟩ := ck hs
          refine evx_ial E84 D84_54 H37 (by decide) R k16 ?_
          obtain ⟨⟨q18, M22⟩, e17, hs⟩ := Option.bind_eq_some_iff.mp hs
          dsimp only at hs
          refine evx_cv (D := 2) E84 D84_55 I84_96 rfl rfl H25 ⟨Nat.le_of_ble_eq_true rfl, Nat.le_of_ble_eq_true rfl⟩ ⟨rfl, Nat.le_of_ble_eq_true rfl⟩ rfl R (evx_up (Nat.le_of_ble_eq_true rfl) (c79 R (R.1 36 (Int.toNat x1)) (R.1 37 (Int.toNat x3)) e17)) ?_
          intro h19 R20 w21
          have w21 : rg q18 := w21
          show evx _ _ _ _ _ _ (.inl (iz q18) :: _) _ _ _
          by_cases cb23 : q18 = 0
          · rw [if_pos cb23] at hs
            refine evx_F E84 D84_58 rfl (ifT (c1_eq_T w21 cb23)) ?_
            refine evx_F E84 D84_65 rfl rfl ?_
            cases hs
            exact evx_ret E84 D84_66 rfl (fun d => rfl) rfl (show rg _ from (by decide)) R20
          · rw [if_neg cb23] at hs
            refine evx_F E84 D84_58 rfl (ifF (c1_eq_F w21 (by omega))) ?_
            refine evx_F E84 D84_61 rfl rfl ?_
            refine evx_F E84 D84_62 rfl rfl ?_
            cases hs
            exact evx_ret E84 D84_66 rfl (fun d => rfl) rfl (show rg _ from (by decide)) R20
      · rw [if_neg cb13] at hs
        refine evx_F E84 D84_18 rfl (ifF (c2_eq_F rx3 (by decide) (by omega))) ?_
        refine evx_F E84 D84_21 rfl rfl ?_
        refine evx_gfr E84 D84_22 F84_22 H24 rfl R ?_
        refine evx_F E84 D84_25 rfl rfl ?_
        obtain ⟨k24, hs⟩ := ck hs
        refine evx_ial E84 D84_26 H35 (by decide) R k24 ?_
        refine evx_F E84 D84_27 rfl rfl ?_
        refine evx_inc E84 D84_28 (Nat.le_of_ble_eq_true rfl) rfl ?_
        refine evx_F E84 D84_31 rfl rfl ?_
        obtain ⟨k25, hs⟩ := ck hs
        show evx _ _ _ _ _ [(4, .inl (iz (x4 + 1))), (3, .inl (iz (M 35 (Int.toNat x3)))), (0, .inr (.inr (.inl (some 24)))), (1, .inl (iz x1)), (2, .inl (iz x2))] _ _ _ _
        exact evx_lv (lvLe_mk (fm rfl (fm rfl (fm rfl (fm rfl (fm rfl fn))))) (fm rfl (fm rfl (fm rfl (fm rfl (fm rfl fn))))) (fm rfl (fm rfl (fm rfl (fm rfl (fm rfl fn)))))) (ih _ _ _ _ _ _ _ _ hs R rx1 rx2 (R.1 35 (Int.toNat x3)) k25)
def f84 (M : Mm) (x1 : Int) (x2 : Int) : Option (Int × Mm) := if 0 ≤ x1 ∧ x1 < 60 then (l84 FU 10 M x1 x2 (M 35 (Int.toNat x1)) 0) else none
theorem c84 {L : Nat} {xs : Nat → Int32} {h : mvH} {M : Mm} {x1 x2 : Int} {v : Int} {M' : Mm} (R : rp h M) (rx1 : rg x1) (rx2 : rg x2) (hs : f84 M x1 x2 = some (v, M')) : evx L xs 3 84 0 [(0, .inr (.inr (.inl (some 24)))), (1, .inl (iz x1)), (2, .inl (iz x2))] [] h (.inl (some (.inl v)), 0) M' := by
  unfold f84 at hs
  refine evx_F E84 D84_0 rfl rfl ?_
  refine evx_gfr E84 D84_1 F84_22 H24 rfl R ?_
  refine evx_F E84 D84_4 rfl rfl ?_
  obtain ⟨k1, hs⟩ := ck hs
  refine evx_ial E84 D84_5 H35 (by decide) R k1 ?_
  refine evx_F E84 D84_6 rfl rfl ?_
  refine evx_F E84 D84_7 rfl rfl ?_
  refine evx_F E84 D84_8 rfl rfl ?_
  show evx _ _ _ _ _ [(4, .inl (iz 0)), (3, .inl (iz (M 35 (Int.toNat x1)))), (0, .inr (.inr (.inl (some 24)))), (1, .inl (iz x1)), (2, .inl (iz x2))] _ _ _ _
  exact evx_lv (lvLe_mk (fm rfl (fm rfl (fm rfl (fm rfl (fm rfl fn))))) (fm rfl (fm rfl (fm rfl (fm rfl (fm rfl fn))))) (fm rfl (fm rfl (fm rfl (fm rfl (fm rfl fn)))))) ((d84 FU) _ _ _ _ _ _ _ _ hs R rx1 rx2 (R.1 35 (Int.toNat x1)) (by decide))
set_option maxRecDepth 20000 in
theorem E87 : pgMm 87 = some (⟨"DictionaryHouse$TypeTable", "variablesIn", "(I)I"⟩, prog_11_method_7_code, 2, (some .int), []) := rfl
theorem D87_0 : pgDecT 87 0 = some (.aload_n 0, 1) := by decide +kernel
theorem D87_1 : pgDecT 87 1 = some (.getfield 18, 3) := by decide +kernel
theorem F87_18 : pgFf 87 18 = some (9, 2, 3) := by decide +kernel
theorem D87_4 : pgDecT 87 4 = some (.iload_n 1, 1) := by decide +kernel
theorem D87_5 : pgDecT 87 5 = some (.iaload, 1) := by decide +kernel
theorem D87_6 : pgDecT 87 6 = some (.invokestatic 25, 3) := by decide +kernel
theorem I87_25 : pgIi 87 25 = some (88, 1, 100) := by decide +kernel
theorem D87_9 : pgDecT 87 9 = some (.ireturn, 1) := by decide +kernel
/-! 87: DictionaryHouse$TypeTable.variablesIn (I)I -/
def f87 (M : Mm) (x1 : Int) : Option Int := if 0 ≤ x1 ∧ x1 < 40 then (f88 M (M 4 (Int.toNat x1))).bind (fun q3 => some q3) else none
theorem c87 {L : Nat} {xs : Nat → Int32} {h : mvH} {M : Mm} {x1 : Int} {v : Int} (R : rp h M) (rx1 : rg x1) (hs : f87 M x1 = some v) : evx L xs 2 87 0 [(0, .inr (.inr (.inl (some 1)))), (1, .inl (iz x1))] [] h (.inl (some (.inl v)), 0) M := by
  unfold f87 at hs
  refine evx_F E87 D87_0 rfl rfl ?_
  refine evx_gfr E87 D87_1 F87_18 H1 rfl R ?_
  refine evx_F E87 D87_4 rfl rfl ?_
  obtain ⟨k1, hs⟩ := ck hs
  refine evx_ial E87 D87_5 H4 (by decide) R k1 ?_
  obtain ⟨q3, e2, hs⟩ := Option.bind_eq_some_iff.mp hs
  refine evx_cs (D := 1) E87 D87_6 I87_25 rfl rfl (Nat.le_of_ble_eq_true rfl) ⟨rfl, Nat.le_of_ble_eq_true rfl⟩ rfl (evx_up (Nat.le_of_ble_eq_true rfl) (c88 R (R.1 4 (Int.toNat x1)) e2)) ?_
  intro h4 R5 w6
  have w6 : rg q3 := w6
  show evx _ _ _ _ _ _ (.inl (iz q3) :: _) _ _ _
  cases hs
  exact evx_ret E87 D87_9 rfl (fun d => rfl) rfl (show rg _ from w6) R5
