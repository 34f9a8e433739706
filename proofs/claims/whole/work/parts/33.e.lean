/-! More methods as functions, printed by a program. -/
set_option maxRecDepth 20000 in
theorem E225 : pgMm 225 = some (⟨"DictionaryHouseModel", "isEndless", "()Z"⟩, prog_14_method_32_code, 5, (some .boolean), []) := rfl
theorem D225_0 : pgDecT 225 0 = some (.iconst 0, 1) := by decide +kernel
theorem D225_1 : pgDecT 225 1 = some (.istore_n 1, 1) := by decide +kernel
theorem D225_2 : pgDecT 225 2 = some (.iload_n 1, 1) := by decide +kernel
theorem D225_3 : pgDecT 225 3 = some (.aload_n 0, 1) := by decide +kernel
theorem D225_4 : pgDecT 225 4 = some (.getfield 226, 3) := by decide +kernel
theorem F225_226 : pgFf 225 226 = some (12, 28, 0) := by decide +kernel
theorem D225_7 : pgDecT 225 7 = some (.if_icmp .ge 16, 3) := by decide +kernel
theorem D225_23 : pgDecT 225 23 = some (.iconst 1, 1) := by decide +kernel
theorem D225_24 : pgDecT 225 24 = some (.istore_n 1, 1) := by decide +kernel
theorem D225_25 : pgDecT 225 25 = some (.iload_n 1, 1) := by decide +kernel
theorem D225_10 : pgDecT 225 10 = some (.aload_n 0, 1) := by decide +kernel
theorem D225_11 : pgDecT 225 11 = some (.getfield 91, 3) := by decide +kernel
theorem F225_91 : pgFf 225 91 = some (12, 33, 3) := by decide +kernel
theorem D225_14 : pgDecT 225 14 = some (.iload_n 1, 1) := by decide +kernel
theorem D225_15 : pgDecT 225 15 = some (.iconst 0, 1) := by decide +kernel
theorem D225_16 : pgDecT 225 16 = some (.iastore, 1) := by decide +kernel
theorem D225_17 : pgDecT 225 17 = some (.iinc 1 1, 3) := by decide +kernel
theorem D225_20 : pgDecT 225 20 = some (.goto (-18), 3) := by decide +kernel
theorem D225_26 : pgDecT 225 26 = some (.ifCond .eq 149, 3) := by decide +kernel
theorem D225_175 : pgDecT 225 175 = some (.iconst 0, 1) := by decide +kernel
theorem D225_176 : pgDecT 225 176 = some (.istore_n 2, 1) := by decide +kernel
theorem D225_177 : pgDecT 225 177 = some (.iload_n 2, 1) := by decide +kernel
theorem D225_29 : pgDecT 225 29 = some (.iconst 0, 1) := by decide +kernel
theorem D225_30 : pgDecT 225 30 = some (.istore_n 1, 1) := by decide +kernel
theorem D225_31 : pgDecT 225 31 = some (.iconst 0, 1) := by decide +kernel
theorem D225_32 : pgDecT 225 32 = some (.istore_n 2, 1) := by decide +kernel
theorem D225_33 : pgDecT 225 33 = some (.iload_n 2, 1) := by decide +kernel
theorem D225_178 : pgDecT 225 178 = some (.aload_n 0, 1) := by decide +kernel
theorem D225_179 : pgDecT 225 179 = some (.getfield 226, 3) := by decide +kernel
theorem D225_182 : pgDecT 225 182 = some (.if_icmp .ge 30, 3) := by decide +kernel
theorem D225_212 : pgDecT 225 212 = some (.iconst 0, 1) := by decide +kernel
theorem D225_213 : pgDecT 225 213 = some (.ireturn, 1) := by decide +kernel
theorem D225_185 : pgDecT 225 185 = some (.aload_n 0, 1) := by decide +kernel
theorem D225_186 : pgDecT 225 186 = some (.getfield 88, 3) := by decide +kernel
theorem F225_88 : pgFf 225 88 = some (12, 32, 3) := by decide +kernel
theorem D225_189 : pgDecT 225 189 = some (.iload_n 2, 1) := by decide +kernel
theorem D225_190 : pgDecT 225 190 = some (.iaload, 1) := by decide +kernel
theorem D225_191 : pgDecT 225 191 = some (.iload_n 2, 1) := by decide +kernel
theorem D225_192 : pgDecT 225 192 = some (.if_icmp .ne 14, 3) := by decide +kernel
theorem D225_206 : pgDecT 225 206 = some (.iinc 2 1, 3) := by decide +kernel
theorem D225_209 : pgDecT 225 209 = some (.goto (-32), 3) := by decide +kernel
theorem D225_195 : pgDecT 225 195 = some (.aload_n 0, 1) := by decide +kernel
theorem D225_196 : pgDecT 225 196 = some (.getfield 91, 3) := by decide +kernel
theorem D225_199 : pgDecT 225 199 = some (.iload_n 2, 1) := by decide +kernel
theorem D225_200 : pgDecT 225 200 = some (.iaload, 1) := by decide +kernel
theorem D225_201 : pgDecT 225 201 = some (.ifCond .ne 5, 3) := by decide +kernel
theorem D225_204 : pgDecT 225 204 = some (.iconst 1, 1) := by decide +kernel
theorem D225_205 : pgDecT 225 205 = some (.ireturn, 1) := by decide +kernel
theorem D225_34 : pgDecT 225 34 = some (.aload_n 0, 1) := by decide +kernel
theorem D225_35 : pgDecT 225 35 = some (.getfield 226, 3) := by decide +kernel
theorem D225_38 : pgDecT 225 38 = some (.if_icmp .ge 134, 3) := by decide +kernel
theorem D225_172 : pgDecT 225 172 = some (.goto (-147), 3) := by decide +kernel
theorem D225_41 : pgDecT 225 41 = some (.aload_n 0, 1) := by decide +kernel
theorem D225_42 : pgDecT 225 42 = some (.getfield 88, 3) := by decide +kernel
theorem D225_45 : pgDecT 225 45 = some (.iload_n 2, 1) := by decide +kernel
theorem D225_46 : pgDecT 225 46 = some (.iaload, 1) := by decide +kernel
theorem D225_47 : pgDecT 225 47 = some (.iload_n 2, 1) := by decide +kernel
theorem D225_48 : pgDecT 225 48 = some (.if_icmp .ne 118, 3) := by decide +kernel
theorem D225_166 : pgDecT 225 166 = some (.iinc 2 1, 3) := by decide +kernel
theorem D225_169 : pgDecT 225 169 = some (.goto (-136), 3) := by decide +kernel
theorem D225_51 : pgDecT 225 51 = some (.aload_n 0, 1) := by decide +kernel
theorem D225_52 : pgDecT 225 52 = some (.getfield 91, 3) := by decide +kernel
theorem D225_55 : pgDecT 225 55 = some (.iload_n 2, 1) := by decide +kernel
theorem D225_56 : pgDecT 225 56 = some (.iaload, 1) := by decide +kernel
theorem D225_57 : pgDecT 225 57 = some (.iconst 1, 1) := by decide +kernel
theorem D225_58 : pgDecT 225 58 = some (.if_icmp .ne 6, 3) := by decide +kernel
theorem D225_64 : pgDecT 225 64 = some (.aload_n 0, 1) := by decide +kernel
theorem D225_65 : pgDecT 225 65 = some (.getfield 79, 3) := by decide +kernel
theorem F225_79 : pgFf 225 79 = some (12, 29, 3) := by decide +kernel
theorem D225_68 : pgDecT 225 68 = some (.iload_n 2, 1) := by decide +kernel
theorem D225_69 : pgDecT 225 69 = some (.iaload, 1) := by decide +kernel
theorem D225_70 : pgDecT 225 70 = some (.iconst 3, 1) := by decide +kernel
theorem D225_71 : pgDecT 225 71 = some (.if_icmp .eq 13, 3) := by decide +kernel
theorem D225_84 : pgDecT 225 84 = some (.aload_n 0, 1) := by decide +kernel
theorem D225_85 : pgDecT 225 85 = some (.getfield 91, 3) := by decide +kernel
theorem D225_88 : pgDecT 225 88 = some (.aload_n 0, 1) := by decide +kernel
theorem D225_89 : pgDecT 225 89 = some (.aload_n 0, 1) := by decide +kernel
theorem D225_90 : pgDecT 225 90 = some (.getfield 82, 3) := by decide +kernel
theorem F225_82 : pgFf 225 82 = some (12, 30, 3) := by decide +kernel
theorem D225_93 : pgDecT 225 93 = some (.iload_n 2, 1) := by decide +kernel
theorem D225_94 : pgDecT 225 94 = some (.iaload, 1) := by decide +kernel
theorem D225_95 : pgDecT 225 95 = some (.invokevirtual 240, 3) := by decide +kernel
theorem I225_240 : pgIi 225 240 = some (217, 1, 12) := by decide +kernel
theorem D225_98 : pgDecT 225 98 = some (.iaload, 1) := by decide +kernel
theorem D225_99 : pgDecT 225 99 = some (.iconst 1, 1) := by decide +kernel
theorem D225_100 : pgDecT 225 100 = some (.if_icmp .ne 7, 3) := by decide +kernel
theorem D225_107 : pgDecT 225 107 = some (.iconst 0, 1) := by decide +kernel
theorem D225_108 : pgDecT 225 108 = some (.istore_n 3, 1) := by decide +kernel
theorem D225_109 : pgDecT 225 109 = some (.aload_n 0, 1) := by decide +kernel
theorem D225_110 : pgDecT 225 110 = some (.getfield 79, 3) := by decide +kernel
theorem D225_113 : pgDecT 225 113 = some (.iload_n 2, 1) := by decide +kernel
theorem D225_114 : pgDecT 225 114 = some (.iaload, 1) := by decide +kernel
theorem D225_115 : pgDecT 225 115 = some (.iconst 4, 1) := by decide +kernel
theorem D225_116 : pgDecT 225 116 = some (.if_icmp .ne 22, 3) := by decide +kernel
theorem D225_138 : pgDecT 225 138 = some (.iconst 1, 1) := by decide +kernel
theorem D225_139 : pgDecT 225 139 = some (.goto 4, 3) := by decide +kernel
theorem D225_143 : pgDecT 225 143 = some (.istore 4, 2) := by decide +kernel
theorem D225_145 : pgDecT 225 145 = some (.iload_n 3, 1) := by decide +kernel
theorem D225_146 : pgDecT 225 146 = some (.ifCond .eq 20, 3) := by decide +kernel
theorem D225_119 : pgDecT 225 119 = some (.aload_n 0, 1) := by decide +kernel
theorem D225_120 : pgDecT 225 120 = some (.getfield 91, 3) := by decide +kernel
theorem D225_123 : pgDecT 225 123 = some (.aload_n 0, 1) := by decide +kernel
theorem D225_124 : pgDecT 225 124 = some (.aload_n 0, 1) := by decide +kernel
theorem D225_125 : pgDecT 225 125 = some (.getfield 85, 3) := by decide +kernel
theorem F225_85 : pgFf 225 85 = some (12, 31, 3) := by decide +kernel
theorem D225_128 : pgDecT 225 128 = some (.iload_n 2, 1) := by decide +kernel
theorem D225_129 : pgDecT 225 129 = some (.iaload, 1) := by decide +kernel
theorem D225_130 : pgDecT 225 130 = some (.invokevirtual 240, 3) := by decide +kernel
theorem D225_133 : pgDecT 225 133 = some (.iaload, 1) := by decide +kernel
theorem D225_134 : pgDecT 225 134 = some (.iconst 1, 1) := by decide +kernel
theorem D225_135 : pgDecT 225 135 = some (.if_icmp .ne 7, 3) := by decide +kernel
theorem D225_142 : pgDecT 225 142 = some (.iconst 0, 1) := by decide +kernel
theorem D225_103 : pgDecT 225 103 = some (.iconst 1, 1) := by decide +kernel
theorem D225_104 : pgDecT 225 104 = some (.goto 4, 3) := by decide +kernel
theorem D225_149 : pgDecT 225 149 = some (.iload 4, 2) := by decide +kernel
theorem D225_151 : pgDecT 225 151 = some (.ifCond .ne 6, 3) := by decide +kernel
theorem D225_157 : pgDecT 225 157 = some (.aload_n 0, 1) := by decide +kernel
theorem D225_158 : pgDecT 225 158 = some (.getfield 91, 3) := by decide +kernel
theorem D225_161 : pgDecT 225 161 = some (.iload_n 2, 1) := by decide +kernel
theorem D225_162 : pgDecT 225 162 = some (.iconst 1, 1) := by decide +kernel
theorem D225_163 : pgDecT 225 163 = some (.iastore, 1) := by decide +kernel
theorem D225_164 : pgDecT 225 164 = some (.iconst 1, 1) := by decide +kernel
theorem D225_165 : pgDecT 225 165 = some (.istore_n 1, 1) := by decide +kernel
theorem D225_154 : pgDecT 225 154 = some (.goto 12, 3) := by decide +kernel
theorem D225_74 : pgDecT 225 74 = some (.aload_n 0, 1) := by decide +kernel
theorem D225_75 : pgDecT 225 75 = some (.getfield 79, 3) := by decide +kernel
theorem D225_78 : pgDecT 225 78 = some (.iload_n 2, 1) := by decide +kernel
theorem D225_79 : pgDecT 225 79 = some (.iaload, 1) := by decide +kernel
theorem D225_80 : pgDecT 225 80 = some (.iconst 4, 1) := by decide +kernel
theorem D225_81 : pgDecT 225 81 = some (.if_icmp .ne 22, 3) := by decide +kernel
theorem D225_61 : pgDecT 225 61 = some (.goto 105, 3) := by decide +kernel
/-! 225: DictionaryHouseModel.isEndless ()Z -/
def l225 : Nat → Nat → Mm → Int → Int → Int → Int → Option (Int × Mm)
  | 0, _, _, _, _, _, _ => none
  | f + 1, 2, M, x1, _, _, _ => if (M 53 28) ≤ x1 then (l225 f 25 M 1 0 0 0) else (if 0 ≤ x1 ∧ x1 < 4000 then (if rg (x1 + 1) then (l225 f 2 (up M 80 (Int.toNat x1) 0) (x1 + 1) 0 0 0) else none) else none)
  | f + 1, 25, M, x1, _, _, _ => if x1 = 0 then (l225 f 177 M x1 0 0 0) else (l225 f 33 M 0 0 0 0)
  | f + 1, 177, M, x1, x2, _, _ => if (M 53 28) ≤ x2 then (some (0, M)) else (if 0 ≤ x2 ∧ x2 < 4000 then (if ¬ (M 79 (Int.toNat x2)) = x2 then (l225 f 206 M x1 x2 0 0) else (if ¬ (M 80 (Int.toNat x2)) = 0 then (l225 f 206 M x1 x2 0 0) else (some (1, M)))) else none)
  | f + 1, 33, M, x1, x2, _, _ => if (M 53 28) ≤ x2 then (l225 f 25 M x1 0 0 0) else (if 0 ≤ x2 ∧ x2 < 4000 then (if ¬ (M 79 (Int.toNat x2)) = x2 then (l225 f 166 M x1 x2 0 0) else (if ¬ (M 80 (Int.toNat x2)) = 1 then (if (M 76 (Int.toNat x2)) = 3 then (l225 f 84 M x1 x2 0 0) else (if ¬ (M 76 (Int.toNat x2)) = 4 then (l225 f 103 M x1 x2 0 0) else (l225 f 84 M x1 x2 0 0))) else (l225 f 166 M x1 x2 0 0))) else none)
  | f + 1, 206, M, x1, x2, _, _ => if rg (x2 + 1) then (l225 f 177 M x1 (x2 + 1) 0 0) else none
  | f + 1, 166, M, x1, x2, _, _ => if rg (x2 + 1) then (l225 f 33 M x1 (x2 + 1) 0 0) else none
  | f + 1, 84, M, x1, x2, _, _ => if 0 ≤ x2 ∧ x2 < 4000 then (f217 M (M 77 (Int.toNat x2))).bind (fun q21 => if 0 ≤ q21 ∧ q21 < 4000 then (if ¬ (M 80 (Int.toNat q21)) = 1 then (l225 f 109 M x1 x2 0 0) else (l225 f 103 M x1 x2 0 0)) else none) else none
  | f + 1, 103, M, x1, x2, _, _ => l225 f 109 M x1 x2 1 0
  | f + 1, 109, M, x1, x2, x3, _ => if 0 ≤ x2 ∧ x2 < 4000 then (if ¬ (M 76 (Int.toNat x2)) = 4 then (l225 f 138 M x1 x2 x3 0) else (f217 M (M 78 (Int.toNat x2))).bind (fun q30 => if 0 ≤ q30 ∧ q30 < 4000 then (if ¬ (M 80 (Int.toNat q30)) = 1 then (l225 f 145 M x1 x2 x3 0) else (l225 f 138 M x1 x2 x3 0)) else none)) else none
  | f + 1, 138, M, x1, x2, x3, _ => l225 f 145 M x1 x2 x3 1
  | f + 1, 145, M, x1, x2, x3, x4 => if x3 = 0 then (l225 f 166 M x1 x2 0 0) else (if ¬ x4 = 0 then (if 0 ≤ x2 ∧ x2 < 4000 then (l225 f 166 (up M 80 (Int.toNat x2) 1) 1 x2 0 0) else none) else (l225 f 166 M x1 x2 0 0))
  | _, _, _, _, _, _, _ => none
theorem d225 {L : Nat} {xs : Nat → Int32} (f : Nat) : (∀ (M : Mm) (x1 : Int) (h : mvH) (v : Int) (M' : Mm), l225 f 2 M x1 0 0 0 = some (v, M') → rp h M → rg x1 → evx L xs 2 225 2 [(0, .inr (.inr (.inl (some 53)))), (1, .inl (iz x1))] [] h (.inl (some (.inl v)), 0) M') ∧ (∀ (M : Mm) (x1 : Int) (h : mvH) (v : Int) (M' : Mm), l225 f 25 M x1 0 0 0 = some (v, M') → rp h M → rg x1 → evx L xs 2 225 25 [(0, .inr (.inr (.inl (some 53)))), (1, .inl (iz x1))] [] h (.inl (some (.inl v)), 0) M') ∧ (∀ (M : Mm) (x1 x2 : Int) (h : mvH) (v : Int) (M' : Mm), l225 f 177 M x1 x2 0 0 = some (v, M') → rp h M → rg x1 → rg x2 → evx L xs 2 225 177 [(0, .inr (.inr (.inl (some 53)))), (1, .inl (iz x1)), (2, .inl (iz x2))] [] h (.inl (some (.inl v)), 0) M') ∧ (∀ (M : Mm) (x1 x2 : Int) (h : mvH) (v : Int) (M' : Mm), l225 f 33 M x1 x2 0 0 = some (v, M') → rp h M → rg x1 → rg x2 → evx L xs 2 225 33 [(0, .inr (.inr (.inl (some 53)))), (1, .inl (iz x1)), (2, .inl (iz x2))] [] h (.inl (some (.inl v)), 0) M') ∧ (∀ (M : Mm) (x1 x2 : Int) (h : mvH) (v : Int) (M' : Mm), l225 f 206 M x1 x2 0 0 = some (v, M') → rp h M → rg x1 → rg x2 → evx L xs 2 225 206 [(0, .inr (.inr (.inl (some 53)))), (1, .inl (iz x1)), (2, .inl (iz x2))] [] h (.inl (some (.inl v)), 0) M') ∧ (∀ (M : Mm) (x1 x2 : Int) (h : mvH) (v : Int) (M' : Mm), l225 f 166 M x1 x2 0 0 = some (v, M') → rp h M → rg x1 → rg x2 → evx L xs 2 225 166 [(0, .inr (.inr (.inl (some 53)))), (1, .inl (iz x1)), (2, .inl (iz x2))] [] h (.inl (some (.inl v)), 0) M') ∧ (∀ (M : Mm) (x1 x2 : Int) (h : mvH) (v : Int) (M' : Mm), l225 f 84 M x1 x2 0 0 = some (v, M') → rp h M → rg x1 → rg x2 → evx L xs 2 225 84 [(0, .inr (.inr (.inl (some 53)))), (1, .inl (iz x1)), (2, .inl (iz x2))] [] h (.inl (some (.inl v)), 0) M') ∧ (∀ (M : Mm) (x1 x2 : Int) (h : mvH) (v : Int) (M' : Mm), l225 f 103 M x1 x2 0 0 = some (v, M') → rp h M → rg x1 → rg x2 → evx L xs 2 225 103 [(0, .inr (.inr (.inl (some 53)))), (1, .inl (iz x1)), (2, .inl (iz x2))] [] h (.inl (some (.inl v)), 0) M') ∧ (∀ (M : Mm) (x1 x2 x3 : Int) (h : mvH) (v : Int) (M' : Mm), l225 f 109 M x1 x2 x3 0 = some (v, M') → rp h M → rg x1 → rg x2 → rg x3 → evx L xs 2 225 109 [(0, .inr (.inr (.inl (some 53)))), (1, .inl (iz x1)), (2, .inl (iz x2)), (3, .inl (iz x3))] [] h (.inl (some (.inl v)), 0) M') ∧ (∀ (M : Mm) (x1 x2 x3 : Int) (h : mvH) (v : Int) (M' : Mm), l225 f 138 M x1 x2 x3 0 = some (v, M') → rp h M → rg x1 → rg x2 → rg x3 → evx L xs 2 225 138 [(0, .inr (.inr (.inl (some 53)))), (1, .inl (iz x1)), (2, .inl (iz x2)), (3, .inl (iz x3))] [] h (.inl (some (.inl v)), 0) M') ∧ (∀ (M : Mm) (x1 x2 x3 x4 : Int) (h : mvH) (v : Int) (M' : Mm), l225 f 145 M x1 x2 x3 x4 = some (v, M') → rp h M → rg x1 → rg x2 → rg x3 → rg x4 → evx L xs 2 225 145 [(0, .inr (.inr (.inl (some 53)))), (1, .inl (iz x1)), (2, .inl (iz x2)), (3, .inl (iz x3)), (4, .inl (iz x4))] [] h (.inl (some (.inl v)), 0) M') := by
  induction f with
  | zero => exact ⟨(fun M x1 h v M' hs _ _ => by cases hs), (fun M x1 h v M' hs _ _ => by cases hs), (fun M x1 x2 h v M' hs _ _ _ => by cases hs), (fun M x1 x2 h v M' hs _ _ _ => by cases hs), (fun M x1 x2 h v M' hs _ _ _ => by cases hs), (fun M x1 x2 h v M' hs _ _ _ => by cases hs), (fun M x1 x2 h v M' hs _ _ _ => by cases hs), (fun M x1 x2 h v M' hs _ _ _ => by cases hs), (fun M x1 x2 x3 h v M' hs _ _ _ _ => by cases hs), (fun M x1 x2 x3 h v M' hs _ _ _ _ => by cases hs), (fun M x1 x2 x3 x4 h v M' hs _ _ _ _ _ => by cases hs)⟩
  | succ f ih =>
    refine ⟨?_, ?_, ?_, ?_, ?_, ?_, ?_, ?_, ?_, ?_, ?_⟩
    · intro M x1 h v M' hs R rx1
      rw [l225] at hs
      refine evx_F E225 D225_2 rfl rfl ?_
      refine evx_F E225 D225_3 rfl rfl ?_
      refine evx_gfi (k := 28) E225 D225_4 F225_226 H53 rfl R ?_
      by_cases cb1 : (M 53 28) ≤ x1
      · rw [if_pos cb1] at hs
        refine evx_F E225 D225_7 rfl (ifT (c2_ge_T rx1 (R.1 53 28) cb1)) ?_
        refine evx_F E225 D225_23 rfl rfl ?_
        refine evx_F E225 D225_24 rfl rfl ?_
        show evx _ _ _ _ _ [(1, .inl (iz 1)), (0, .inr (.inr (.inl (some 53))))] _ _ _ _
        exact evx_lv (lvLe_mk (fm rfl (fm rfl fn)) (fm rfl (fm rfl fn)) (fm rfl (fm rfl fn))) (ih.2.1 _ _ _ _ _ hs R (by decide))
      · rw [if_neg cb1] at hs
        refine evx_F E225 D225_7 rfl (ifF (c2_ge_F rx1 (R.1 53 28) (by omega))) ?_
        refine evx_F E225 D225_10 rfl rfl ?_
        refine evx_gfr E225 D225_11 F225_91 H53 rfl R ?_
        refine evx_F E225 D225_14 rfl rfl ?_
        refine evx_F E225 D225_15 rfl rfl ?_
        obtain ⟨k2, hs⟩ := ck hs
        refine evx_ias E225 D225_16 H80 (by decide) R k2 (by decide) ?_
        intro h3 R4
        refine evx_inc E225 D225_17 (Nat.le_of_ble_eq_true rfl) rfl ?_
        refine evx_F E225 D225_20 rfl rfl ?_
        obtain ⟨k5, hs⟩ := ck hs
        show evx _ _ _ _ _ [(1, .inl (iz (x1 + 1))), (0, .inr (.inr (.inl (some 53))))] _ _ _ _
        exact evx_lv (lvLe_mk (fm rfl (fm rfl fn)) (fm rfl (fm rfl fn)) (fm rfl (fm rfl fn))) (ih.1 _ _ _ _ _ hs R4 k5)
    · intro M x1 h v M' hs R rx1
      rw [l225] at hs
      refine evx_F E225 D225_25 rfl rfl ?_
      by_cases cb6 : x1 = 0
      · rw [if_pos cb6] at hs
        refine evx_F E225 D225_26 rfl (ifT (c1_eq_T rx1 cb6)) ?_
        refine evx_F E225 D225_175 rfl rfl ?_
        refine evx_F E225 D225_176 rfl rfl ?_
        show evx _ _ _ _ _ [(2, .inl (iz 0)), (0, .inr (.inr (.inl (some 53)))), (1, .inl (iz x1))] _ _ _ _
        exact evx_lv (lvLe_mk (fm rfl (fm rfl (fm rfl fn))) (fm rfl (fm rfl (fm rfl fn))) (fm rfl (fm rfl (fm rfl fn)))) (ih.2.2.1 _ _ _ _ _ _ hs R rx1 (by decide))
      · rw [if_neg cb6] at hs
        refine evx_F E225 D225_26 rfl (ifF (c1_eq_F rx1 (by omega))) ?_
        refine evx_F E225 D225_29 rfl rfl ?_
        refine evx_F E225 D225_30 rfl rfl ?_
        refine evx_F E225 D225_31 rfl rfl ?_
        refine evx_F E225 D225_32 rfl rfl ?_
        show evx _ _ _ _ _ [(2, .inl (iz 0)), (1, .inl (iz 0)), (0, .inr (.inr (.inl (some 53))))] _ _ _ _
        exact evx_lv (lvLe_mk (fm rfl (fm rfl (fm rfl fn))) (fm rfl (fm rfl (fm rfl fn))) (fm rfl (fm rfl (fm rfl fn)))) (ih.2.2.2.1 _ _ _ _ _ _ hs R (by decide) (by decide))
    · intro M x1 x2 h v M' hs R rx1 rx2
      rw [l225] at hs
      refine evx_F E225 D225_177 rfl rfl ?_
      refine evx_F E225 D225_178 rfl rfl ?_
      refine evx_gfi (k := 28) E225 D225_179 F225_226 H53 rfl R ?_
      by_cases cb7 : (M 53 28) ≤ x2
      · rw [if_pos cb7] at hs
        refine evx_F E225 D225_182 rfl (ifT (c2_ge_T rx2 (R.1 53 28) cb7)) ?_
        refine evx_F E225 D225_212 rfl rfl ?_
        cases hs
        exact evx_ret E225 D225_213 rfl (fun d => rfl) rfl (show rg _ from (by decide)) R
      · rw [if_neg cb7] at hs
        refine evx_F E225 D225_182 rfl (ifF (c2_ge_F rx2 (R.1 53 28) (by omega))) ?_
        refine evx_F E225 D225_185 rfl rfl ?_
        refine evx_gfr E225 D225_186 F225_88 H53 rfl R ?_
        refine evx_F E225 D225_189 rfl rfl ?_
        obtain ⟨k8, hs⟩ := ck hs
        refine evx_ial E225 D225_190 H79 (by decide) R k8 ?_
        refine evx_F E225 D225_191 rfl rfl ?_
        by_cases cb9 : ¬ (M 79 (Int.toNat x2)) = x2
        · rw [if_pos cb9] at hs
          refine evx_F E225 D225_192 rfl (ifT (c2_ne_T (R.1 79 (Int.toNat x2)) rx2 cb9)) ?_
          show evx _ _ _ _ _ [(0, .inr (.inr (.inl (some 53)))), (1, .inl (iz x1)), (2, .inl (iz x2))] _ _ _ _
          exact evx_lv (lvLe_mk (fm rfl (fm rfl (fm rfl fn))) (fm rfl (fm rfl (fm rfl fn))) (fm rfl (fm rfl (fm rfl fn)))) (ih.2.2.2.2.1 _ _ _ _ _ _ hs R rx1 rx2)
        · rw [if_neg cb9] at hs
          refine evx_F E225 D225_192 rfl (ifF (c2_ne_F (R.1 79 (Int.toNat x2)) rx2 (by omega))) ?_
          refine evx_F E225 D225_195 rfl rfl ?_
          refine evx_gfr E225 D225_196 F225_91 H53 rfl R ?_
          refine evx_F E225 D225_199 rfl rfl ?_
          refine evx_ial E225 D225_200 H80 (by decide) R k8 ?_
          by_cases cb10 : ¬ (M 80 (Int.toNat x2)) = 0
          · rw [if_pos cb10] at hs
            refine evx_F E225 D225_201 rfl (ifT (c1_ne_T (R.1 80 (Int.toNat x2)) cb10)) ?_
            show evx _ _ _ _ _ [(0, .inr (.inr (.inl (some 53)))), (1, .inl (iz x1)), (2, .inl (iz x2))] _ _ _ _
            exact evx_lv (lvLe_mk (fm rfl (fm rfl (fm rfl fn))) (fm rfl (fm rfl (fm rfl fn))) (fm rfl (fm rfl (fm rfl fn)))) (ih.2.2.2.2.1 _ _ _ _ _ _ hs R rx1 rx2)
          · rw [if_neg cb10] at hs
            refine evx_F E225 D225_201 rfl (ifF (c1_ne_F (R.1 80 (Int.toNat x2)) (by omega))) ?_
            refine evx_F E225 D225_204 rfl rfl ?_
            cases hs
            exact evx_ret E225 D225_205 rfl (fun d => rfl) rfl (show rg _ from (by decide)) R
    · intro M x1 x2 h v M' hs R rx1 rx2
      rw [l225] at hs
      refine evx_F E225 D225_33 rfl rfl ?_
      refine evx_F E225 D225_34 rfl rfl ?_
      refine evx_gfi (k := 28) E225 D225_35 F225_226 H53 rfl R ?_
      by_cases cb11 : (M 53 28) ≤ x2
      · rw [if_pos cb11] at hs
        refine evx_F E225 D225_38 rfl (ifT (c2_ge_T rx2 (R.1 53 28) cb11)) ?_
        refine evx_F E225 D225_172 rfl rfl ?_
        show evx _ _ _ _ _ [(0, .inr (.inr (.inl (some 53)))), (1, .inl (iz x1)), (2, .inl (iz x2))] _ _ _ _
        exact evx_lv (lvLe_mk (fm rfl (fm rfl fn)) (fm rfl (fm rfl (fm rfl fn))) (fm rfl (fm rfl fn))) (ih.2.1 _ _ _ _ _ hs R rx1)
      · rw [if_neg cb11] at hs
        refine evx_F E225 D225_38 rfl (ifF (c2_ge_F rx2 (R.1 53 28) (by omega))) ?_
        refine evx_F E225 D225_41 rfl rfl ?_
        refine evx_gfr E225 D225_42 F225_88 H53 rfl R ?_
        refine evx_F E225 D225_45 rfl rfl ?_
        obtain ⟨k12, hs⟩ := ck hs
        refine evx_ial E225 D225_46 H79 (by decide) R k12 ?_
        refine evx_F E225 D225_47 rfl rfl ?_
        by_cases cb13 : ¬ (M 79 (Int.toNat x2)) = x2
        · rw [if_pos cb13] at hs
          refine evx_F E225 D225_48 rfl (ifT (c2_ne_T (R.1 79 (Int.toNat x2)) rx2 cb13)) ?_
          show evx _ _ _ _ _ [(0, .inr (.inr (.inl (some 53)))), (1, .inl (iz x1)), (2, .inl (iz x2))] _ _ _ _
          exact evx_lv (lvLe_mk (fm rfl (fm rfl (fm rfl fn))) (fm rfl (fm rfl (fm rfl fn))) (fm rfl (fm rfl (fm rfl fn)))) (ih.2.2.2.2.2.1 _ _ _ _ _ _ hs R rx1 rx2)
        · rw [if_neg cb13] at hs
          refine evx_F E225 D225_48 rfl (ifF (c2_ne_F (R.1 79 (Int.toNat x2)) rx2 (by omega))) ?_
          refine evx_F E225 D225_51 rfl rfl ?_
          refine evx_gfr E225 D225_52 F225_91 H53 rfl R ?_
          refine evx_F E225 D225_55 rfl rfl ?_
          refine evx_ial E225 D225_56 H80 (by decide) R k12 ?_
          refine evx_F E225 D225_57 rfl rfl ?_
          by_cases cb14 : ¬ (M 80 (Int.toNat x2)) = 1
          · rw [if_pos cb14] at hs
            refine evx_F E225 D225_58 rfl (ifT (c2_ne_T (R.1 80 (Int.toNat x2)) (by decide) cb14)) ?_
            refine evx_F E225 D225_64 rfl rfl ?_
            refine evx_gfr E225 D225_65 F225_79 H53 rfl R ?_
            refine evx_F E225 D225_68 rfl rfl ?_
            refine evx_ial E225 D225_69 H76 (by decide) R k12 ?_
            refine evx_F E225 D225_70 rfl rfl ?_
            by_cases cb15 : (M 76 (Int.toNat x2)) = 3
            · rw [if_pos cb15] at hs
              refine evx_F E225 D225_71 rfl (ifT (c2_eq_T (R.1 76 (Int.toNat x2)) (by decide) cb15)) ?_
              show evx _ _ _ _ _ [(0, .inr (.inr (.inl (some 53)))), (1, .inl (iz x1)), (2, .inl (iz x2))] _ _ _ _
              exact evx_lv (lvLe_mk (fm rfl (fm rfl (fm rfl fn))) (fm rfl (fm rfl (fm rfl fn))) (fm rfl (fm rfl (fm rfl fn)))) (ih.2.2.2.2.2.2.1 _ _ _ _ _ _ hs R rx1 rx2)
            · rw [if_neg cb15] at hs
              refine evx_F E225 D225_71 rfl (ifF (c2_eq_F (R.1 76 (Int.toNat x2)) (by decide) (by omega))) ?_
              refine evx_F E225 D225_74 rfl rfl ?_
              refine evx_gfr E225 D225_75 F225_79 H53 rfl R ?_
              refine evx_F E225 D225_78 rfl rfl ?_
              refine evx_ial E225 D225_79 H76 (by decide) R k12 ?_
              refine evx_F E225 D225_80 rfl rfl ?_
              by_cases cb16 : ¬ (M 76 (Int.toNat x2)) = 4
              · rw [if_pos cb16] at hs
                refine evx_F E225 D225_81 rfl (ifT (c2_ne_T (R.1 76 (Int.toNat x2)) (by decide) cb16)) ?_
                show evx _ _ _ _ _ [(0, .inr (.inr (.inl (some 53)))), (1, .inl (iz x1)), (2, .inl (iz x2))] _ _ _ _
                exact evx_lv (lvLe_mk (fm rfl (fm rfl (fm rfl fn))) (fm rfl (fm rfl (fm rfl fn))) (fm rfl (fm rfl (fm rfl fn)))) (ih.2.2.2.2.2.2.2.1 _ _ _ _ _ _ hs R rx1 rx2)
              · rw [if_neg cb16] at hs
                refine evx_F E225 D225_81 rfl (ifF (c2_ne_F (R.1 76 (Int.toNat x2)) (by decide) (by omega))) ?_
                show evx _ _ _ _ _ [(0, .inr (.inr (.inl (some 53)))), (1, .inl (iz x1)), (2, .inl (iz x2))] _ _ _ _
                exact evx_lv (lvLe_mk (fm rfl (fm rfl (fm rfl fn))) (fm rfl (fm rfl (fm rfl fn))) (fm rfl (fm rfl (fm rfl fn)))) (ih.2.2.2.2.2.2.1 _ _ _ _ _ _ hs R rx1 rx2)
          · rw [if_neg cb14] at hs
            refine evx_F E225 D225_58 rfl (ifF (c2_ne_F (R.1 80 (Int.toNat x2)) (by decide) (by omega))) ?_
            refine evx_F E225 D225_61 rfl rfl ?_
            show evx _ _ _ _ _ [(0, .inr (.inr (.inl (some 53)))), (1, .inl (iz x1)), (2, .inl (iz x2))] _ _ _ _
            exact evx_lv (lvLe_mk (fm rfl (fm rfl (fm rfl fn))) (fm rfl (fm rfl (fm rfl fn))) (fm rfl (fm rfl (fm rfl fn)))) (ih.2.2.2.2.2.1 _ _ _ _ _ _ hs R rx1 rx2)
    · intro M x1 x2 h v M' hs R rx1 rx2
      rw [l225] at hs
      refine evx_inc E225 D225_206 (Nat.le_of_ble_eq_true rfl) rfl ?_
      refine evx_F E225 D225_209 rfl rfl ?_
      obtain ⟨k17, hs⟩ := ck hs
      show evx _ _ _ _ _ [(2, .inl (iz (x2 + 1))), (0, .inr (.inr (.inl (some 53)))), (1, .inl (iz x1))] _ _ _ _
      exact evx_lv (lvLe_mk (fm rfl (fm rfl (fm rfl fn))) (fm rfl (fm rfl (fm rfl fn))) (fm rfl (fm rfl (fm rfl fn)))) (ih.2.2.1 _ _ _ _ _ _ hs R rx1 k17)
    · intro M x1 x2 h v M' hs R rx1 rx2
      rw [l225] at hs
      refine evx_inc E225 D225_166 (Nat.le_of_ble_eq_true rfl) rfl ?_
      refine evx_F E225 D225_169 rfl rfl ?_
      obtain ⟨k18, hs⟩ := ck hs
      show evx _ _ _ _ _ [(2, .inl (iz (x2 + 1))), (0, .inr (.inr (.inl (some 53)))), (1, .inl (iz x1))] _ _ _ _
      exact evx_lv (lvLe_mk (fm rfl (fm rfl (fm rfl fn))) (fm rfl (fm rfl (fm rfl fn))) (fm rfl (fm rfl (fm rfl fn)))) (ih.2.2.2.1 _ _ _ _ _ _ hs R rx1 k18)
    · intro M x1 x2 h v M' hs R rx1 rx2
      rw [l225] at hs
      refine evx_F E225 D225_84 rfl rfl ?_
      refine evx_gfr E225 D225_85 F225_91 H53 rfl R ?_
      refine evx_F E225 D225_88 rfl rfl ?_
      refine evx_F E225 D225_89 rfl rfl ?_
      refine evx_gfr E225 D225_90 F225_82 H53 rfl R ?_
      refine evx_F E225 D225_93 rfl rfl ?_
      obtain ⟨k19, hs⟩ := ck hs
      refine evx_ial E225 D225_94 H77 (by decide) R k19 ?_
      obtain ⟨q21, e20, hs⟩ := Option.bind_eq_some_iff.mp hs
      refine evx_cv (D := 1) E225 D225_95 I225_240 rfl rfl H53 ⟨Nat.le_of_ble_eq_true rfl, Nat.le_of_ble_eq_true rfl⟩ ⟨rfl, Nat.le_of_ble_eq_true rfl⟩ rfl R (evx_up (Nat.le_of_ble_eq_true rfl) (c217 R (R.1 77 (Int.toNat x2)) e20)) ?_
      intro h22 R23 w24
      have w24 : rg q21 := w24
      show evx _ _ _ _ _ _ (.inl (iz q21) :: _) _ _ _
      obtain ⟨k25, hs⟩ := ck hs
      refine evx_ial E225 D225_98 H80 (by decide) R23 k25 ?_
      refine evx_F E225 D225_99 rfl rfl ?_
      by_cases cb26 : ¬ (M 80 (Int.toNat q21)) = 1
      · rw [if_pos cb26] at hs
        refine evx_F E225 D225_100 rfl (ifT (c2_ne_T (R23.1 80 (Int.toNat q21)) (by decide) cb26)) ?_
        refine evx_F E225 D225_107 rfl rfl ?_
        refine evx_F E225 D225_108 rfl rfl ?_
        show evx _ _ _ _ _ [(3, .inl (iz 0)), (0, .inr (.inr (.inl (some 53)))), (1, .inl (iz x1)), (2, .inl (iz x2))] _ _ _ _
        exact evx_lv (lvLe_mk (fm rfl (fm rfl (fm rfl (fm rfl fn)))) (fm rfl (fm rfl (fm rfl (fm rfl fn)))) (fm rfl (fm rfl (fm rfl (fm rfl fn))))) (ih.2.2.2.2.2.2.2.2.1 _ _ _ _ _ _ _ hs R23 rx1 rx2 (by decide))
      · rw [if_neg cb26] at hs
        refine evx_F E225 D225_100 rfl (ifF (c2_ne_F (R23.1 80 (Int.toNat q21)) (by decide) (by omega))) ?_
        show evx _ _ _ _ _ [(0, .inr (.inr (.inl (some 53)))), (1, .inl (iz x1)), (2, .inl (iz x2))] _ _ _ _
        exact evx_lv (lvLe_mk (fm rfl (fm rfl (fm rfl fn))) (fm rfl (fm rfl (fm rfl fn))) (fm rfl (fm rfl (fm rfl fn)))) (ih.2.2.2.2.2.2.2.1 _ _ _ _ _ _ hs R23 rx1 rx2)
    · intro M x1 x2 h v M' hs R rx1 rx2
      rw [l225] at hs
      refine evx_F E225 D225_103 rfl rfl ?_
      refine evx_F E225 D225_104 rfl rfl ?_
      refine evx_F E225 D225_108 rfl rfl ?_
      show evx _ _ _ _ _ [(3, .inl (iz 1)), (0, .inr (.inr (.inl (some 53)))), (1, .inl (iz x1)), (2, .inl (iz x2))] _ _ _ _
      exact evx_lv (lvLe_mk (fm rfl (fm rfl (fm rfl (fm rfl fn)))) (fm rfl (fm rfl (fm rfl (fm rfl fn)))) (fm rfl (fm rfl (fm rfl (fm rfl fn))))) (ih.2.2.2.2.2.2.2.2.1 _ _ _ _ _ _ _ hs R rx1 rx2 (by decide))
    · intro M x1 x2 x3 h v M' hs R rx1 rx2 rx3
      rw [l225] at hs
      refine evx_F E225 D225_109 rfl rfl ?_
      refine evx_gfr E225 D225_110 F225_79 H53 rfl R ?_
      refine evx_F E225 D225_113 rfl rfl ?_
      obtain ⟨k27, hs⟩ := ck hs
      refine evx_ial E225 D225_114 H76 (by decide) R k27 ?_
      refine evx_F E225 D225_115 rfl rfl ?_
      by_cases cb28 : ¬ (M 76 (Int.toNat x2)) = 4
      · rw [if_pos cb28] at hs
        refine evx_F E225 D225_116 rfl (ifT (c2_ne_T (R.1 76 (Int.toNat x2)) (by decide) cb28)) ?_
        show evx _ _ _ _ _ [(0, .inr (.inr (.inl (some 53)))), (1, .inl (iz x1)), (2, .inl (iz x2)), (3, .inl (iz x3))] _ _ _ _
        exact evx_lv (lvLe_mk (fm rfl (fm rfl (fm rfl (fm rfl fn)))) (fm rfl (fm rfl (fm rfl (fm rfl fn)))) (fm rfl (fm rfl (fm rfl (fm rfl fn))))) (ih.2.2.2.2.2.2.2.2.2.1 _ _ _ _ _ _ _ hs R rx1 rx2 rx3)
      · rw [if_neg cb28] at hs
        refine evx_F E225 D225_116 rfl (ifF (c2_ne_F (R.1 76 (Int.toNat x2)) (by decide) (by omega))) ?_
        refine evx_F E225 D225_119 rfl rfl ?_
        refine evx_gfr E225 D225_120 F225_91 H53 rfl R ?_
        refine evx_F E225 D225_123 rfl rfl ?_
        refine evx_F E225 D225_124 rfl rfl ?_
        refine evx_gfr E225 D225_125 F225_85 H53 rfl R ?_
        refine evx_F E225 D225_128 rfl rfl ?_
        refine evx_ial E225 D225_129 H78 (by decide) R k27 ?_
        obtain ⟨q30, e29, hs⟩ := Option.bind_eq_some_iff.mp hs
        refine evx_cv (D := 1) E225 D225_130 I225_240 rfl rfl H53 ⟨Nat.le_of_ble_eq_true rfl, Nat.le_of_ble_eq_true rfl⟩ ⟨rfl, Nat.le_of_ble_eq_true rfl⟩ rfl R (evx_up (Nat.le_of_ble_eq_true rfl) (c217 R (R.1 78 (Int.toNat x2)) e29)) ?_
        intro h31 R32 w33
        have w33 : rg q30 := w33
        show evx _ _ _ _ _ _ (.inl (iz q30) :: _) _ _ _
        obtain ⟨k34, hs⟩ := ck hs
        refine evx_ial E225 D225_133 H80 (by decide) R32 k34 ?_
        refine evx_F E225 D225_134 rfl rfl ?_
        by_cases cb35 : ¬ (M 80 (Int.toNat q30)) = 1
        · rw [if_pos cb35] at hs
          refine evx_F E225 D225_135 rfl (ifT (c2_ne_T (R32.1 80 (Int.toNat q30)) (by decide) cb35)) ?_
          refine evx_F E225 D225_142 rfl rfl ?_
          refine evx_F E225 D225_143 rfl rfl ?_
          show evx _ _ _ _ _ [(4, .inl (iz 0)), (0, .inr (.inr (.inl (some 53)))), (1, .inl (iz x1)), (2, .inl (iz x2)), (3, .inl (iz x3))] _ _ _ _
          exact evx_lv (lvLe_mk (fm rfl (fm rfl (fm rfl (fm rfl (fm rfl fn))))) (fm rfl (fm rfl (fm rfl (fm rfl (fm rfl fn))))) (fm rfl (fm rfl (fm rfl (fm rfl (fm rfl fn)))))) (ih.2.2.2.2.2.2.2.2.2.2 _ _ _ _ _ _ _ _ hs R32 rx1 rx2 rx3 (by decide))
        · rw [if_neg cb35] at hs
          refine evx_F E225 D225_135 rfl (ifF (c2_ne_F (R32.1 80 (Int.toNat q30)) (by decide) (by omega))) ?_
          show evx _ _ _ _ _ [(0, .inr (.inr (.inl (some 53)))), (1, .inl (iz x1)), (2, .inl (iz x2)), (3, .inl (iz x3))] _ _ _ _
          exact evx_lv (lvLe_mk (fm rfl (fm rfl (fm rfl (fm rfl fn)))) (fm rfl (fm rfl (fm rfl (fm rfl fn)))) (fm rfl (fm rfl (fm rfl (fm rfl fn))))) (ih.2.2.2.2.2.2.2.2.2.1 _ _ _ _ _ _ _ hs R32 rx1 rx2 rx3)
    · intro M x1 x2 x3 h v M' hs R rx1 rx2 rx3
      rw [l225] at hs
      refine evx_F E225 D225_138 rfl rfl ?_
      refine evx_F E225 D225_139 rfl rfl ?_
      refine evx_F E225 D225_143 rfl rfl ?_
      show evx _ _ _ _ _ [(4, .inl (iz 1)), (0, .inr (.inr (.inl (some 53)))), (1, .inl (iz x1)), (2, .inl (iz x2)), (3, .inl (iz x3))] _ _ _ _
      exact evx_lv (lvLe_mk (fm rfl (fm rfl (fm rfl (fm rfl (fm rfl fn))))) (fm rfl (fm rfl (fm rfl (fm rfl (fm rfl fn))))) (fm rfl (fm rfl (fm rfl (fm rfl (fm rfl fn)))))) (ih.2.2.2.2.2.2.2.2.2.2 _ _ _ _ _ _ _ _ hs R rx1 rx2 rx3 (by decide))
    · intro M x1 x2 x3 x4 h v M' hs R rx1 rx2 rx3 rx4
      rw [l225] at hs
      refine evx_F E225 D225_145 rfl rfl ?_
      by_cases cb36 : x3 = 0
      · rw [if_pos cb36] at hs
        refine evx_F E225 D225_146 rfl (ifT (c1_eq_T rx3 cb36)) ?_
        show evx _ _ _ _ _ [(0, .inr (.inr (.inl (some 53)))), (1, .inl (iz x1)), (2, .inl (iz x2)), (3, .inl (iz x3)), (4, .inl (iz x4))] _ _ _ _
        exact evx_lv (lvLe_mk (fm rfl (fm rfl (fm rfl fn))) (fm rfl (fm rfl (fm rfl (fm rfl (fm rfl fn))))) (fm rfl (fm rfl (fm rfl fn)))) (ih.2.2.2.2.2.1 _ _ _ _ _ _ hs R rx1 rx2)
      · rw [if_neg cb36] at hs
        refine evx_F E225 D225_146 rfl (ifF (c1_eq_F rx3 (by omega))) ?_
        refine evx_F E225 D225_149 rfl rfl ?_
        by_cases cb37 : ¬ x4 = 0
        · rw [if_pos cb37] at hs
          refine evx_F E225 D225_151 rfl (ifT (c1_ne_T rx4 cb37)) ?_
          refine evx_F E225 D225_157 rfl rfl ?_
          refine evx_gfr E225 D225_158 F225_91 H53 rfl R ?_
          refine evx_F E225 D225_161 rfl rfl ?_
          refine evx_F E225 D225_162 rfl rfl ?_
          obtain ⟨k38, hs⟩ := ck hs
          refine evx_ias E225 D225_163 H80 (by decide) R k38 (by decide) ?_
          intro h39 R40
          refine evx_F E225 D225_164 rfl rfl ?_
          refine evx_F E225 D225_165 rfl rfl ?_
          show evx _ _ _ _ _ [(1, .inl (iz 1)), (0, .inr (.inr (.inl (some 53)))), (2, .inl (iz x2)), (3, .inl (iz x3)), (4, .inl (iz x4))] _ _ _ _
          exact evx_lv (lvLe_mk (fm rfl (fm rfl (fm rfl fn))) (fm rfl (fm rfl (fm rfl (fm rfl (fm rfl fn))))) (fm rfl (fm rfl (fm rfl fn)))) (ih.2.2.2.2.2.1 _ _ _ _ _ _ hs R40 (by decide) rx2)
        · rw [if_neg cb37] at hs
          refine evx_F E225 D225_151 rfl (ifF (c1_ne_F rx4 (by omega))) ?_
          refine evx_F E225 D225_154 rfl rfl ?_
          show evx _ _ _ _ _ [(0, .inr (.inr (.inl (some 53)))), (1, .inl (iz x1)), (2, .inl (iz x2)), (3, .inl (iz x3)), (4, .inl (iz x4))] _ _ _ _
          exact evx_lv (lvLe_mk (fm rfl (fm rfl (fm rfl fn))) (fm rfl (fm rfl (fm rfl (fm rfl (fm rfl fn))))) (fm rfl (fm rfl (fm rfl fn)))) (ih.2.2.2.2.2.1 _ _ _ _ _ _ hs R rx1 rx2)
def f225 (M : Mm) : Option (Int × Mm) := l225 FU 2 M 0 0 0 0
theorem c225 {L : Nat} {xs : Nat → Int32} {h : mvH} {M : Mm} {v : Int} {M' : Mm} (R : rp h M)  (hs : f225 M  = some (v, M')) : evx L xs 2 225 0 [(0, .inr (.inr (.inl (some 53))))] [] h (.inl (some (.inl v)), 0) M' := by
  unfold f225 at hs
  refine evx_F E225 D225_0 rfl rfl ?_
  refine evx_F E225 D225_1 rfl rfl ?_
  show evx _ _ _ _ _ [(1, .inl (iz 0)), (0, .inr (.inr (.inl (some 53))))] _ _ _ _
  exact evx_lv (lvLe_mk (fm rfl (fm rfl fn)) (fm rfl (fm rfl fn)) (fm rfl (fm rfl fn))) ((d225 FU).1 _ _ _ _ _ hs R (by decide))
set_option maxRecDepth 20000 in
theorem E226 : pgMm 226 = some (⟨"DictionaryHouseModel", "findVariables", "(I)V"⟩, prog_14_method_40_code, 4, none, []) := rfl
theorem D226_0 : pgDecT 226 0 = some (.iconst 0, 1) := by decide +kernel
theorem D226_1 : pgDecT 226 1 = some (.istore_n 2, 1) := by decide +kernel
theorem D226_2 : pgDecT 226 2 = some (.iload_n 2, 1) := by decide +kernel
theorem D226_3 : pgDecT 226 3 = some (.aload_n 0, 1) := by decide +kernel
theorem D226_4 : pgDecT 226 4 = some (.getfield 226, 3) := by decide +kernel
theorem F226_226 : pgFf 226 226 = some (12, 28, 0) := by decide +kernel
theorem D226_7 : pgDecT 226 7 = some (.if_icmp .ge 16, 3) := by decide +kernel
theorem D226_23 : pgDecT 226 23 = some (.aload_n 0, 1) := by decide +kernel
theorem D226_24 : pgDecT 226 24 = some (.iconst 0, 1) := by decide +kernel
theorem D226_25 : pgDecT 226 25 = some (.putfield 279, 3) := by decide +kernel
theorem F226_279 : pgFf 226 279 = some (12, 50, 0) := by decide +kernel
theorem D226_28 : pgDecT 226 28 = some (.iconst 1, 1) := by decide +kernel
theorem D226_29 : pgDecT 226 29 = some (.istore_n 2, 1) := by decide +kernel
theorem D226_30 : pgDecT 226 30 = some (.aload_n 0, 1) := by decide +kernel
theorem D226_31 : pgDecT 226 31 = some (.getfield 97, 3) := by decide +kernel
theorem F226_97 : pgFf 226 97 = some (12, 35, 3) := by decide +kernel
theorem D226_34 : pgDecT 226 34 = some (.iconst 0, 1) := by decide +kernel
theorem D226_35 : pgDecT 226 35 = some (.iload_n 1, 1) := by decide +kernel
theorem D226_36 : pgDecT 226 36 = some (.iastore, 1) := by decide +kernel
theorem D226_37 : pgDecT 226 37 = some (.iload_n 2, 1) := by decide +kernel
theorem D226_10 : pgDecT 226 10 = some (.aload_n 0, 1) := by decide +kernel
theorem D226_11 : pgDecT 226 11 = some (.getfield 91, 3) := by decide +kernel
theorem F226_91 : pgFf 226 91 = some (12, 33, 3) := by decide +kernel
theorem D226_14 : pgDecT 226 14 = some (.iload_n 2, 1) := by decide +kernel
theorem D226_15 : pgDecT 226 15 = some (.iconst 0, 1) := by decide +kernel
theorem D226_16 : pgDecT 226 16 = some (.iastore, 1) := by decide +kernel
theorem D226_17 : pgDecT 226 17 = some (.iinc 2 1, 3) := by decide +kernel
theorem D226_20 : pgDecT 226 20 = some (.goto (-18), 3) := by decide +kernel
theorem D226_38 : pgDecT 226 38 = some (.ifCond .le 140, 3) := by decide +kernel
theorem D226_178 : pgDecT 226 178 = some (.return_, 1) := by decide +kernel
theorem D226_41 : pgDecT 226 41 = some (.iinc 2 (-1), 3) := by decide +kernel
theorem D226_44 : pgDecT 226 44 = some (.aload_n 0, 1) := by decide +kernel
theorem D226_45 : pgDecT 226 45 = some (.aload_n 0, 1) := by decide +kernel
theorem D226_46 : pgDecT 226 46 = some (.getfield 97, 3) := by decide +kernel
theorem D226_49 : pgDecT 226 49 = some (.iload_n 2, 1) := by decide +kernel
theorem D226_50 : pgDecT 226 50 = some (.iaload, 1) := by decide +kernel
theorem D226_51 : pgDecT 226 51 = some (.invokevirtual 240, 3) := by decide +kernel
theorem I226_240 : pgIi 226 240 = some (217, 1, 12) := by decide +kernel
theorem D226_54 : pgDecT 226 54 = some (.istore_n 3, 1) := by decide +kernel
theorem D226_55 : pgDecT 226 55 = some (.aload_n 0, 1) := by decide +kernel
theorem D226_56 : pgDecT 226 56 = some (.getfield 91, 3) := by decide +kernel
theorem D226_59 : pgDecT 226 59 = some (.iload_n 3, 1) := by decide +kernel
theorem D226_60 : pgDecT 226 60 = some (.iaload, 1) := by decide +kernel
theorem D226_61 : pgDecT 226 61 = some (.iconst 1, 1) := by decide +kernel
theorem D226_62 : pgDecT 226 62 = some (.if_icmp .ne 6, 3) := by decide +kernel
theorem D226_68 : pgDecT 226 68 = some (.aload_n 0, 1) := by decide +kernel
theorem D226_69 : pgDecT 226 69 = some (.getfield 91, 3) := by decide +kernel
theorem D226_72 : pgDecT 226 72 = some (.iload_n 3, 1) := by decide +kernel
theorem D226_73 : pgDecT 226 73 = some (.iconst 1, 1) := by decide +kernel
theorem D226_74 : pgDecT 226 74 = some (.iastore, 1) := by decide +kernel
theorem D226_75 : pgDecT 226 75 = some (.aload_n 0, 1) := by decide +kernel
theorem D226_76 : pgDecT 226 76 = some (.getfield 79, 3) := by decide +kernel
theorem F226_79 : pgFf 226 79 = some (12, 29, 3) := by decide +kernel
theorem D226_79 : pgDecT 226 79 = some (.iload_n 3, 1) := by decide +kernel
theorem D226_80 : pgDecT 226 80 = some (.iaload, 1) := by decide +kernel
theorem D226_81 : pgDecT 226 81 = some (.iconst 2, 1) := by decide +kernel
theorem D226_82 : pgDecT 226 82 = some (.if_icmp .ne 33, 3) := by decide +kernel
theorem D226_115 : pgDecT 226 115 = some (.aload_n 0, 1) := by decide +kernel
theorem D226_116 : pgDecT 226 116 = some (.getfield 79, 3) := by decide +kernel
theorem D226_119 : pgDecT 226 119 = some (.iload_n 3, 1) := by decide +kernel
theorem D226_120 : pgDecT 226 120 = some (.iaload, 1) := by decide +kernel
theorem D226_121 : pgDecT 226 121 = some (.iconst 4, 1) := by decide +kernel
theorem D226_122 : pgDecT 226 122 = some (.if_icmp .ne 18, 3) := by decide +kernel
theorem D226_140 : pgDecT 226 140 = some (.aload_n 0, 1) := by decide +kernel
theorem D226_141 : pgDecT 226 141 = some (.getfield 79, 3) := by decide +kernel
theorem D226_144 : pgDecT 226 144 = some (.iload_n 3, 1) := by decide +kernel
theorem D226_145 : pgDecT 226 145 = some (.iaload, 1) := by decide +kernel
theorem D226_146 : pgDecT 226 146 = some (.iconst 3, 1) := by decide +kernel
theorem D226_147 : pgDecT 226 147 = some (.if_icmp .eq 13, 3) := by decide +kernel
theorem D226_160 : pgDecT 226 160 = some (.aload_n 0, 1) := by decide +kernel
theorem D226_161 : pgDecT 226 161 = some (.getfield 97, 3) := by decide +kernel
theorem D226_164 : pgDecT 226 164 = some (.iload_n 2, 1) := by decide +kernel
theorem D226_165 : pgDecT 226 165 = some (.aload_n 0, 1) := by decide +kernel
theorem D226_166 : pgDecT 226 166 = some (.getfield 82, 3) := by decide +kernel
theorem F226_82 : pgFf 226 82 = some (12, 30, 3) := by decide +kernel
theorem D226_169 : pgDecT 226 169 = some (.iload_n 3, 1) := by decide +kernel
theorem D226_170 : pgDecT 226 170 = some (.iaload, 1) := by decide +kernel
theorem D226_171 : pgDecT 226 171 = some (.iastore, 1) := by decide +kernel
theorem D226_172 : pgDecT 226 172 = some (.iinc 2 1, 3) := by decide +kernel
theorem D226_175 : pgDecT 226 175 = some (.goto (-138), 3) := by decide +kernel
theorem D226_150 : pgDecT 226 150 = some (.aload_n 0, 1) := by decide +kernel
theorem D226_151 : pgDecT 226 151 = some (.getfield 79, 3) := by decide +kernel
theorem D226_154 : pgDecT 226 154 = some (.iload_n 3, 1) := by decide +kernel
theorem D226_155 : pgDecT 226 155 = some (.iaload, 1) := by decide +kernel
theorem D226_156 : pgDecT 226 156 = some (.iconst 4, 1) := by decide +kernel
theorem D226_157 : pgDecT 226 157 = some (.if_icmp .ne 18, 3) := by decide +kernel
theorem D226_125 : pgDecT 226 125 = some (.aload_n 0, 1) := by decide +kernel
theorem D226_126 : pgDecT 226 126 = some (.getfield 97, 3) := by decide +kernel
theorem D226_129 : pgDecT 226 129 = some (.iload_n 2, 1) := by decide +kernel
theorem D226_130 : pgDecT 226 130 = some (.aload_n 0, 1) := by decide +kernel
theorem D226_131 : pgDecT 226 131 = some (.getfield 85, 3) := by decide +kernel
theorem F226_85 : pgFf 226 85 = some (12, 31, 3) := by decide +kernel
theorem D226_134 : pgDecT 226 134 = some (.iload_n 3, 1) := by decide +kernel
theorem D226_135 : pgDecT 226 135 = some (.iaload, 1) := by decide +kernel
theorem D226_136 : pgDecT 226 136 = some (.iastore, 1) := by decide +kernel
theorem D226_137 : pgDecT 226 137 = some (.iinc 2 1, 3) := by decide +kernel
theorem D226_85 : pgDecT 226 85 = some (.aload_n 0, 1) := by decide +kernel
theorem D226_86 : pgDecT 226 86 = some (.getfield 127, 3) := by decide +kernel
theorem F226_127 : pgFf 226 127 = some (12, 51, 3) := by decide +kernel
theorem D226_89 : pgDecT 226 89 = some (.aload_n 0, 1) := by decide +kernel
theorem D226_90 : pgDecT 226 90 = some (.getfield 279, 3) := by decide +kernel
theorem D226_93 : pgDecT 226 93 = some (.iload_n 3, 1) := by decide +kernel
theorem D226_94 : pgDecT 226 94 = some (.iastore, 1) := by decide +kernel
theorem D226_95 : pgDecT 226 95 = some (.aload_n 0, 1) := by decide +kernel
theorem D226_96 : pgDecT 226 96 = some (.getfield 130, 3) := by decide +kernel
theorem F226_130 : pgFf 226 130 = some (12, 52, 3) := by decide +kernel
theorem D226_99 : pgDecT 226 99 = some (.aload_n 0, 1) := by decide +kernel
theorem D226_100 : pgDecT 226 100 = some (.getfield 279, 3) := by decide +kernel
theorem D226_103 : pgDecT 226 103 = some (.iconst 0, 1) := by decide +kernel
theorem D226_104 : pgDecT 226 104 = some (.iastore, 1) := by decide +kernel
theorem D226_105 : pgDecT 226 105 = some (.aload_n 0, 1) := by decide +kernel
theorem D226_106 : pgDecT 226 106 = some (.dup, 1) := by decide +kernel
theorem D226_107 : pgDecT 226 107 = some (.getfield 279, 3) := by decide +kernel
theorem D226_110 : pgDecT 226 110 = some (.iconst 1, 1) := by decide +kernel
theorem D226_111 : pgDecT 226 111 = some (.iadd, 1) := by decide +kernel
theorem D226_112 : pgDecT 226 112 = some (.putfield 279, 3) := by decide +kernel
theorem D226_65 : pgDecT 226 65 = some (.goto (-28), 3) := by decide +kernel
/-! 226: DictionaryHouseModel.findVariables (I)V -/
def l226 : Nat → Nat → Mm → Int → Int → Int → Option (Int × Mm)
  | 0, _, _, _, _, _ => none
  | f + 1, 2, M, x1, x2, _ => if (M 53 28) ≤ x2 then (l226 f 37 (up (up M 53 50 0) 82 (Int.toNat 0) x1) x1 1 0) else (if 0 ≤ x2 ∧ x2 < 4000 then (if rg (x2 + 1) then (l226 f 2 (up M 80 (Int.toNat x2) 0) x1 (x2 + 1) 0) else none) else none)
  | f + 1, 37, M, x1, x2, _ => if x2 ≤ 0 then (some (0, M)) else (if 0 ≤ (x2 + (-1)) ∧ (x2 + (-1)) < 16000 then (f217 M (M 82 (Int.toNat (x2 + (-1))))).bind (fun q13 => if 0 ≤ q13 ∧ q13 < 4000 then (if ¬ (M 80 (Int.toNat q13)) = 1 then (if ¬ (M 76 (Int.toNat q13)) = 2 then (if rg (x2 + (-1)) then (l226 f 115 (up M 80 (Int.toNat q13) 1) x1 (x2 + (-1)) q13) else none) else (if 0 ≤ (M 53 50) ∧ (M 53 50) < 4000 then (if rg ((M 53 50) + 1) then (if rg (x2 + (-1)) then (l226 f 115 (up (up (up (up M 80 (Int.toNat q13) 1) 92 (Int.toNat (M 53 50)) q13) 93 (Int.toNat (M 53 50)) 0) 53 50 ((M 53 50) + 1)) x1 (x2 + (-1)) q13) else none) else none) else none)) else (if rg (x2 + (-1)) then (l226 f 37 M x1 (x2 + (-1)) 0) else none)) else none) else none)
  | f + 1, 115, M, x1, x2, x3 => if 0 ≤ x3 ∧ x3 < 4000 then (if ¬ (M 76 (Int.toNat x3)) = 4 then (l226 f 140 M x1 x2 x3) else (if 0 ≤ x2 ∧ x2 < 16000 then (if rg (x2 + 1) then (l226 f 140 (up M 82 (Int.toNat x2) (M 78 (Int.toNat x3))) x1 (x2 + 1) x3) else none) else none)) else none
  | f + 1, 140, M, x1, x2, x3 => if 0 ≤ x3 ∧ x3 < 4000 then (if (M 76 (Int.toNat x3)) = 3 then (l226 f 160 M x1 x2 x3) else (if ¬ (M 76 (Int.toNat x3)) = 4 then (l226 f 175 M x1 x2 x3) else (l226 f 160 M x1 x2 x3))) else none
  | f + 1, 160, M, x1, x2, x3 => if 0 ≤ x3 ∧ x3 < 4000 then (if 0 ≤ x2 ∧ x2 < 16000 then (if rg (x2 + 1) then (l226 f 175 (up M 82 (Int.toNat x2) (M 77 (Int.toNat x3))) x1 (x2 + 1) x3) else none) else none) else none
  | f + 1, 175, M, x1, x2, x3 => l226 f 37 M x1 x2 0
  | _, _, _, _, _, _ => none
theorem d226 {L : Nat} {xs : Nat → Int32} (f : Nat) : (∀ (M : Mm) (x1 x2 : Int) (h : mvH) (v : Int) (M' : Mm), l226 f 2 M x1 x2 0 = some (v, M') → rp h M → rg x1 → rg x2 → evx L xs 2 226 2 [(0, .inr (.inr (.inl (some 53)))), (1, .inl (iz x1)), (2, .inl (iz x2))] [] h (.inl none, 0) M') ∧ (∀ (M : Mm) (x1 x2 : Int) (h : mvH) (v : Int) (M' : Mm), l226 f 37 M x1 x2 0 = some (v, M') → rp h M → rg x1 → rg x2 → evx L xs 2 226 37 [(0, .inr (.inr (.inl (some 53)))), (1, .inl (iz x1)), (2, .inl (iz x2))] [] h (.inl none, 0) M') ∧ (∀ (M : Mm) (x1 x2 x3 : Int) (h : mvH) (v : Int) (M' : Mm), l226 f 115 M x1 x2 x3 = some (v, M') → rp h M → rg x1 → rg x2 → rg x3 → evx L xs 2 226 115 [(0, .inr (.inr (.inl (some 53)))), (1, .inl (iz x1)), (2, .inl (iz x2)), (3, .inl (iz x3))] [] h (.inl none, 0) M') ∧ (∀ (M : Mm) (x1 x2 x3 : Int) (h : mvH) (v : Int) (M' : Mm), l226 f 140 M x1 x2 x3 = some (v, M') → rp h M → rg x1 → rg x2 → rg x3 → evx L xs 2 226 140 [(0, .inr (.inr (.inl (some 53)))), (1, .inl (iz x1)), (2, .inl (iz x2)), (3, .inl (iz x3))] [] h (.inl none, 0) M') ∧ (∀ (M : Mm) (x1 x2 x3 : Int) (h : mvH) (v : Int) (M' : Mm), l226 f 160 M x1 x2 x3 = some (v, M') → rp h M → rg x1 → rg x2 → rg x3 → evx L xs 2 226 160 [(0, .inr (.inr (.inl (some 53)))), (1, .inl (iz x1)), (2, .inl (iz x2)), (3, .inl (iz x3))] [] h (.inl none, 0) M') ∧ (∀ (M : Mm) (x1 x2 x3 : Int) (h : mvH) (v : Int) (M' : Mm), l226 f 175 M x1 x2 x3 = some (v, M') → rp h M → rg x1 → rg x2 → rg x3 → evx L xs 2 226 175 [(0, .inr (.inr (.inl (some 53)))), (1, .inl (iz x1)), (2, .inl (iz x2)), (3, .inl (iz x3))] [] h (.inl none, 0) M') := by
  induction f with
  | zero => exact ⟨(fun M x1 x2 h v M' hs _ _ _ => by cases hs), (fun M x1 x2 h v M' hs _ _ _ => by cases hs), (fun M x1 x2 x3 h v M' hs _ _ _ _ => by cases hs), (fun M x1 x2 x3 h v M' hs _ _ _ _ => by cases hs), (fun M x1 x2 x3 h v M' hs _ _ _ _ => by cases hs), (fun M x1 x2 x3 h v M' hs _ _ _ _ => by cases hs)⟩
  | succ f ih =>
    refine ⟨?_, ?_, ?_, ?_, ?_, ?_⟩
    · intro M x1 x2 h v M' hs R rx1 rx2
      rw [l226] at hs
      refine evx_F E226 D226_2 rfl rfl ?_
      refine evx_F E226 D226_3 rfl rfl ?_
      refine evx_gfi (k := 28) E226 D226_4 F226_226 H53 rfl R ?_
      by_cases cb1 : (M 53 28) ≤ x2
      · rw [if_pos cb1] at hs
        refine evx_F E226 D226_7 rfl (ifT (c2_ge_T rx2 (R.1 53 28) cb1)) ?_
        refine evx_F E226 D226_23 rfl rfl ?_
        refine evx_F E226 D226_24 rfl rfl ?_
        refine evx_pfi (k := 50) E226 D226_25 F226_279 H53 rfl R (by decide) rfl ?_
        intro h2 R3
        refine evx_F E226 D226_28 rfl rfl ?_
        refine evx_F E226 D226_29 rfl rfl ?_
        refine evx_F E226 D226_30 rfl rfl ?_
        refine evx_gfr E226 D226_31 F226_97 H53 rfl R3 ?_
        refine evx_F E226 D226_34 rfl rfl ?_
        refine evx_F E226 D226_35 rfl rfl ?_
        refine evx_ias E226 D226_36 H82 (by decide) R3 (by decide) rx1 ?_
        intro h4 R5
        show evx _ _ _ _ _ [(2, .inl (iz 1)), (0, .inr (.inr (.inl (some 53)))), (1, .inl (iz x1))] _ _ _ _
        exact evx_lv (lvLe_mk (fm rfl (fm rfl (fm rfl fn))) (fm rfl (fm rfl (fm rfl fn))) (fm rfl (fm rfl (fm rfl fn)))) (ih.2.1 _ _ _ _ _ _ hs R5 rx1 (by decide))
      · rw [if_neg cb1] at hs
        refine evx_F E226 D226_7 rfl (ifF (c2_ge_F rx2 (R.1 53 28) (by omega))) ?_
        refine evx_F E226 D226_10 rfl rfl ?_
        refine evx_gfr E226 D226_11 F226_91 H53 rfl R ?_
        refine evx_F E226 D226_14 rfl rfl ?_
        refine evx_F E226 D226_15 rfl rfl ?_
        obtain ⟨k6, hs⟩ := ck hs
        refine evx_ias E226 D226_16 H80 (by decide) R k6 (by decide) ?_
        intro h7 R8
        refine evx_inc E226 D226_17 (Nat.le_of_ble_eq_true rfl) rfl ?_
        refine evx_F E226 D226_20 rfl rfl ?_
        obtain ⟨k9, hs⟩ := ck hs
        show evx _ _ _ _ _ [(2, .inl (iz (x2 + 1))), (0, .inr (.inr (.inl (some 53)))), (1, .inl (iz x1))] _ _ _ _
        exact evx_lv (lvLe_mk (fm rfl (fm rfl (fm rfl fn))) (fm rfl (fm rfl (fm rfl fn))) (fm rfl (fm rfl (fm rfl fn)))) (ih.1 _ _ _ _ _ _ hs R8 rx1 k9)
    · intro M x1 x2 h v M' hs R rx1 rx2
      rw [l226] at hs
      refine evx_F E226 D226_37 rfl rfl ?_
      by_cases cb10 : x2 ≤ 0
      · rw [if_pos cb10] at hs
        refine evx_F E226 D226_38 rfl (ifT (c1_le_T rx2 cb10)) ?_
        cases hs
        exact evx_ret E226 D226_178 rfl (fun d => rfl) rfl trivial R
      · rw [if_neg cb10] at hs
        refine evx_F E226 D226_38 rfl (ifF (c1_le_F rx2 (by omega))) ?_
        refine evx_inc E226 D226_41 (Nat.le_of_ble_eq_true rfl) rfl ?_
        refine evx_F E226 D226_44 rfl rfl ?_
        refine evx_F E226 D226_45 rfl rfl ?_
        refine evx_gfr E226 D226_46 F226_97 H53 rfl R ?_
        refine evx_F E226 D226_49 rfl rfl ?_
        obtain ⟨k11, hs⟩ := ck hs
        refine evx_ial E226 D226_50 H82 (by decide) R k11 ?_
        obtain ⟨q13, e12, hs⟩ := Option.bind_eq_some_iff.mp hs
        refine evx_cv (D := 1) E226 D226_51 I226_240 rfl rfl H53 ⟨Nat.le_of_ble_eq_true rfl, Nat.le_of_ble_eq_true rfl⟩ ⟨rfl, Nat.le_of_ble_eq_true rfl⟩ rfl R (evx_up (Nat.le_of_ble_eq_true rfl) (c217 R (R.1 82 (Int.toNat (x2 + (-1)))) e12)) ?_
        intro h14 R15 w16
        have w16 : rg q13 := w16
        show evx _ _ _ _ _ _ (.inl (iz q13) :: _) _ _ _
        refine evx_F E226 D226_54 rfl rfl ?_
        refine evx_F E226 D226_55 rfl rfl ?_
        refine evx_gfr E226 D226_56 F226_91 H53 rfl R15 ?_
        refine evx_F E226 D226_59 rfl rfl ?_
        obtain ⟨k17, hs⟩ := ck hs
        refine evx_ial E226 D226_60 H80 (by decide) R15 k17 ?_
        refine evx_F E226 D226_61 rfl rfl ?_
        by_cases cb18 : ¬ (M 80 (Int.toNat q13)) = 1
        · rw [if_pos cb18] at hs
          refine evx_F E226 D226_62 rfl (ifT (c2_ne_T (R15.1 80 (Int.toNat q13)) (by decide) cb18)) ?_
          refine evx_F E226 D226_68 rfl rfl ?_
          refine evx_gfr E226 D226_69 F226_91 H53 rfl R15 ?_
          refine evx_F E226 D226_72 rfl rfl ?_
          refine evx_F E226 D226_73 rfl rfl ?_
          refine evx_ias E226 D226_74 H80 (by decide) R15 k17 (by decide) ?_
          intro h19 R20
          refine evx_F E226 D226_75 rfl rfl ?_
          refine evx_gfr E226 D226_76 F226_79 H53 rfl R20 ?_
          refine evx_F E226 D226_79 rfl rfl ?_
          refine evx_ial E226 D226_80 H76 (by decide) R20 k17 ?_
          show evx _ _ _ _ _ _ (.inl (iz (M 76 (Int.toNat q13))) :: _) _ _ _
          refine evx_F E226 D226_81 rfl rfl ?_
          by_cases cb21 : ¬ (M 76 (Int.toNat q13)) = 2
          · rw [if_pos cb21] at hs
            refine evx_F E226 D226_82 rfl (ifT (c2_ne_T (R20.1 76 (Int.toNat q13)) (by decide) cb21)) ?_
            obtain ⟨k22, hs⟩ := ck hs
            show evx _ _ _ _ _ [(3, .inl (iz q13)), (2, .inl (iz (x2 + (-1)))), (0, .inr (.inr (.inl (some 53)))), (1, .inl (iz x1))] _ _ _ _
            exact evx_lv (lvLe_mk (fm rfl (fm rfl (fm rfl (fm rfl fn)))) (fm rfl (fm rfl (fm rfl (fm rfl fn)))) (fm rfl (fm rfl (fm rfl (fm rfl fn))))) (ih.2.2.1 _ _ _ _ _ _ _ hs R20 rx1 k22 w16)
          · rw [if_neg cb21] at hs
            refine evx_F E226 D226_82 rfl (ifF (c2_ne_F (R20.1 76 (Int.toNat q13)) (by decide) (by omega))) ?_
            refine evx_F E226 D226_85 rfl rfl ?_
            refine evx_gfr E226 D226_86 F226_127 H53 rfl R20 ?_
            refine evx_F E226 D226_89 rfl rfl ?_
            refine evx_gfi (k := 50) E226 D226_90 F226_279 H53 rfl R20 ?_
            show evx _ _ _ _ _ _ (.inl (iz (M 53 50)) :: _) _ _ _
            refine evx_F E226 D226_93 rfl rfl ?_
            obtain ⟨k23, hs⟩ := ck hs
            refine evx_ias E226 D226_94 H92 (by decide) R20 k23 w16 ?_
            intro h24 R25
            refine evx_F E226 D226_95 rfl rfl ?_
            refine evx_gfr E226 D226_96 F226_130 H53 rfl R25 ?_
            refine evx_F E226 D226_99 rfl rfl ?_
            refine evx_gfi (k := 50) E226 D226_100 F226_279 H53 rfl R25 ?_
            show evx _ _ _ _ _ _ (.inl (iz (M 53 50)) :: _) _ _ _
            refine evx_F E226 D226_103 rfl rfl ?_
            refine evx_ias E226 D226_104 H93 (by decide) R25 k23 (by decide) ?_
            intro h26 R27
            refine evx_F E226 D226_105 rfl rfl ?_
            refine evx_F E226 D226_106 rfl rfl ?_
            refine evx_gfi (k := 50) E226 D226_107 F226_279 H53 rfl R27 ?_
            show evx _ _ _ _ _ _ (.inl (iz (M 53 50)) :: _) _ _ _
            refine evx_F E226 D226_110 rfl rfl ?_
            refine evx_add E226 D226_111 ?_
            obtain ⟨k28, hs⟩ := ck hs
            refine evx_pfi (k := 50) E226 D226_112 F226_279 H53 rfl R27 k28 rfl ?_
            intro h29 R30
            obtain ⟨k31, hs⟩ := ck hs
            show evx _ _ _ _ _ [(3, .inl (iz q13)), (2, .inl (iz (x2 + (-1)))), (0, .inr (.inr (.inl (some 53)))), (1, .inl (iz x1))] _ _ _ _
            exact evx_lv (lvLe_mk (fm rfl (fm rfl (fm rfl (fm rfl fn)))) (fm rfl (fm rfl (fm rfl (fm rfl fn)))) (fm rfl (fm rfl (fm rfl (fm rfl fn))))) (ih.2.2.1 _ _ _ _ _ _ _ hs R30 rx1 k31 w16)
        · rw [if_neg cb18] at hs
          refine evx_F E226 D226_62 rfl (ifF (c2_ne_F (R15.1 80 (Int.toNat q13)) (by decide) (by omega))) ?_
          refine evx_F E226 D226_65 rfl rfl ?_
          obtain ⟨k32, hs⟩ := ck hs
          show evx _ _ _ _ _ [(3, .inl (iz q13)), (2, .inl (iz (x2 + (-1)))), (0, .inr (.inr (.inl (some 53)))), (1, .inl (iz x1))] _ _ _ _
          exact evx_lv (lvLe_mk (fm rfl (fm rfl (fm rfl fn))) (fm rfl (fm rfl (fm rfl (fm rfl fn)))) (fm rfl (fm rfl (fm rfl fn)))) (ih.2.1 _ _ _ _ _ _ hs R15 rx1 k32)
    · intro M x1 x2 x3 h v M' hs R rx1 rx2 rx3
      rw [l226] at hs
      refine evx_F E226 D226_115 rfl rfl ?_
      refine evx_gfr E226 D226_116 F226_79 H53 rfl R ?_
      refine evx_F E226 D226_119 rfl rfl ?_
      obtain ⟨k33, hs⟩ := ck hs
      refine evx_ial E226 D226_120 H76 (by decide) R k33 ?_
      refine evx_F E226 D226_121 rfl rfl ?_
      by_cases cb34 : ¬ (M 76 (Int.toNat x3)) = 4
      · rw [if_pos cb34] at hs
        refine evx_F E226 D226_122 rfl (ifT (c2_ne_T (R.1 76 (Int.toNat x3)) (by decide) cb34)) ?_
        show evx _ _ _ _ _ [(0, .inr (.inr (.inl (some 53)))), (1, .inl (iz x1)), (2, .inl (iz x2)), (3, .inl (iz x3))] _ _ _ _
        exact evx_lv (lvLe_mk (fm rfl (fm rfl (fm rfl (fm rfl fn)))) (fm rfl (fm rfl (fm rfl (fm rfl fn)))) (fm rfl (fm rfl (fm rfl (fm rfl fn))))) (ih.2.2.2.1 _ _ _ _ _ _ _ hs R rx1 rx2 rx3)
      · rw [if_neg cb34] at hs
        refine evx_F E226 D226_122 rfl (ifF (c2_ne_F (R.1 76 (Int.toNat x3)) (by decide) (by omega))) ?_
        refine evx_F E226 D226_125 rfl rfl ?_
        refine evx_gfr E226 D226_126 F226_97 H53 rfl R ?_
        refine evx_F E226 D226_129 rfl rfl ?_
        refine evx_F E226 D226_130 rfl rfl ?_
        refine evx_gfr E226 D226_131 F226_85 H53 rfl R ?_
        refine evx_F E226 D226_134 rfl rfl ?_
        refine evx_ial E226 D226_135 H78 (by decide) R k33 ?_
        obtain ⟨k35, hs⟩ := ck hs
        refine evx_ias E226 D226_136 H82 (by decide) R k35 (R.1 78 (Int.toNat x3)) ?_
        intro h36 R37
        refine evx_inc E226 D226_137 (Nat.le_of_ble_eq_true rfl) rfl ?_
        obtain ⟨k38, hs⟩ := ck hs
        show evx _ _ _ _ _ [(2, .inl (iz (x2 + 1))), (0, .inr (.inr (.inl (some 53)))), (1, .inl (iz x1)), (3, .inl (iz x3))] _ _ _ _
        exact evx_lv (lvLe_mk (fm rfl (fm rfl (fm rfl (fm rfl fn)))) (fm rfl (fm rfl (fm rfl (fm rfl fn)))) (fm rfl (fm rfl (fm rfl (fm rfl fn))))) (ih.2.2.2.1 _ _ _ _ _ _ _ hs R37 rx1 k38 rx3)
    · intro M x1 x2 x3 h v M' hs R rx1 rx2 rx3
      rw [l226] at hs
      refine evx_F E226 D226_140 rfl rfl ?_
      refine evx_gfr E226 D226_141 F226_79 H53 rfl R ?_
      refine evx_F E226 D226_144 rfl rfl ?_
      obtain ⟨k39, hs⟩ := ck hs
      refine evx_ial E226 D226_145 H76 (by decide) R k39 ?_
      refine evx_F E226 D226_146 rfl rfl ?_
      by_cases cb40 : (M 76 (Int.toNat x3)) = 3
      · rw [if_pos cb40] at hs
        refine evx_F E226 D226_147 rfl (ifT (c2_eq_T (R.1 76 (Int.toNat x3)) (by decide) cb40)) ?_
        show evx _ _ _ _ _ [(0, .inr (.inr (.inl (some 53)))), (1, .inl (iz x1)), (2, .inl (iz x2)), (3, .inl (iz x3))] _ _ _ _
        exact evx_lv (lvLe_mk (fm rfl (fm rfl (fm rfl (fm rfl fn)))) (fm rfl (fm rfl (fm rfl (fm rfl fn)))) (fm rfl (fm rfl (fm rfl (fm rfl fn))))) (ih.2.2.2.2.1 _ _ _ _ _ _ _ hs R rx1 rx2 rx3)
      · rw [if_neg cb40] at hs
        refine evx_F E226 D226_147 rfl (ifF (c2_eq_F (R.1 76 (Int.toNat x3)) (by decide) (by omega))) ?_
        refine evx_F E226 D226_150 rfl rfl ?_
        refine evx_gfr E226 D226_151 F226_79 H53 rfl R ?_
        refine evx_F E226 D226_154 rfl rfl ?_
        refine evx_ial E226 D226_155 H76 (by decide) R k39 ?_
        refine evx_F E226 D226_156 rfl rfl ?_
        by_cases cb41 : ¬ (M 76 (Int.toNat x3)) = 4
        · rw [if_pos cb41] at hs
          refine evx_F E226 D226_157 rfl (ifT (c2_ne_T (R.1 76 (Int.toNat x3)) (by decide) cb41)) ?_
          show evx _ _ _ _ _ [(0, .inr (.inr (.inl (some 53)))), (1, .inl (iz x1)), (2, .inl (iz x2)), (3, .inl (iz x3))] _ _ _ _
          exact evx_lv (lvLe_mk (fm rfl (fm rfl (fm rfl (fm rfl fn)))) (fm rfl (fm rfl (fm rfl (fm rfl fn)))) (fm rfl (fm rfl (fm rfl (fm rfl fn))))) (ih.2.2.2.2.2 _ _ _ _ _ _ _ hs R rx1 rx2 rx3)
        · rw [if_neg cb41] at hs
          refine evx_F E226 D226_157 rfl (ifF (c2_ne_F (R.1 76 (Int.toNat x3)) (by decide) (by omega))) ?_
          show evx _ _ _ _ _ [(0, .inr (.inr (.inl (some 53)))), (1, .inl (iz x1)), (2, .inl (iz x2)), (3, .inl (iz x3))] _ _ _ _
          exact evx_lv (lvLe_mk (fm rfl (fm rfl (fm rfl (fm rfl fn)))) (fm rfl (fm rfl (fm rfl (fm rfl fn)))) (fm rfl (fm rfl (fm rfl (fm rfl fn))))) (ih.2.2.2.2.1 _ _ _ _ _ _ _ hs R rx1 rx2 rx3)
    · intro M x1 x2 x3 h v M' hs R rx1 rx2 rx3
      rw [l226] at hs
      refine evx_F E226 D226_160 rfl rfl ?_
      refine evx_gfr E226 D226_161 F226_97 H53 rfl R ?_
      refine evx_F E226 D226_164 rfl rfl ?_
      refine evx_F E226 D226_165 rfl rfl ?_
      refine evx_gfr E226 D226_166 F226_82 H53 rfl R ?_
      refine evx_F E226 D226_169 rfl rfl ?_
      obtain ⟨k42, hs⟩ := ck hs
      refine evx_ial E226 D226_170 H77 (by decide) R k42 ?_
      obtain ⟨k43, hs⟩ := ck hs
      refine evx_ias E226 D226_171 H82 (by decide) R k43 (R.1 77 (Int.toNat x3)) ?_
      intro h44 R45
      refine evx_inc E226 D226_172 (Nat.le_of_ble_eq_true rfl) rfl ?_
      obtain ⟨k46, hs⟩ := ck hs
      show evx _ _ _ _ _ [(2, .inl (iz (x2 + 1))), (0, .inr (.inr (.inl (some 53)))), (1, .inl (iz x1)), (3, .inl (iz x3))] _ _ _ _
      exact evx_lv (lvLe_mk (fm rfl (fm rfl (fm rfl (fm rfl fn)))) (fm rfl (fm rfl (fm rfl (fm rfl fn)))) (fm rfl (fm rfl (fm rfl (fm rfl fn))))) (ih.2.2.2.2.2 _ _ _ _ _ _ _ hs R45 rx1 k46 rx3)
    · intro M x1 x2 x3 h v M' hs R rx1 rx2 rx3
      rw [l226] at hs
      refine evx_F E226 D226_175 rfl rfl ?_
      show evx _ _ _ _ _ [(0, .inr (.inr (.inl (some 53)))), (1, .inl (iz x1)), (2, .inl (iz x2)), (3, .inl (iz x3))] _ _ _ _
      exact evx_lv (lvLe_mk (fm rfl (fm rfl (fm rfl fn))) (fm rfl (fm rfl (fm rfl (fm rfl fn)))) (fm rfl (fm rfl (fm rfl fn)))) (ih.2.1 _ _ _ _ _ _ hs R rx1 rx2)
def f226 (M : Mm) (x1 : Int) : Option (Int × Mm) := l226 FU 2 M x1 0 0
theorem c226 {L : Nat} {xs : Nat → Int32} {h : mvH} {M : Mm} {x1 : Int} {v : Int} {M' : Mm} (R : rp h M) (rx1 : rg x1) (hs : f226 M x1 = some (v, M')) : evx L xs 2 226 0 [(0, .inr (.inr (.inl (some 53)))), (1, .inl (iz x1))] [] h (.inl none, 0) M' := by
  unfold f226 at hs
  refine evx_F E226 D226_0 rfl rfl ?_
  refine evx_F E226 D226_1 rfl rfl ?_
  show evx _ _ _ _ _ [(2, .inl (iz 0)), (0, .inr (.inr (.inl (some 53)))), (1, .inl (iz x1))] _ _ _ _
  exact evx_lv (lvLe_mk (fm rfl (fm rfl (fm rfl fn))) (fm rfl (fm rfl (fm rfl fn))) (fm rfl (fm rfl (fm rfl fn)))) ((d226 FU).1 _ _ _ _ _ _ hs R rx1 (by decide))
set_option maxRecDepth 20000 in
theorem E229 : pgMm 229 = some (⟨"DictionaryHouseModel", "implies", "(II)Z"⟩, prog_14_method_13_code, 4, (some .boolean), []) := rfl
theorem D229_0 : pgDecT 229 0 = some (.iload_n 1, 1) := by decide +kernel
theorem D229_1 : pgDecT 229 1 = some (.istore_n 3, 1) := by decide +kernel
theorem D229_2 : pgDecT 229 2 = some (.iload_n 3, 1) := by decide +kernel
theorem D229_3 : pgDecT 229 3 = some (.iconst (-1), 1) := by decide +kernel
theorem D229_4 : pgDecT 229 4 = some (.if_icmp .eq 18, 3) := by decide +kernel
theorem D229_22 : pgDecT 229 22 = some (.iload_n 3, 1) := by decide +kernel
theorem D229_23 : pgDecT 229 23 = some (.iload_n 2, 1) := by decide +kernel
theorem D229_24 : pgDecT 229 24 = some (.if_icmp .ne 7, 3) := by decide +kernel
theorem D229_31 : pgDecT 229 31 = some (.iconst 0, 1) := by decide +kernel
theorem D229_32 : pgDecT 229 32 = some (.ireturn, 1) := by decide +kernel
theorem D229_27 : pgDecT 229 27 = some (.iconst 1, 1) := by decide +kernel
theorem D229_28 : pgDecT 229 28 = some (.goto 4, 3) := by decide +kernel
theorem D229_7 : pgDecT 229 7 = some (.iload_n 3, 1) := by decide +kernel
theorem D229_8 : pgDecT 229 8 = some (.iload_n 2, 1) := by decide +kernel
theorem D229_9 : pgDecT 229 9 = some (.if_icmp .eq 13, 3) := by decide +kernel
theorem D229_12 : pgDecT 229 12 = some (.aload_n 0, 1) := by decide +kernel
theorem D229_13 : pgDecT 229 13 = some (.getfield 19, 3) := by decide +kernel
theorem F229_19 : pgFf 229 19 = some (12, 6, 3) := by decide +kernel
theorem D229_16 : pgDecT 229 16 = some (.iload_n 3, 1) := by decide +kernel
theorem D229_17 : pgDecT 229 17 = some (.iaload, 1) := by decide +kernel
theorem D229_18 : pgDecT 229 18 = some (.istore_n 3, 1) := by decide +kernel
theorem D229_19 : pgDecT 229 19 = some (.goto (-17), 3) := by decide +kernel
/-! 229: DictionaryHouseModel.implies (II)Z -/
def l229 : Nat → Nat → Mm → Int → Int → Int → Option Int
  | 0, _, _, _, _, _ => none
  | f + 1, 2, M, x1, x2, x3 => if x3 = (-1) then (if ¬ x3 = x2 then (some 0) else (some 1)) else (if x3 = x2 then (if ¬ x3 = x2 then (some 0) else (some 1)) else (if 0 ≤ x3 ∧ x3 < 6 then (l229 f 2 M x1 x2 (M 57 (Int.toNat x3))) else none))
  | _, _, _, _, _, _ => none
theorem d229 {L : Nat} {xs : Nat → Int32} (f : Nat) : (∀ (M : Mm) (x1 x2 x3 : Int) (h : mvH) (v : Int) , l229 f 2 M x1 x2 x3 = some v → rp h M → rg x1 → rg x2 → rg x3 → evx L xs 1 229 2 [(0, .inr (.inr (.inl (some 53)))), (1, .inl (iz x1)), (2, .inl (iz x2)), (3, .inl (iz x3))] [] h (.inl (some (.inl v)), 0) M) := by
  induction f with
  | zero => exact (fun M x1 x2 x3 h v hs _ _ _ _ => by cases hs)
  | succ f ih =>
    intro M x1 x2 x3 h v hs R rx1 rx2 rx3
    rw [l229] at hs
    refine evx_F E229 D229_2 rfl rfl ?_
    refine evx_F E229 D229_3 rfl rfl ?_
    by_cases cb1 : x3 = (-1)
    · rw [if_pos cb1] at hs
      refine evx_F E229 D229_4 rfl (ifT (c2_eq_T rx3 (by decide) cb1)) ?_
      refine evx_F E229 D229_22 rfl rfl ?_
      refine evx_F E229 D229_23 rfl rfl ?_
      by_cases cb2 : ¬ x3 = x2
      · rw [if_pos cb2] at hs
        refine evx_F E229 D229_24 rfl (ifT (c2_ne_T rx3 rx2 cb2)) ?_
        refine evx_F E229 D229_31 rfl rfl ?_
        cases hs
        exact evx_ret E229 D229_32 rfl (fun d => rfl) rfl (show rg _ from (by decide)) R
      · rw [if_neg cb2] at hs
        refine evx_F E229 D229_24 rfl (ifF (c2_ne_F rx3 rx2 (by omega))) ?_
        refine evx_F E229 D229_27 rfl rfl ?_
        refine evx_F E229 D229_28 rfl rfl ?_
        cases hs
        exact evx_ret E229 D229_32 rfl (fun d => rfl) rfl (show rg _ from (by decide)) R
    · rw [if_neg cb1] at hs
      refine evx_F E229 D229_4 rfl (ifF (c2_eq_F rx3 (by decide) (by omega))) ?_
      refine evx_F E229 D229_7 rfl rfl ?_
      refine evx_F E229 D229_8 rfl rfl ?_
      by_cases cb3 : x3 = x2
      · rw [if_pos cb3] at hs
        refine evx_F E229 D229_9 rfl (ifT (c2_eq_T rx3 rx2 cb3)) ?_
        refine evx_F E229 D229_22 rfl rfl ?_
        refine evx_F E229 D229_23 rfl rfl ?_
        by_cases cb4 : ¬ x3 = x2
        · rw [if_pos cb4] at hs
          refine evx_F E229 D229_24 rfl (ifT (c2_ne_T rx3 rx2 cb4)) ?_
          refine evx_F E229 D229_31 rfl rfl ?_
          cases hs
          exact evx_ret E229 D229_32 rfl (fun d => rfl) rfl (show rg _ from (by decide)) R
        · rw [if_neg cb4] at hs
          refine evx_F E229 D229_24 rfl (ifF (c2_ne_F rx3 rx2 (by omega))) ?_
          refine evx_F E229 D229_27 rfl rfl ?_
          refine evx_F E229 D229_28 rfl rfl ?_
          cases hs
          exact evx_ret E229 D229_32 rfl (fun d => rfl) rfl (show rg _ from (by decide)) R
      · rw [if_neg cb3] at hs
        refine evx_F E229 D229_9 rfl (ifF (c2_eq_F rx3 rx2 (by omega))) ?_
        refine evx_F E229 D229_12 rfl rfl ?_
        refine evx_gfr E229 D229_13 F229_19 H53 rfl R ?_
        refine evx_F E229 D229_16 rfl rfl ?_
        obtain ⟨k5, hs⟩ := ck hs
        refine evx_ial E229 D229_17 H57 (by decide) R k5 ?_
        refine evx_F E229 D229_18 rfl rfl ?_
        refine evx_F E229 D229_19 rfl rfl ?_
        show evx _ _ _ _ _ [(3, .inl (iz (M 57 (Int.toNat x3)))), (0, .inr (.inr (.inl (some 53)))), (1, .inl (iz x1)), (2, .inl (iz x2))] _ _ _ _
        exact evx_lv (lvLe_mk (fm rfl (fm rfl (fm rfl (fm rfl fn)))) (fm rfl (fm rfl (fm rfl (fm rfl fn)))) (fm rfl (fm rfl (fm rfl (fm rfl fn))))) (ih _ _ _ _ _ _ hs R rx1 rx2 (R.1 57 (Int.toNat x3)))
def f229 (M : Mm) (x1 : Int) (x2 : Int) : Option Int := l229 FU 2 M x1 x2 x1
theorem c229 {L : Nat} {xs : Nat → Int32} {h : mvH} {M : Mm} {x1 x2 : Int} {v : Int} (R : rp h M) (rx1 : rg x1) (rx2 : rg x2) (hs : f229 M x1 x2 = some v) : evx L xs 1 229 0 [(0, .inr (.inr (.inl (some 53)))), (1, .inl (iz x1)), (2, .inl (iz x2))] [] h (.inl (some (.inl v)), 0) M := by
  unfold f229 at hs
  refine evx_F E229 D229_0 rfl rfl ?_
  refine evx_F E229 D229_1 rfl rfl ?_
  show evx _ _ _ _ _ [(3, .inl (iz x1)), (0, .inr (.inr (.inl (some 53)))), (1, .inl (iz x1)), (2, .inl (iz x2))] _ _ _ _
  exact evx_lv (lvLe_mk (fm rfl (fm rfl (fm rfl (fm rfl fn)))) (fm rfl (fm rfl (fm rfl (fm rfl fn)))) (fm rfl (fm rfl (fm rfl (fm rfl fn))))) ((d229 FU) _ _ _ _ _ _ hs R rx1 rx2 rx1)
set_option maxRecDepth 20000 in
theorem E230 : pgMm 230 = some (⟨"DictionaryHouseModel", "indexOf", "(I)I"⟩, prog_14_method_41_code, 3, (some .int), []) := rfl
theorem D230_0 : pgDecT 230 0 = some (.iconst 0, 1) := by decide +kernel
theorem D230_1 : pgDecT 230 1 = some (.istore_n 2, 1) := by decide +kernel
theorem D230_2 : pgDecT 230 2 = some (.iload_n 2, 1) := by decide +kernel
theorem D230_3 : pgDecT 230 3 = some (.aload_n 0, 1) := by decide +kernel
theorem D230_4 : pgDecT 230 4 = some (.getfield 279, 3) := by decide +kernel
theorem F230_279 : pgFf 230 279 = some (12, 50, 0) := by decide +kernel
theorem D230_7 : pgDecT 230 7 = some (.if_icmp .ge 21, 3) := by decide +kernel
theorem D230_28 : pgDecT 230 28 = some (.iconst (-1), 1) := by decide +kernel
theorem D230_29 : pgDecT 230 29 = some (.ireturn, 1) := by decide +kernel
theorem D230_10 : pgDecT 230 10 = some (.aload_n 0, 1) := by decide +kernel
theorem D230_11 : pgDecT 230 11 = some (.getfield 127, 3) := by decide +kernel
theorem F230_127 : pgFf 230 127 = some (12, 51, 3) := by decide +kernel
theorem D230_14 : pgDecT 230 14 = some (.iload_n 2, 1) := by decide +kernel
theorem D230_15 : pgDecT 230 15 = some (.iaload, 1) := by decide +kernel
theorem D230_16 : pgDecT 230 16 = some (.iload_n 1, 1) := by decide +kernel
theorem D230_17 : pgDecT 230 17 = some (.if_icmp .ne 5, 3) := by decide +kernel
theorem D230_22 : pgDecT 230 22 = some (.iinc 2 1, 3) := by decide +kernel
theorem D230_25 : pgDecT 230 25 = some (.goto (-23), 3) := by decide +kernel
theorem D230_20 : pgDecT 230 20 = some (.iload_n 2, 1) := by decide +kernel
theorem D230_21 : pgDecT 230 21 = some (.ireturn, 1) := by decide +kernel
/-! 230: DictionaryHouseModel.indexOf (I)I -/
def l230 : Nat → Nat → Mm → Int → Int → Option Int
  | 0, _, _, _, _ => none
  | f + 1, 2, M, x1, x2 => if (M 53 50) ≤ x2 then (some (-1)) else (if 0 ≤ x2 ∧ x2 < 4000 then (if ¬ (M 92 (Int.toNat x2)) = x1 then (if rg (x2 + 1) then (l230 f 2 M x1 (x2 + 1)) else none) else (some x2)) else none)
  | _, _, _, _, _ => none
theorem d230 {L : Nat} {xs : Nat → Int32} (f : Nat) : (∀ (M : Mm) (x1 x2 : Int) (h : mvH) (v : Int) , l230 f 2 M x1 x2 = some v → rp h M → rg x1 → rg x2 → evx L xs 1 230 2 [(0, .inr (.inr (.inl (some 53)))), (1, .inl (iz x1)), (2, .inl (iz x2))] [] h (.inl (some (.inl v)), 0) M) := by
  induction f with
  | zero => exact (fun M x1 x2 h v hs _ _ _ => by cases hs)
  | succ f ih =>
    intro M x1 x2 h v hs R rx1 rx2
    rw [l230] at hs
    refine evx_F E230 D230_2 rfl rfl ?_
    refine evx_F E230 D230_3 rfl rfl ?_
    refine evx_gfi (k := 50) E230 D230_4 F230_279 H53 rfl R ?_
    by_cases cb1 : (M 53 50) ≤ x2
    · rw [if_pos cb1] at hs
      refine evx_F E230 D230_7 rfl (ifT (c2_ge_T rx2 (R.1 53 50) cb1)) ?_
      refine evx_F E230 D230_28 rfl rfl ?_
      cases hs
      exact evx_ret E230 D230_29 rfl (fun d => rfl) rfl (show rg _ from (by decide)) R
    · rw [if_neg cb1] at hs
      refine evx_F E230 D230_7 rfl (ifF (c2_ge_F rx2 (R.1 53 50) (by omega))) ?_
      refine evx_F E230 D230_10 rfl rfl ?_
      refine evx_gfr E230 D230_11 F230_127 H53 rfl R ?_
      refine evx_F E230 D230_14 rfl rfl ?_
      obtain ⟨k2, hs⟩ := ck hs
      refine evx_ial E230 D230_15 H92 (by decide) R k2 ?_
      refine evx_F E230 D230_16 rfl rfl ?_
      by_cases cb3 : ¬ (M 92 (Int.toNat x2)) = x1
      · rw [if_pos cb3] at hs
        refine evx_F E230 D230_17 rfl (ifT (c2_ne_T (R.1 92 (Int.toNat x2)) rx1 cb3)) ?_
        refine evx_inc E230 D230_22 (Nat.le_of_ble_eq_true rfl) rfl ?_
        refine evx_F E230 D230_25 rfl rfl ?_
        obtain ⟨k4, hs⟩ := ck hs
        show evx _ _ _ _ _ [(2, .inl (iz (x2 + 1))), (0, .inr (.inr (.inl (some 53)))), (1, .inl (iz x1))] _ _ _ _
        exact evx_lv (lvLe_mk (fm rfl (fm rfl (fm rfl fn))) (fm rfl (fm rfl (fm rfl fn))) (fm rfl (fm rfl (fm rfl fn)))) (ih _ _ _ _ _ hs R rx1 k4)
      · rw [if_neg cb3] at hs
        refine evx_F E230 D230_17 rfl (ifF (c2_ne_F (R.1 92 (Int.toNat x2)) rx1 (by omega))) ?_
        refine evx_F E230 D230_20 rfl rfl ?_
        cases hs
        exact evx_ret E230 D230_21 rfl (fun d => rfl) rfl (show rg _ from rx2) R
def f230 (M : Mm) (x1 : Int) : Option Int := l230 FU 2 M x1 0
theorem c230 {L : Nat} {xs : Nat → Int32} {h : mvH} {M : Mm} {x1 : Int} {v : Int} (R : rp h M) (rx1 : rg x1) (hs : f230 M x1 = some v) : evx L xs 1 230 0 [(0, .inr (.inr (.inl (some 53)))), (1, .inl (iz x1))] [] h (.inl (some (.inl v)), 0) M := by
  unfold f230 at hs
  refine evx_F E230 D230_0 rfl rfl ?_
  refine evx_F E230 D230_1 rfl rfl ?_
  show evx _ _ _ _ _ [(2, .inl (iz 0)), (0, .inr (.inr (.inl (some 53)))), (1, .inl (iz x1))] _ _ _ _
  exact evx_lv (lvLe_mk (fm rfl (fm rfl (fm rfl fn))) (fm rfl (fm rfl (fm rfl fn))) (fm rfl (fm rfl (fm rfl fn)))) ((d230 FU) _ _ _ _ _ hs R rx1 (by decide))
set_option maxRecDepth 20000 in
theorem E231 : pgMm 231 = some (⟨"DictionaryHouseModel", "lowest", "(I)I"⟩, prog_14_method_44_code, 6, (some .int), []) := rfl
theorem D231_0 : pgDecT 231 0 = some (.iload_n 1, 1) := by decide +kernel
theorem D231_1 : pgDecT 231 1 = some (.istore_n 2, 1) := by decide +kernel
theorem D231_2 : pgDecT 231 2 = some (.iconst 0, 1) := by decide +kernel
theorem D231_3 : pgDecT 231 3 = some (.istore_n 3, 1) := by decide +kernel
theorem D231_4 : pgDecT 231 4 = some (.iload_n 3, 1) := by decide +kernel
theorem D231_5 : pgDecT 231 5 = some (.aload_n 0, 1) := by decide +kernel
theorem D231_6 : pgDecT 231 6 = some (.getfield 196, 3) := by decide +kernel
theorem F231_196 : pgFf 231 196 = some (12, 5, 0) := by decide +kernel
theorem D231_9 : pgDecT 231 9 = some (.if_icmp .ge 82, 3) := by decide +kernel
theorem D231_91 : pgDecT 231 91 = some (.iload_n 2, 1) := by decide +kernel
theorem D231_92 : pgDecT 231 92 = some (.ireturn, 1) := by decide +kernel
theorem D231_12 : pgDecT 231 12 = some (.iconst 0, 1) := by decide +kernel
theorem D231_13 : pgDecT 231 13 = some (.istore 4, 2) := by decide +kernel
theorem D231_15 : pgDecT 231 15 = some (.iload 4, 2) := by decide +kernel
theorem D231_17 : pgDecT 231 17 = some (.aload_n 0, 1) := by decide +kernel
theorem D231_18 : pgDecT 231 18 = some (.getfield 196, 3) := by decide +kernel
theorem D231_21 : pgDecT 231 21 = some (.if_icmp .ge 64, 3) := by decide +kernel
theorem D231_85 : pgDecT 231 85 = some (.iinc 3 1, 3) := by decide +kernel
theorem D231_88 : pgDecT 231 88 = some (.goto (-84), 3) := by decide +kernel
theorem D231_24 : pgDecT 231 24 = some (.iload_n 1, 1) := by decide +kernel
theorem D231_25 : pgDecT 231 25 = some (.iload_n 3, 1) := by decide +kernel
theorem D231_26 : pgDecT 231 26 = some (.ishr, 1) := by decide +kernel
theorem D231_27 : pgDecT 231 27 = some (.iconst 1, 1) := by decide +kernel
theorem D231_28 : pgDecT 231 28 = some (.iand, 1) := by decide +kernel
theorem D231_29 : pgDecT 231 29 = some (.iconst 1, 1) := by decide +kernel
theorem D231_30 : pgDecT 231 30 = some (.if_icmp .ne 17, 3) := by decide +kernel
theorem D231_47 : pgDecT 231 47 = some (.iconst 0, 1) := by decide +kernel
theorem D231_48 : pgDecT 231 48 = some (.istore 5, 2) := by decide +kernel
theorem D231_50 : pgDecT 231 50 = some (.iload 5, 2) := by decide +kernel
theorem D231_52 : pgDecT 231 52 = some (.ifCond .eq 27, 3) := by decide +kernel
theorem D231_79 : pgDecT 231 79 = some (.iinc 4 1, 3) := by decide +kernel
theorem D231_82 : pgDecT 231 82 = some (.goto (-67), 3) := by decide +kernel
theorem D231_33 : pgDecT 231 33 = some (.iload_n 1, 1) := by decide +kernel
theorem D231_34 : pgDecT 231 34 = some (.iload 4, 2) := by decide +kernel
theorem D231_36 : pgDecT 231 36 = some (.ishr, 1) := by decide +kernel
theorem D231_37 : pgDecT 231 37 = some (.iconst 1, 1) := by decide +kernel
theorem D231_38 : pgDecT 231 38 = some (.iand, 1) := by decide +kernel
theorem D231_39 : pgDecT 231 39 = some (.iconst 1, 1) := by decide +kernel
theorem D231_40 : pgDecT 231 40 = some (.if_icmp .ne 7, 3) := by decide +kernel
theorem D231_43 : pgDecT 231 43 = some (.iconst 1, 1) := by decide +kernel
theorem D231_44 : pgDecT 231 44 = some (.goto 4, 3) := by decide +kernel
theorem D231_55 : pgDecT 231 55 = some (.iload_n 3, 1) := by decide +kernel
theorem D231_56 : pgDecT 231 56 = some (.iload 4, 2) := by decide +kernel
theorem D231_58 : pgDecT 231 58 = some (.if_icmp .eq 21, 3) := by decide +kernel
theorem D231_61 : pgDecT 231 61 = some (.aload_n 0, 1) := by decide +kernel
theorem D231_62 : pgDecT 231 62 = some (.iload 4, 2) := by decide +kernel
theorem D231_64 : pgDecT 231 64 = some (.iload_n 3, 1) := by decide +kernel
theorem D231_65 : pgDecT 231 65 = some (.invokevirtual 295, 3) := by decide +kernel
theorem I231_295 : pgIi 231 295 = some (229, 2, 12) := by decide +kernel
theorem D231_68 : pgDecT 231 68 = some (.ifCond .eq 11, 3) := by decide +kernel
theorem D231_71 : pgDecT 231 71 = some (.iload_n 2, 1) := by decide +kernel
theorem D231_72 : pgDecT 231 72 = some (.iconst 1, 1) := by decide +kernel
theorem D231_73 : pgDecT 231 73 = some (.iload_n 3, 1) := by decide +kernel
theorem D231_74 : pgDecT 231 74 = some (.ishl, 1) := by decide +kernel
theorem D231_75 : pgDecT 231 75 = some (.iconst (-1), 1) := by decide +kernel
theorem D231_76 : pgDecT 231 76 = some (.ixor, 1) := by decide +kernel
theorem D231_77 : pgDecT 231 77 = some (.iand, 1) := by decide +kernel
theorem D231_78 : pgDecT 231 78 = some (.istore_n 2, 1) := by decide +kernel
/-! 231: DictionaryHouseModel.lowest (I)I -/
def l231 : Nat → Nat → Mm → Int → Int → Int → Int → Option Int
  | 0, _, _, _, _, _, _ => none
  | f + 1, 4, M, x1, x2, x3, _ => if (M 53 5) ≤ x3 then (some x2) else (l231 f 15 M x1 x2 x3 0)
  | f + 1, 15, M, x1, x2, x3, x4 => if (M 53 5) ≤ x4 then (if rg (x3 + 1) then (l231 f 4 M x1 x2 (x3 + 1) 0) else none) else (if ¬ (bAnd (bShr x1 x3) 1) = 1 then (if rg (x4 + 1) then (l231 f 15 M x1 x2 x3 (x4 + 1)) else none) else (if ¬ (bAnd (bShr x1 x4) 1) = 1 then (if rg (x4 + 1) then (l231 f 15 M x1 x2 x3 (x4 + 1)) else none) else (if x3 = x4 then (if rg (x4 + 1) then (l231 f 15 M x1 x2 x3 (x4 + 1)) else none) else (f229 M x4 x3).bind (fun q11 => if q11 = 0 then (if rg (x4 + 1) then (l231 f 15 M x1 x2 x3 (x4 + 1)) else none) else (if rg (x4 + 1) then (l231 f 15 M x1 (bAnd x2 (bXor (bShl 1 x3) (-1))) x3 (x4 + 1)) else none)))))
  | _, _, _, _, _, _, _ => none
theorem d231 {L : Nat} {xs : Nat → Int32} (f : Nat) : (∀ (M : Mm) (x1 x2 x3 : Int) (h : mvH) (v : Int) , l231 f 4 M x1 x2 x3 0 = some v → rp h M → rg x1 → rg x2 → rg x3 → evx L xs 2 231 4 [(0, .inr (.inr (.inl (some 53)))), (1, .inl (iz x1)), (2, .inl (iz x2)), (3, .inl (iz x3))] [] h (.inl (some (.inl v)), 0) M) ∧ (∀ (M : Mm) (x1 x2 x3 x4 : Int) (h : mvH) (v : Int) , l231 f 15 M x1 x2 x3 x4 = some v → rp h M → rg x1 → rg x2 → rg x3 → rg x4 → evx L xs 2 231 15 [(0, .inr (.inr (.inl (some 53)))), (1, .inl (iz x1)), (2, .inl (iz x2)), (3, .inl (iz x3)), (4, .inl (iz x4))] [] h (.inl (some (.inl v)), 0) M) := by
  induction f with
  | zero => exact ⟨(fun M x1 x2 x3 h v hs _ _ _ _ => by cases hs), (fun M x1 x2 x3 x4 h v hs _ _ _ _ _ => by cases hs)⟩
  | succ f ih =>
    refine ⟨?_, ?_⟩
    · intro M x1 x2 x3 h v hs R rx1 rx2 rx3
      rw [l231] at hs
      refine evx_F E231 D231_4 rfl rfl ?_
      refine evx_F E231 D231_5 rfl rfl ?_
      refine evx_gfi (k := 5) E231 D231_6 F231_196 H53 rfl R ?_
      by_cases cb1 : (M 53 5) ≤ x3
      · rw [if_pos cb1] at hs
        refine evx_F E231 D231_9 rfl (ifT (c2_ge_T rx3 (R.1 53 5) cb1)) ?_
        refine evx_F E231 D231_91 rfl rfl ?_
        cases hs
        exact evx_ret E231 D231_92 rfl (fun d => rfl) rfl (show rg _ from rx2) R
      · rw [if_neg cb1] at hs
        refine evx_F E231 D231_9 rfl (ifF (c2_ge_F rx3 (R.1 53 5) (by omega))) ?_
        refine evx_F E231 D231_12 rfl rfl ?_
        refine evx_F E231 D231_13 rfl rfl ?_
        show evx _ _ _ _ _ [(4, .inl (iz 0)), (0, .inr (.inr (.inl (some 53)))), (1, .inl (iz x1)), (2, .inl (iz x2)), (3, .inl (iz x3))] _ _ _ _
        exact evx_lv (lvLe_mk (fm rfl (fm rfl (fm rfl (fm rfl (fm rfl fn))))) (fm rfl (fm rfl (fm rfl (fm rfl (fm rfl fn))))) (fm rfl (fm rfl (fm rfl (fm rfl (fm rfl fn)))))) (ih.2 _ _ _ _ _ _ _ hs R rx1 rx2 rx3 (by decide))
    · intro M x1 x2 x3 x4 h v hs R rx1 rx2 rx3 rx4
      rw [l231] at hs
      refine evx_F E231 D231_15 rfl rfl ?_
      refine evx_F E231 D231_17 rfl rfl ?_
      refine evx_gfi (k := 5) E231 D231_18 F231_196 H53 rfl R ?_
      by_cases cb2 : (M 53 5) ≤ x4
      · rw [if_pos cb2] at hs
        refine evx_F E231 D231_21 rfl (ifT (c2_ge_T rx4 (R.1 53 5) cb2)) ?_
        refine evx_inc E231 D231_85 (Nat.le_of_ble_eq_true rfl) rfl ?_
        refine evx_F E231 D231_88 rfl rfl ?_
        obtain ⟨k3, hs⟩ := ck hs
        show evx _ _ _ _ _ [(3, .inl (iz (x3 + 1))), (0, .inr (.inr (.inl (some 53)))), (1, .inl (iz x1)), (2, .inl (iz x2)), (4, .inl (iz x4))] _ _ _ _
        exact evx_lv (lvLe_mk (fm rfl (fm rfl (fm rfl (fm rfl fn)))) (fm rfl (fm rfl (fm rfl (fm rfl (fm rfl fn))))) (fm rfl (fm rfl (fm rfl (fm rfl fn))))) (ih.1 _ _ _ _ _ _ hs R rx1 rx2 k3)
      · rw [if_neg cb2] at hs
        refine evx_F E231 D231_21 rfl (ifF (c2_ge_F rx4 (R.1 53 5) (by omega))) ?_
        refine evx_F E231 D231_24 rfl rfl ?_
        refine evx_F E231 D231_25 rfl rfl ?_
        refine evx_ishr E231 D231_26 ?_
        refine evx_F E231 D231_27 rfl rfl ?_
        refine evx_iand E231 D231_28 ?_
        refine evx_F E231 D231_29 rfl rfl ?_
        by_cases cb4 : ¬ (bAnd (bShr x1 x3) 1) = 1
        · rw [if_pos cb4] at hs
          refine evx_F E231 D231_30 rfl (ifT (c2_ne_T (iz_rg _) (by decide) cb4)) ?_
          refine evx_F E231 D231_47 rfl rfl ?_
          refine evx_F E231 D231_48 rfl rfl ?_
          refine evx_F E231 D231_50 rfl rfl ?_
          refine evx_F E231 D231_52 rfl rfl ?_
          refine evx_inc E231 D231_79 (Nat.le_of_ble_eq_true rfl) rfl ?_
          refine evx_F E231 D231_82 rfl rfl ?_
          obtain ⟨k5, hs⟩ := ck hs
          show evx _ _ _ _ _ [(4, .inl (iz (x4 + 1))), (5, .inl (iz 0)), (0, .inr (.inr (.inl (some 53)))), (1, .inl (iz x1)), (2, .inl (iz x2)), (3, .inl (iz x3))] _ _ _ _
          exact evx_lv (lvLe_mk (fm rfl (fm rfl (fm rfl (fm rfl (fm rfl fn))))) (fm rfl (fm rfl (fm rfl (fm rfl (fm rfl (fm rfl fn)))))) (fm rfl (fm rfl (fm rfl (fm rfl (fm rfl fn)))))) (ih.2 _ _ _ _ _ _ _ hs R rx1 rx2 rx3 k5)
        · rw [if_neg cb4] at hs
          refine evx_F E231 D231_30 rfl (ifF (c2_ne_F (iz_rg _) (by decide) (by omega))) ?_
          refine evx_F E231 D231_33 rfl rfl ?_
          refine evx_F E231 D231_34 rfl rfl ?_
          refine evx_ishr E231 D231_36 ?_
          refine evx_F E231 D231_37 rfl rfl ?_
          refine evx_iand E231 D231_38 ?_
          refine evx_F E231 D231_39 rfl rfl ?_
          by_cases cb6 : ¬ (bAnd (bShr x1 x4) 1) = 1
          · rw [if_pos cb6] at hs
            refine evx_F E231 D231_40 rfl (ifT (c2_ne_T (iz_rg _) (by decide) cb6)) ?_
            refine evx_F E231 D231_47 rfl rfl ?_
            refine evx_F E231 D231_48 rfl rfl ?_
            refine evx_F E231 D231_50 rfl rfl ?_
            refine evx_F E231 D231_52 rfl rfl ?_
            refine evx_inc E231 D231_79 (Nat.le_of_ble_eq_true rfl) rfl ?_
            refine evx_F E231 D231_82 rfl rfl ?_
            obtain ⟨k7, hs⟩ := ck hs
            show evx _ _ _ _ _ [(4, .inl (iz (x4 + 1))), (5, .inl (iz 0)), (0, .inr (.inr (.inl (some 53)))), (1, .inl (iz x1)), (2, .inl (iz x2)), (3, .inl (iz x3))] _ _ _ _
            exact evx_lv (lvLe_mk (fm rfl (fm rfl (fm rfl (fm rfl (fm rfl fn))))) (fm rfl (fm rfl (fm rfl (fm rfl (fm rfl (fm rfl fn)))))) (fm rfl (fm rfl (fm rfl (fm rfl (fm rfl fn)))))) (ih.2 _ _ _ _ _ _ _ hs R rx1 rx2 rx3 k7)
          · rw [if_neg cb6] at hs
            refine evx_F E231 D231_40 rfl (ifF (c2_ne_F (iz_rg _) (by decide) (by omega))) ?_
            refine evx_F E231 D231_43 rfl rfl ?_
            refine evx_F E231 D231_44 rfl rfl ?_
            refine evx_F E231 D231_48 rfl rfl ?_
            refine evx_F E231 D231_50 rfl rfl ?_
            refine evx_F E231 D231_52 rfl rfl ?_
            refine evx_F E231 D231_55 rfl rfl ?_
            refine evx_F E231 D231_56 rfl rfl ?_
            by_cases cb8 : x3 = x4
            · rw [if_pos cb8] at hs
              refine evx_F E231 D231_58 rfl (ifT (c2_eq_T rx3 rx4 cb8)) ?_
              refine evx_inc E231 D231_79 (Nat.le_of_ble_eq_true rfl) rfl ?_
              refine evx_F E231 D231_82 rfl rfl ?_
              obtain ⟨k9, hs⟩ := ck hs
              show evx _ _ _ _ _ [(4, .inl (iz (x4 + 1))), (5, .inl (iz 1)), (0, .inr (.inr (.inl (some 53)))), (1, .inl (iz x1)), (2, .inl (iz x2)), (3, .inl (iz x3))] _ _ _ _
              exact evx_lv (lvLe_mk (fm rfl (fm rfl (fm rfl (fm rfl (fm rfl fn))))) (fm rfl (fm rfl (fm rfl (fm rfl (fm rfl (fm rfl fn)))))) (fm rfl (fm rfl (fm rfl (fm rfl (fm rfl fn)))))) (ih.2 _ _ _ _ _ _ _ hs R rx1 rx2 rx3 k9)
            · rw [if_neg cb8] at hs
              refine evx_F E231 D231_58 rfl (ifF (c2_eq_F rx3 rx4 (by omega))) ?_
              refine evx_F E231 D231_61 rfl rfl ?_
              refine evx_F E231 D231_62 rfl rfl ?_
              refine evx_F E231 D231_64 rfl rfl ?_
              obtain ⟨q11, e10, hs⟩ := Option.bind_eq_some_iff.mp hs
              refine evx_cv (D := 1) E231 D231_65 I231_295 rfl rfl H53 ⟨Nat.le_of_ble_eq_true rfl, Nat.le_of_ble_eq_true rfl⟩ ⟨rfl, Nat.le_of_ble_eq_true rfl⟩ rfl R (evx_up (Nat.le_of_ble_eq_true rfl) (c229 R rx4 rx3 e10)) ?_
              intro h12 R13 w14
              have w14 : rg q11 := w14
              show evx _ _ _ _ _ _ (.inl (iz q11) :: _) _ _ _
              by_cases cb15 : q11 = 0
              · rw [if_pos cb15] at hs
                refine evx_F E231 D231_68 rfl (ifT (c1_eq_T w14 cb15)) ?_
                refine evx_inc E231 D231_79 (Nat.le_of_ble_eq_true rfl) rfl ?_
                refine evx_F E231 D231_82 rfl rfl ?_
                obtain ⟨k16, hs⟩ := ck hs
                show evx _ _ _ _ _ [(4, .inl (iz (x4 + 1))), (5, .inl (iz 1)), (0, .inr (.inr (.inl (some 53)))), (1, .inl (iz x1)), (2, .inl (iz x2)), (3, .inl (iz x3))] _ _ _ _
                exact evx_lv (lvLe_mk (fm rfl (fm rfl (fm rfl (fm rfl (fm rfl fn))))) (fm rfl (fm rfl (fm rfl (fm rfl (fm rfl (fm rfl fn)))))) (fm rfl (fm rfl (fm rfl (fm rfl (fm rfl fn)))))) (ih.2 _ _ _ _ _ _ _ hs R13 rx1 rx2 rx3 k16)
              · rw [if_neg cb15] at hs
                refine evx_F E231 D231_68 rfl (ifF (c1_eq_F w14 (by omega))) ?_
                refine evx_F E231 D231_71 rfl rfl ?_
                refine evx_F E231 D231_72 rfl rfl ?_
                refine evx_F E231 D231_73 rfl rfl ?_
                refine evx_ishl E231 D231_74 ?_
                refine evx_F E231 D231_75 rfl rfl ?_
                refine evx_ixor E231 D231_76 ?_
                refine evx_iand E231 D231_77 ?_
                refine evx_F E231 D231_78 rfl rfl ?_
                refine evx_inc E231 D231_79 (Nat.le_of_ble_eq_true rfl) rfl ?_
                refine evx_F E231 D231_82 rfl rfl ?_
                obtain ⟨k17, hs⟩ := ck hs
                show evx _ _ _ _ _ [(4, .inl (iz (x4 + 1))), (2, .inl (iz (bAnd x2 (bXor (bShl 1 x3) (-1))))), (5, .inl (iz 1)), (0, .inr (.inr (.inl (some 53)))), (1, .inl (iz x1)), (3, .inl (iz x3))] _ _ _ _
                exact evx_lv (lvLe_mk (fm rfl (fm rfl (fm rfl (fm rfl (fm rfl fn))))) (fm rfl (fm rfl (fm rfl (fm rfl (fm rfl (fm rfl fn)))))) (fm rfl (fm rfl (fm rfl (fm rfl (fm rfl fn)))))) (ih.2 _ _ _ _ _ _ _ hs R13 rx1 (iz_rg _) rx3 k17)
def f231 (M : Mm) (x1 : Int) : Option Int := l231 FU 4 M x1 x1 0 0
theorem c231 {L : Nat} {xs : Nat → Int32} {h : mvH} {M : Mm} {x1 : Int} {v : Int} (R : rp h M) (rx1 : rg x1) (hs : f231 M x1 = some v) : evx L xs 2 231 0 [(0, .inr (.inr (.inl (some 53)))), (1, .inl (iz x1))] [] h (.inl (some (.inl v)), 0) M := by
  unfold f231 at hs
  refine evx_F E231 D231_0 rfl rfl ?_
  refine evx_F E231 D231_1 rfl rfl ?_
  refine evx_F E231 D231_2 rfl rfl ?_
  refine evx_F E231 D231_3 rfl rfl ?_
  show evx _ _ _ _ _ [(3, .inl (iz 0)), (2, .inl (iz x1)), (0, .inr (.inr (.inl (some 53)))), (1, .inl (iz x1))] _ _ _ _
  exact evx_lv (lvLe_mk (fm rfl (fm rfl (fm rfl (fm rfl fn)))) (fm rfl (fm rfl (fm rfl (fm rfl fn)))) (fm rfl (fm rfl (fm rfl (fm rfl fn))))) ((d231 FU).1 _ _ _ _ _ _ hs R rx1 rx1 (by decide))
set_option maxRecDepth 20000 in
theorem E232 : pgMm 232 = some (⟨"DictionaryHouseModel", "count", "(I)I"⟩, prog_14_method_45_code, 3, (some .int), []) := rfl
theorem D232_0 : pgDecT 232 0 = some (.iconst 0, 1) := by decide +kernel
theorem D232_1 : pgDecT 232 1 = some (.istore_n 1, 1) := by decide +kernel
theorem D232_2 : pgDecT 232 2 = some (.iload_n 0, 1) := by decide +kernel
theorem D232_3 : pgDecT 232 3 = some (.istore_n 2, 1) := by decide +kernel
theorem D232_4 : pgDecT 232 4 = some (.iload_n 2, 1) := by decide +kernel
theorem D232_5 : pgDecT 232 5 = some (.ifCond .eq 15, 3) := by decide +kernel
theorem D232_20 : pgDecT 232 20 = some (.iload_n 1, 1) := by decide +kernel
theorem D232_21 : pgDecT 232 21 = some (.ireturn, 1) := by decide +kernel
theorem D232_8 : pgDecT 232 8 = some (.iinc 1 1, 3) := by decide +kernel
theorem D232_11 : pgDecT 232 11 = some (.iload_n 2, 1) := by decide +kernel
theorem D232_12 : pgDecT 232 12 = some (.iload_n 2, 1) := by decide +kernel
theorem D232_13 : pgDecT 232 13 = some (.iconst 1, 1) := by decide +kernel
theorem D232_14 : pgDecT 232 14 = some (.isub, 1) := by decide +kernel
theorem D232_15 : pgDecT 232 15 = some (.iand, 1) := by decide +kernel
theorem D232_16 : pgDecT 232 16 = some (.istore_n 2, 1) := by decide +kernel
theorem D232_17 : pgDecT 232 17 = some (.goto (-13), 3) := by decide +kernel
/-! 232: DictionaryHouseModel.count (I)I -/
def l232 : Nat → Nat → Mm → Int → Int → Int → Option Int
  | 0, _, _, _, _, _ => none
  | f + 1, 4, M, x0, x1, x2 => if x2 = 0 then (some x1) else (if rg (x1 + 1) then (l232 f 4 M x0 (x1 + 1) (bAnd x2 (x2 - 1))) else none)
  | _, _, _, _, _, _ => none
theorem d232 {L : Nat} {xs : Nat → Int32} (f : Nat) : (∀ (M : Mm) (x0 x1 x2 : Int) (h : mvH) (v : Int) , l232 f 4 M x0 x1 x2 = some v → rp h M → rg x0 → rg x1 → rg x2 → evx L xs 1 232 4 [(0, .inl (iz x0)), (1, .inl (iz x1)), (2, .inl (iz x2))] [] h (.inl (some (.inl v)), 0) M) := by
  induction f with
  | zero => exact (fun M x0 x1 x2 h v hs _ _ _ _ => by cases hs)
  | succ f ih =>
    intro M x0 x1 x2 h v hs R rx0 rx1 rx2
    rw [l232] at hs
    refine evx_F E232 D232_4 rfl rfl ?_
    by_cases cb1 : x2 = 0
    · rw [if_pos cb1] at hs
      refine evx_F E232 D232_5 rfl (ifT (c1_eq_T rx2 cb1)) ?_
      refine evx_F E232 D232_20 rfl rfl ?_
      cases hs
      exact evx_ret E232 D232_21 rfl (fun d => rfl) rfl (show rg _ from rx1) R
    · rw [if_neg cb1] at hs
      refine evx_F E232 D232_5 rfl (ifF (c1_eq_F rx2 (by omega))) ?_
      refine evx_inc E232 D232_8 (Nat.le_of_ble_eq_true rfl) rfl ?_
      refine evx_F E232 D232_11 rfl rfl ?_
      refine evx_F E232 D232_12 rfl rfl ?_
      refine evx_F E232 D232_13 rfl rfl ?_
      refine evx_sub E232 D232_14 ?_
      refine evx_iand E232 D232_15 ?_
      refine evx_F E232 D232_16 rfl rfl ?_
      refine evx_F E232 D232_17 rfl rfl ?_
      obtain ⟨k2, hs⟩ := ck hs
      show evx _ _ _ _ _ [(2, .inl (iz (bAnd x2 (x2 - 1)))), (1, .inl (iz (x1 + 1))), (0, .inl (iz x0))] _ _ _ _
      exact evx_lv (lvLe_mk (fm rfl (fm rfl (fm rfl fn))) (fm rfl (fm rfl (fm rfl fn))) (fm rfl (fm rfl (fm rfl fn)))) (ih _ _ _ _ _ _ hs R rx0 k2 (iz_rg _))
def f232 (M : Mm) (x0 : Int) : Option Int := l232 FU 4 M x0 0 x0
theorem c232 {L : Nat} {xs : Nat → Int32} {h : mvH} {M : Mm} {x0 : Int} {v : Int} (R : rp h M) (rx0 : rg x0) (hs : f232 M x0 = some v) : evx L xs 1 232 0 [(0, .inl (iz x0))] [] h (.inl (some (.inl v)), 0) M := by
  unfold f232 at hs
  refine evx_F E232 D232_0 rfl rfl ?_
  refine evx_F E232 D232_1 rfl rfl ?_
  refine evx_F E232 D232_2 rfl rfl ?_
  refine evx_F E232 D232_3 rfl rfl ?_
  show evx _ _ _ _ _ [(2, .inl (iz x0)), (1, .inl (iz 0)), (0, .inl (iz x0))] _ _ _ _
  exact evx_lv (lvLe_mk (fm rfl (fm rfl (fm rfl fn))) (fm rfl (fm rfl (fm rfl fn))) (fm rfl (fm rfl (fm rfl fn)))) ((d232 FU) _ _ _ _ _ _ hs R rx0 (by decide) rx0)
set_option maxRecDepth 20000 in
theorem E235 : pgMm 235 = some (⟨"DictionaryHouseModel", "termOf", "(I)I"⟩, prog_14_method_47_code, 6, (some .int), []) := rfl
theorem D235_0 : pgDecT 235 0 = some (.iconst 1, 1) := by decide +kernel
theorem D235_1 : pgDecT 235 1 = some (.istore_n 2, 1) := by decide +kernel
theorem D235_2 : pgDecT 235 2 = some (.aload_n 0, 1) := by decide +kernel
theorem D235_3 : pgDecT 235 3 = some (.getfield 97, 3) := by decide +kernel
theorem F235_97 : pgFf 235 97 = some (12, 35, 3) := by decide +kernel
theorem D235_6 : pgDecT 235 6 = some (.iconst 0, 1) := by decide +kernel
theorem D235_7 : pgDecT 235 7 = some (.iload_n 1, 1) := by decide +kernel
theorem D235_8 : pgDecT 235 8 = some (.iastore, 1) := by decide +kernel
theorem D235_9 : pgDecT 235 9 = some (.iload_n 2, 1) := by decide +kernel
theorem D235_10 : pgDecT 235 10 = some (.ifCond .le 267, 3) := by decide +kernel
theorem D235_277 : pgDecT 235 277 = some (.aload_n 0, 1) := by decide +kernel
theorem D235_278 : pgDecT 235 278 = some (.getfield 94, 3) := by decide +kernel
theorem F235_94 : pgFf 235 94 = some (12, 34, 3) := by decide +kernel
theorem D235_281 : pgDecT 235 281 = some (.aload_n 0, 1) := by decide +kernel
theorem D235_282 : pgDecT 235 282 = some (.iload_n 1, 1) := by decide +kernel
theorem D235_283 : pgDecT 235 283 = some (.invokevirtual 240, 3) := by decide +kernel
theorem I235_240 : pgIi 235 240 = some (217, 1, 12) := by decide +kernel
theorem D235_286 : pgDecT 235 286 = some (.iaload, 1) := by decide +kernel
theorem D235_287 : pgDecT 235 287 = some (.ireturn, 1) := by decide +kernel
theorem D235_13 : pgDecT 235 13 = some (.aload_n 0, 1) := by decide +kernel
theorem D235_14 : pgDecT 235 14 = some (.aload_n 0, 1) := by decide +kernel
theorem D235_15 : pgDecT 235 15 = some (.getfield 97, 3) := by decide +kernel
theorem D235_18 : pgDecT 235 18 = some (.iload_n 2, 1) := by decide +kernel
theorem D235_19 : pgDecT 235 19 = some (.iconst 1, 1) := by decide +kernel
theorem D235_20 : pgDecT 235 20 = some (.isub, 1) := by decide +kernel
theorem D235_21 : pgDecT 235 21 = some (.iaload, 1) := by decide +kernel
theorem D235_22 : pgDecT 235 22 = some (.invokevirtual 240, 3) := by decide +kernel
theorem D235_25 : pgDecT 235 25 = some (.istore_n 3, 1) := by decide +kernel
theorem D235_26 : pgDecT 235 26 = some (.aload_n 0, 1) := by decide +kernel
theorem D235_27 : pgDecT 235 27 = some (.getfield 79, 3) := by decide +kernel
theorem F235_79 : pgFf 235 79 = some (12, 29, 3) := by decide +kernel
theorem D235_30 : pgDecT 235 30 = some (.iload_n 3, 1) := by decide +kernel
theorem D235_31 : pgDecT 235 31 = some (.iaload, 1) := by decide +kernel
theorem D235_32 : pgDecT 235 32 = some (.iconst 3, 1) := by decide +kernel
theorem D235_33 : pgDecT 235 33 = some (.if_icmp .eq 13, 3) := by decide +kernel
theorem D235_46 : pgDecT 235 46 = some (.aload_n 0, 1) := by decide +kernel
theorem D235_47 : pgDecT 235 47 = some (.aload_n 0, 1) := by decide +kernel
theorem D235_48 : pgDecT 235 48 = some (.getfield 82, 3) := by decide +kernel
theorem F235_82 : pgFf 235 82 = some (12, 30, 3) := by decide +kernel
theorem D235_51 : pgDecT 235 51 = some (.iload_n 3, 1) := by decide +kernel
theorem D235_52 : pgDecT 235 52 = some (.iaload, 1) := by decide +kernel
theorem D235_53 : pgDecT 235 53 = some (.invokevirtual 240, 3) := by decide +kernel
theorem D235_56 : pgDecT 235 56 = some (.goto 4, 3) := by decide +kernel
theorem D235_60 : pgDecT 235 60 = some (.istore 4, 2) := by decide +kernel
theorem D235_62 : pgDecT 235 62 = some (.aload_n 0, 1) := by decide +kernel
theorem D235_63 : pgDecT 235 63 = some (.getfield 79, 3) := by decide +kernel
theorem D235_66 : pgDecT 235 66 = some (.iload_n 3, 1) := by decide +kernel
theorem D235_67 : pgDecT 235 67 = some (.iaload, 1) := by decide +kernel
theorem D235_68 : pgDecT 235 68 = some (.iconst 4, 1) := by decide +kernel
theorem D235_69 : pgDecT 235 69 = some (.if_icmp .ne 16, 3) := by decide +kernel
theorem D235_85 : pgDecT 235 85 = some (.iconst (-1), 1) := by decide +kernel
theorem D235_86 : pgDecT 235 86 = some (.istore 5, 2) := by decide +kernel
theorem D235_88 : pgDecT 235 88 = some (.aload_n 0, 1) := by decide +kernel
theorem D235_89 : pgDecT 235 89 = some (.getfield 94, 3) := by decide +kernel
theorem D235_92 : pgDecT 235 92 = some (.iload_n 3, 1) := by decide +kernel
theorem D235_93 : pgDecT 235 93 = some (.iaload, 1) := by decide +kernel
theorem D235_94 : pgDecT 235 94 = some (.iconst (-1), 1) := by decide +kernel
theorem D235_95 : pgDecT 235 95 = some (.if_icmp .eq 9, 3) := by decide +kernel
theorem D235_104 : pgDecT 235 104 = some (.iload 4, 2) := by decide +kernel
theorem D235_106 : pgDecT 235 106 = some (.iconst (-1), 1) := by decide +kernel
theorem D235_107 : pgDecT 235 107 = some (.if_icmp .eq 28, 3) := by decide +kernel
theorem D235_135 : pgDecT 235 135 = some (.iload 5, 2) := by decide +kernel
theorem D235_137 : pgDecT 235 137 = some (.iconst (-1), 1) := by decide +kernel
theorem D235_138 : pgDecT 235 138 = some (.if_icmp .eq 28, 3) := by decide +kernel
theorem D235_166 : pgDecT 235 166 = some (.aload_n 0, 1) := by decide +kernel
theorem D235_167 : pgDecT 235 167 = some (.getfield 70, 3) := by decide +kernel
theorem F235_70 : pgFf 235 70 = some (12, 25, 3) := by decide +kernel
theorem D235_170 : pgDecT 235 170 = some (.aload_n 0, 1) := by decide +kernel
theorem D235_171 : pgDecT 235 171 = some (.getfield 304, 3) := by decide +kernel
theorem F235_304 : pgFf 235 304 = some (12, 24, 0) := by decide +kernel
theorem D235_174 : pgDecT 235 174 = some (.aload_n 0, 1) := by decide +kernel
theorem D235_175 : pgDecT 235 175 = some (.getfield 79, 3) := by decide +kernel
theorem D235_178 : pgDecT 235 178 = some (.iload_n 3, 1) := by decide +kernel
theorem D235_179 : pgDecT 235 179 = some (.iaload, 1) := by decide +kernel
theorem D235_180 : pgDecT 235 180 = some (.iastore, 1) := by decide +kernel
theorem D235_181 : pgDecT 235 181 = some (.aload_n 0, 1) := by decide +kernel
theorem D235_182 : pgDecT 235 182 = some (.getfield 73, 3) := by decide +kernel
theorem F235_73 : pgFf 235 73 = some (12, 26, 3) := by decide +kernel
theorem D235_185 : pgDecT 235 185 = some (.aload_n 0, 1) := by decide +kernel
theorem D235_186 : pgDecT 235 186 = some (.getfield 304, 3) := by decide +kernel
theorem D235_189 : pgDecT 235 189 = some (.iload 4, 2) := by decide +kernel
theorem D235_191 : pgDecT 235 191 = some (.iconst (-1), 1) := by decide +kernel
theorem D235_192 : pgDecT 235 192 = some (.if_icmp .eq 13, 3) := by decide +kernel
theorem D235_205 : pgDecT 235 205 = some (.aload_n 0, 1) := by decide +kernel
theorem D235_206 : pgDecT 235 206 = some (.getfield 79, 3) := by decide +kernel
theorem D235_209 : pgDecT 235 209 = some (.iload_n 3, 1) := by decide +kernel
theorem D235_210 : pgDecT 235 210 = some (.iaload, 1) := by decide +kernel
theorem D235_211 : pgDecT 235 211 = some (.iconst 2, 1) := by decide +kernel
theorem D235_212 : pgDecT 235 212 = some (.if_icmp .ne 11, 3) := by decide +kernel
theorem D235_223 : pgDecT 235 223 = some (.iconst 0, 1) := by decide +kernel
theorem D235_224 : pgDecT 235 224 = some (.iastore, 1) := by decide +kernel
theorem D235_225 : pgDecT 235 225 = some (.aload_n 0, 1) := by decide +kernel
theorem D235_226 : pgDecT 235 226 = some (.getfield 76, 3) := by decide +kernel
theorem F235_76 : pgFf 235 76 = some (12, 27, 3) := by decide +kernel
theorem D235_229 : pgDecT 235 229 = some (.aload_n 0, 1) := by decide +kernel
theorem D235_230 : pgDecT 235 230 = some (.getfield 304, 3) := by decide +kernel
theorem D235_233 : pgDecT 235 233 = some (.iload 5, 2) := by decide +kernel
theorem D235_235 : pgDecT 235 235 = some (.iconst (-1), 1) := by decide +kernel
theorem D235_236 : pgDecT 235 236 = some (.if_icmp .eq 13, 3) := by decide +kernel
theorem D235_249 : pgDecT 235 249 = some (.iconst 0, 1) := by decide +kernel
theorem D235_250 : pgDecT 235 250 = some (.iastore, 1) := by decide +kernel
theorem D235_251 : pgDecT 235 251 = some (.aload_n 0, 1) := by decide +kernel
theorem D235_252 : pgDecT 235 252 = some (.getfield 94, 3) := by decide +kernel
theorem D235_255 : pgDecT 235 255 = some (.iload_n 3, 1) := by decide +kernel
theorem D235_256 : pgDecT 235 256 = some (.aload_n 0, 1) := by decide +kernel
theorem D235_257 : pgDecT 235 257 = some (.getfield 304, 3) := by decide +kernel
theorem D235_260 : pgDecT 235 260 = some (.iastore, 1) := by decide +kernel
theorem D235_261 : pgDecT 235 261 = some (.aload_n 0, 1) := by decide +kernel
theorem D235_262 : pgDecT 235 262 = some (.dup, 1) := by decide +kernel
theorem D235_263 : pgDecT 235 263 = some (.getfield 304, 3) := by decide +kernel
theorem D235_266 : pgDecT 235 266 = some (.iconst 1, 1) := by decide +kernel
theorem D235_267 : pgDecT 235 267 = some (.iadd, 1) := by decide +kernel
theorem D235_268 : pgDecT 235 268 = some (.putfield 304, 3) := by decide +kernel
theorem D235_271 : pgDecT 235 271 = some (.iinc 2 (-1), 3) := by decide +kernel
theorem D235_274 : pgDecT 235 274 = some (.goto (-265), 3) := by decide +kernel
theorem D235_215 : pgDecT 235 215 = some (.aload_n 0, 1) := by decide +kernel
theorem D235_216 : pgDecT 235 216 = some (.iload_n 3, 1) := by decide +kernel
theorem D235_217 : pgDecT 235 217 = some (.invokevirtual 298, 3) := by decide +kernel
theorem I235_298 : pgIi 235 298 = some (230, 1, 12) := by decide +kernel
theorem D235_220 : pgDecT 235 220 = some (.goto 4, 3) := by decide +kernel
theorem D235_195 : pgDecT 235 195 = some (.aload_n 0, 1) := by decide +kernel
theorem D235_196 : pgDecT 235 196 = some (.getfield 94, 3) := by decide +kernel
theorem D235_199 : pgDecT 235 199 = some (.iload 4, 2) := by decide +kernel
theorem D235_201 : pgDecT 235 201 = some (.iaload, 1) := by decide +kernel
theorem D235_202 : pgDecT 235 202 = some (.goto 22, 3) := by decide +kernel
theorem D235_110 : pgDecT 235 110 = some (.aload_n 0, 1) := by decide +kernel
theorem D235_111 : pgDecT 235 111 = some (.getfield 94, 3) := by decide +kernel
theorem D235_114 : pgDecT 235 114 = some (.iload 4, 2) := by decide +kernel
theorem D235_116 : pgDecT 235 116 = some (.iaload, 1) := by decide +kernel
theorem D235_117 : pgDecT 235 117 = some (.iconst (-1), 1) := by decide +kernel
theorem D235_118 : pgDecT 235 118 = some (.if_icmp .ne 17, 3) := by decide +kernel
theorem D235_121 : pgDecT 235 121 = some (.aload_n 0, 1) := by decide +kernel
theorem D235_122 : pgDecT 235 122 = some (.getfield 97, 3) := by decide +kernel
theorem D235_125 : pgDecT 235 125 = some (.iload_n 2, 1) := by decide +kernel
theorem D235_126 : pgDecT 235 126 = some (.iload 4, 2) := by decide +kernel
theorem D235_128 : pgDecT 235 128 = some (.iastore, 1) := by decide +kernel
theorem D235_129 : pgDecT 235 129 = some (.iinc 2 1, 3) := by decide +kernel
theorem D235_132 : pgDecT 235 132 = some (.goto 142, 3) := by decide +kernel
theorem D235_98 : pgDecT 235 98 = some (.iinc 2 (-1), 3) := by decide +kernel
theorem D235_101 : pgDecT 235 101 = some (.goto 173, 3) := by decide +kernel
theorem D235_72 : pgDecT 235 72 = some (.aload_n 0, 1) := by decide +kernel
theorem D235_73 : pgDecT 235 73 = some (.aload_n 0, 1) := by decide +kernel
theorem D235_74 : pgDecT 235 74 = some (.getfield 85, 3) := by decide +kernel
theorem F235_85 : pgFf 235 85 = some (12, 31, 3) := by decide +kernel
theorem D235_77 : pgDecT 235 77 = some (.iload_n 3, 1) := by decide +kernel
theorem D235_78 : pgDecT 235 78 = some (.iaload, 1) := by decide +kernel
theorem D235_79 : pgDecT 235 79 = some (.invokevirtual 240, 3) := by decide +kernel
theorem D235_82 : pgDecT 235 82 = some (.goto 4, 3) := by decide +kernel
theorem D235_239 : pgDecT 235 239 = some (.aload_n 0, 1) := by decide +kernel
theorem D235_240 : pgDecT 235 240 = some (.getfield 94, 3) := by decide +kernel
theorem D235_243 : pgDecT 235 243 = some (.iload 5, 2) := by decide +kernel
theorem D235_245 : pgDecT 235 245 = some (.iaload, 1) := by decide +kernel
theorem D235_246 : pgDecT 235 246 = some (.goto 4, 3) := by decide +kernel
theorem D235_141 : pgDecT 235 141 = some (.aload_n 0, 1) := by decide +kernel
theorem D235_142 : pgDecT 235 142 = some (.getfield 94, 3) := by decide +kernel
theorem D235_145 : pgDecT 235 145 = some (.iload 5, 2) := by decide +kernel
theorem D235_147 : pgDecT 235 147 = some (.iaload, 1) := by decide +kernel
theorem D235_148 : pgDecT 235 148 = some (.iconst (-1), 1) := by decide +kernel
theorem D235_149 : pgDecT 235 149 = some (.if_icmp .ne 17, 3) := by decide +kernel
theorem D235_152 : pgDecT 235 152 = some (.aload_n 0, 1) := by decide +kernel
theorem D235_153 : pgDecT 235 153 = some (.getfield 97, 3) := by decide +kernel
theorem D235_156 : pgDecT 235 156 = some (.iload_n 2, 1) := by decide +kernel
theorem D235_157 : pgDecT 235 157 = some (.iload 5, 2) := by decide +kernel
theorem D235_159 : pgDecT 235 159 = some (.iastore, 1) := by decide +kernel
theorem D235_160 : pgDecT 235 160 = some (.iinc 2 1, 3) := by decide +kernel
theorem D235_163 : pgDecT 235 163 = some (.goto 111, 3) := by decide +kernel
theorem D235_36 : pgDecT 235 36 = some (.aload_n 0, 1) := by decide +kernel
theorem D235_37 : pgDecT 235 37 = some (.getfield 79, 3) := by decide +kernel
theorem D235_40 : pgDecT 235 40 = some (.iload_n 3, 1) := by decide +kernel
theorem D235_41 : pgDecT 235 41 = some (.iaload, 1) := by decide +kernel
theorem D235_42 : pgDecT 235 42 = some (.iconst 4, 1) := by decide +kernel
theorem D235_43 : pgDecT 235 43 = some (.if_icmp .ne 16, 3) := by decide +kernel
theorem D235_59 : pgDecT 235 59 = some (.iconst (-1), 1) := by decide +kernel
/-! 235: DictionaryHouseModel.termOf (I)I -/
def l235 : Nat → Nat → Mm → Int → Int → Int → Int → Int → Option (Int × Mm)
  | 0, _, _, _, _, _, _, _ => none
  | f + 1, 9, M, x1, x2, _, _, _ => if x2 ≤ 0 then (f217 M x1).bind (fun q5 => if 0 ≤ q5 ∧ q5 < 4000 then (some ((M 81 (Int.toNat q5)), M)) else none) else (if 0 ≤ (x2 - 1) ∧ (x2 - 1) < 16000 then (f217 M (M 82 (Int.toNat (x2 - 1)))).bind (fun q12 => if 0 ≤ q12 ∧ q12 < 4000 then (if (M 76 (Int.toNat q12)) = 3 then (l235 f 46 M x1 x2 q12 0 0) else (if ¬ (M 76 (Int.toNat q12)) = 4 then (l235 f 62 M x1 x2 q12 (-1) 0) else (l235 f 46 M x1 x2 q12 0 0))) else none) else none)
  | f + 1, 46, M, x1, x2, x3, _, _ => if 0 ≤ x3 ∧ x3 < 4000 then (f217 M (M 77 (Int.toNat x3))).bind (fun q21 => l235 f 62 M x1 x2 x3 q21 0) else none
  | f + 1, 62, M, x1, x2, x3, x4, _ => if 0 ≤ x3 ∧ x3 < 4000 then (if ¬ (M 76 (Int.toNat x3)) = 4 then (l235 f 88 M x1 x2 x3 x4 (-1)) else (f217 M (M 78 (Int.toNat x3))).bind (fun q28 => l235 f 88 M x1 x2 x3 x4 q28)) else none
  | f + 1, 88, M, x1, x2, x3, x4, x5 => if 0 ≤ x3 ∧ x3 < 4000 then (if (M 81 (Int.toNat x3)) = (-1) then (if x4 = (-1) then (l235 f 135 M x1 x2 x3 x4 x5) else (if 0 ≤ x4 ∧ x4 < 4000 then (if ¬ (M 81 (Int.toNat x4)) = (-1) then (l235 f 135 M x1 x2 x3 x4 x5) else (if 0 ≤ x2 ∧ x2 < 16000 then (if rg (x2 + 1) then (l235 f 274 (up M 82 (Int.toNat x2) x4) x1 (x2 + 1) x3 x4 x5) else none) else none)) else none)) else (if rg (x2 + (-1)) then (l235 f 274 M x1 (x2 + (-1)) x3 x4 x5) else none)) else none
  | f + 1, 135, M, x1, x2, x3, x4, x5 => if x5 = (-1) then (l235 f 166 M x1 x2 x3 x4 x5) else (if 0 ≤ x5 ∧ x5 < 4000 then (if ¬ (M 81 (Int.toNat x5)) = (-1) then (l235 f 166 M x1 x2 x3 x4 x5) else (if 0 ≤ x2 ∧ x2 < 16000 then (if rg (x2 + 1) then (l235 f 274 (up M 82 (Int.toNat x2) x5) x1 (x2 + 1) x3 x4 x5) else none) else none)) else none)
  | f + 1, 274, M, x1, x2, x3, x4, x5 => l235 f 9 M x1 x2 0 0 0
  | f + 1, 166, M, x1, x2, x3, x4, x5 => if 0 ≤ x3 ∧ x3 < 4000 then (if 0 ≤ (M 53 24) ∧ (M 53 24) < 200000 then (if x4 = (-1) then (if ¬ (M 76 (Int.toNat x3)) = 2 then (l235 f 225 (up (up M 73 (Int.toNat (M 53 24)) (M 76 (Int.toNat x3))) 74 (Int.toNat (M 53 24)) 0) x1 x2 x3 x4 x5) else (f230 (up M 73 (Int.toNat (M 53 24)) (M 76 (Int.toNat x3))) x3).bind (fun q58 => l235 f 225 (up (up M 73 (Int.toNat (M 53 24)) (M 76 (Int.toNat x3))) 74 (Int.toNat (M 53 24)) q58) x1 x2 x3 x4 x5)) else (if 0 ≤ x4 ∧ x4 < 4000 then (l235 f 225 (up (up M 73 (Int.toNat (M 53 24)) (M 76 (Int.toNat x3))) 74 (Int.toNat (M 53 24)) (M 81 (Int.toNat x4))) x1 x2 x3 x4 x5) else none)) else none) else none
  | f + 1, 225, M, x1, x2, x3, x4, x5 => if x5 = (-1) then (if 0 ≤ (M 53 24) ∧ (M 53 24) < 200000 then (l235 f 251 (up M 75 (Int.toNat (M 53 24)) 0) x1 x2 x3 x4 x5) else none) else (if 0 ≤ x5 ∧ x5 < 4000 then (if 0 ≤ (M 53 24) ∧ (M 53 24) < 200000 then (l235 f 251 (up M 75 (Int.toNat (M 53 24)) (M 81 (Int.toNat x5))) x1 x2 x3 x4 x5) else none) else none)
  | f + 1, 251, M, x1, x2, x3, x4, x5 => if 0 ≤ x3 ∧ x3 < 4000 then (if rg ((M 53 24) + 1) then (if rg (x2 + (-1)) then (l235 f 274 (up (up M 81 (Int.toNat x3) (M 53 24)) 53 24 ((M 53 24) + 1)) x1 (x2 + (-1)) x3 x4 x5) else none) else none) else none
  | _, _, _, _, _, _, _, _ => none
theorem d235 {L : Nat} {xs : Nat → Int32} (f : Nat) : (∀ (M : Mm) (x1 x2 : Int) (h : mvH) (v : Int) (M' : Mm), l235 f 9 M x1 x2 0 0 0 = some (v, M') → rp h M → rg x1 → rg x2 → evx L xs 2 235 9 [(0, .inr (.inr (.inl (some 53)))), (1, .inl (iz x1)), (2, .inl (iz x2))] [] h (.inl (some (.inl v)), 0) M') ∧ (∀ (M : Mm) (x1 x2 x3 : Int) (h : mvH) (v : Int) (M' : Mm), l235 f 46 M x1 x2 x3 0 0 = some (v, M') → rp h M → rg x1 → rg x2 → rg x3 → evx L xs 2 235 46 [(0, .inr (.inr (.inl (some 53)))), (1, .inl (iz x1)), (2, .inl (iz x2)), (3, .inl (iz x3))] [] h (.inl (some (.inl v)), 0) M') ∧ (∀ (M : Mm) (x1 x2 x3 x4 : Int) (h : mvH) (v : Int) (M' : Mm), l235 f 62 M x1 x2 x3 x4 0 = some (v, M') → rp h M → rg x1 → rg x2 → rg x3 → rg x4 → evx L xs 2 235 62 [(0, .inr (.inr (.inl (some 53)))), (1, .inl (iz x1)), (2, .inl (iz x2)), (3, .inl (iz x3)), (4, .inl (iz x4))] [] h (.inl (some (.inl v)), 0) M') ∧ (∀ (M : Mm) (x1 x2 x3 x4 x5 : Int) (h : mvH) (v : Int) (M' : Mm), l235 f 88 M x1 x2 x3 x4 x5 = some (v, M') → rp h M → rg x1 → rg x2 → rg x3 → rg x4 → rg x5 → evx L xs 2 235 88 [(0, .inr (.inr (.inl (some 53)))), (1, .inl (iz x1)), (2, .inl (iz x2)), (3, .inl (iz x3)), (4, .inl (iz x4)), (5, .inl (iz x5))] [] h (.inl (some (.inl v)), 0) M') ∧ (∀ (M : Mm) (x1 x2 x3 x4 x5 : Int) (h : mvH) (v : Int) (M' : Mm), l235 f 135 M x1 x2 x3 x4 x5 = some (v, M') → rp h M → rg x1 → rg x2 → rg x3 → rg x4 → rg x5 → evx L xs 2 235 135 [(0, .inr (.inr (.inl (some 53)))), (1, .inl (iz x1)), (2, .inl (iz x2)), (3, .inl (iz x3)), (4, .inl (iz x4)), (5, .inl (iz x5))] [] h (.inl (some (.inl v)), 0) M') ∧ (∀ (M : Mm) (x1 x2 x3 x4 x5 : Int) (h : mvH) (v : Int) (M' : Mm), l235 f 274 M x1 x2 x3 x4 x5 = some (v, M') → rp h M → rg x1 → rg x2 → rg x3 → rg x4 → rg x5 → evx L xs 2 235 274 [(0, .inr (.inr (.inl (some 53)))), (1, .inl (iz x1)), (2, .inl (iz x2)), (3, .inl (iz x3)), (4, .inl (iz x4)), (5, .inl (iz x5))] [] h (.inl (some (.inl v)), 0) M') ∧ (∀ (M : Mm) (x1 x2 x3 x4 x5 : Int) (h : mvH) (v : Int) (M' : Mm), l235 f 166 M x1 x2 x3 x4 x5 = some (v, M') → rp h M → rg x1 → rg x2 → rg x3 → rg x4 → rg x5 → evx L xs 2 235 166 [(0, .inr (.inr (.inl (some 53)))), (1, .inl (iz x1)), (2, .inl (iz x2)), (3, .inl (iz x3)), (4, .inl (iz x4)), (5, .inl (iz x5))] [] h (.inl (some (.inl v)), 0) M') ∧ (∀ (M : Mm) (x1 x2 x3 x4 x5 : Int) (h : mvH) (v : Int) (M' : Mm), l235 f 225 M x1 x2 x3 x4 x5 = some (v, M') → rp h M → rg x1 → rg x2 → rg x3 → rg x4 → rg x5 → evx L xs 2 235 225 [(0, .inr (.inr (.inl (some 53)))), (1, .inl (iz x1)), (2, .inl (iz x2)), (3, .inl (iz x3)), (4, .inl (iz x4)), (5, .inl (iz x5))] [] h (.inl (some (.inl v)), 0) M') ∧ (∀ (M : Mm) (x1 x2 x3 x4 x5 : Int) (h : mvH) (v : Int) (M' : Mm), l235 f 251 M x1 x2 x3 x4 x5 = some (v, M') → rp h M → rg x1 → rg x2 → rg x3 → rg x4 → rg x5 → evx L xs 2 235 251 [(0, .inr (.inr (.inl (some 53)))), (1, .inl (iz x1)), (2, .inl (iz x2)), (3, .inl (iz x3)), (4, .inl (iz x4)), (5, .inl (iz x5))] [] h (.inl (some (.inl v)), 0) M') := by
  induction f with
  | zero => exact ⟨(fun M x1 x2 h v M' hs _ _ _ => by cases hs), (fun M x1 x2 x3 h v M' hs _ _ _ _ => by cases hs), (fun M x1 x2 x3 x4 h v M' hs _ _ _ _ _ => by cases hs), (fun M x1 x2 x3 x4 x5 h v M' hs _ _ _ _ _ _ => by cases hs), (fun M x1 x2 x3 x4 x5 h v M' hs _ _ _ _ _ _ => by cases hs), (fun M x1 x2 x3 x4 x5 h v M' hs _ _ _ _ _ _ => by cases hs), (fun M x1 x2 x3 x4 x5 h v M' hs _ _ _ _ _ _ => by cases hs), (fun M x1 x2 x3 x4 x5 h v M' hs _ _ _ _ _ _ => by cases hs), (fun M x1 x2 x3 x4 x5 h v M' hs _ _ _ _ _ _ => by cases hs)⟩
  | succ f ih =>
    refine ⟨?_, ?_, ?_, ?_, ?_, ?_, ?_, ?_, ?_⟩
    · intro M x1 x2 h v M' hs R rx1 rx2
      rw [l235] at hs
      refine evx_F E235 D235_9 rfl rfl ?_
      by_cases cb3 : x2 ≤ 0
      · rw [if_pos cb3] at hs
        refine evx_F E235 D235_10 rfl (ifT (c1_le_T rx2 cb3)) ?_
        refine evx_F E235 D235_277 rfl rfl ?_
        refine evx_gfr E235 D235_278 F235_94 H53 rfl R ?_
        refine evx_F E235 D235_281 rfl rfl ?_
        refine evx_F E235 D235_282 rfl rfl ?_
        obtain ⟨q5, e4, hs⟩ := Option.bind_eq_some_iff.mp hs
        refine evx_cv (D := 1) E235 D235_283 I235_240 rfl rfl H53 ⟨Nat.le_of_ble_eq_true rfl, Nat.le_of_ble_eq_true rfl⟩ ⟨rfl, Nat.le_of_ble_eq_true rfl⟩ rfl R (evx_up (Nat.le_of_ble_eq_true rfl) (c217 R rx1 e4)) ?_
        intro h6 R7 w8
        have w8 : rg q5 := w8
        show evx _ _ _ _ _ _ (.inl (iz q5) :: _) _ _ _
        obtain ⟨k9, hs⟩ := ck hs
        refine evx_ial E235 D235_286 H81 (by decide) R7 k9 ?_
        cases hs
        exact evx_ret E235 D235_287 rfl (fun d => rfl) rfl (show rg _ from (R7.1 81 (Int.toNat q5))) R7
      · rw [if_neg cb3] at hs
        refine evx_F E235 D235_10 rfl (ifF (c1_le_F rx2 (by omega))) ?_
        refine evx_F E235 D235_13 rfl rfl ?_
        refine evx_F E235 D235_14 rfl rfl ?_
        refine evx_gfr E235 D235_15 F235_97 H53 rfl R ?_
        refine evx_F E235 D235_18 rfl rfl ?_
        refine evx_F E235 D235_19 rfl rfl ?_
        refine evx_sub E235 D235_20 ?_
        obtain ⟨k10, hs⟩ := ck hs
        refine evx_ial E235 D235_21 H82 (by decide) R k10 ?_
        obtain ⟨q12, e11, hs⟩ := Option.bind_eq_some_iff.mp hs
        refine evx_cv (D := 1) E235 D235_22 I235_240 rfl rfl H53 ⟨Nat.le_of_ble_eq_true rfl, Nat.le_of_ble_eq_true rfl⟩ ⟨rfl, Nat.le_of_ble_eq_true rfl⟩ rfl R (evx_up (Nat.le_of_ble_eq_true rfl) (c217 R (R.1 82 (Int.toNat (x2 - 1))) e11)) ?_
        intro h13 R14 w15
        have w15 : rg q12 := w15
        show evx _ _ _ _ _ _ (.inl (iz q12) :: _) _ _ _
        refine evx_F E235 D235_25 rfl rfl ?_
        refine evx_F E235 D235_26 rfl rfl ?_
        refine evx_gfr E235 D235_27 F235_79 H53 rfl R14 ?_
        refine evx_F E235 D235_30 rfl rfl ?_
        obtain ⟨k16, hs⟩ := ck hs
        refine evx_ial E235 D235_31 H76 (by decide) R14 k16 ?_
        refine evx_F E235 D235_32 rfl rfl ?_
        by_cases cb17 : (M 76 (Int.toNat q12)) = 3
        · rw [if_pos cb17] at hs
          refine evx_F E235 D235_33 rfl (ifT (c2_eq_T (R14.1 76 (Int.toNat q12)) (by decide) cb17)) ?_
          show evx _ _ _ _ _ [(3, .inl (iz q12)), (0, .inr (.inr (.inl (some 53)))), (1, .inl (iz x1)), (2, .inl (iz x2))] _ _ _ _
          exact evx_lv (lvLe_mk (fm rfl (fm rfl (fm rfl (fm rfl fn)))) (fm rfl (fm rfl (fm rfl (fm rfl fn)))) (fm rfl (fm rfl (fm rfl (fm rfl fn))))) (ih.2.1 _ _ _ _ _ _ _ hs R14 rx1 rx2 w15)
        · rw [if_neg cb17] at hs
          refine evx_F E235 D235_33 rfl (ifF (c2_eq_F (R14.1 76 (Int.toNat q12)) (by decide) (by omega))) ?_
          refine evx_F E235 D235_36 rfl rfl ?_
          refine evx_gfr E235 D235_37 F235_79 H53 rfl R14 ?_
          refine evx_F E235 D235_40 rfl rfl ?_
          refine evx_ial E235 D235_41 H76 (by decide) R14 k16 ?_
          refine evx_F E235 D235_42 rfl rfl ?_
          by_cases cb18 : ¬ (M 76 (Int.toNat q12)) = 4
          · rw [if_pos cb18] at hs
            refine evx_F E235 D235_43 rfl (ifT (c2_ne_T (R14.1 76 (Int.toNat q12)) (by decide) cb18)) ?_
            refine evx_F E235 D235_59 rfl rfl ?_
            refine evx_F E235 D235_60 rfl rfl ?_
            show evx _ _ _ _ _ [(4, .inl (iz (-1))), (3, .inl (iz q12)), (0, .inr (.inr (.inl (some 53)))), (1, .inl (iz x1)), (2, .inl (iz x2))] _ _ _ _
            exact evx_lv (lvLe_mk (fm rfl (fm rfl (fm rfl (fm rfl (fm rfl fn))))) (fm rfl (fm rfl (fm rfl (fm rfl (fm rfl fn))))) (fm rfl (fm rfl (fm rfl (fm rfl (fm rfl fn)))))) (ih.2.2.1 _ _ _ _ _ _ _ _ hs R14 rx1 rx2 w15 (by decide))
          · rw [if_neg cb18] at hs
            refine evx_F E235 D235_43 rfl (ifF (c2_ne_F (R14.1 76 (Int.toNat q12)) (by decide) (by omega))) ?_
            show evx _ _ _ _ _ [(3, .inl (iz q12)), (0, .inr (.inr (.inl (some 53)))), (1, .inl (iz x1)), (2, .inl (iz x2))] _ _ _ _
            exact evx_lv (lvLe_mk (fm rfl (fm rfl (fm rfl (fm rfl fn)))) (fm rfl (fm rfl (fm rfl (fm rfl fn)))) (fm rfl (fm rfl (fm rfl (fm rfl fn))))) (ih.2.1 _ _ _ _ _ _ _ hs R14 rx1 rx2 w15)
    · intro M x1 x2 x3 h v M' hs R rx1 rx2 rx3
      rw [l235] at hs
      refine evx_F E235 D235_46 rfl rfl ?_
      refine evx_F E235 D235_47 rfl rfl ?_
      refine evx_gfr E235 D235_48 F235_82 H53 rfl R ?_
      refine evx_F E235 D235_51 rfl rfl ?_
      obtain ⟨k19, hs⟩ := ck hs
      refine evx_ial E235 D235_52 H77 (by decide) R k19 ?_
      obtain ⟨q21, e20, hs⟩ := Option.bind_eq_some_iff.mp hs
      refine evx_cv (D := 1) E235 D235_53 I235_240 rfl rfl H53 ⟨Nat.le_of_ble_eq_true rfl, Nat.le_of_ble_eq_true rfl⟩ ⟨rfl, Nat.le_of_ble_eq_true rfl⟩ rfl R (evx_up (Nat.le_of_ble_eq_true rfl) (c217 R (R.1 77 (Int.toNat x3)) e20)) ?_
      intro h22 R23 w24
      have w24 : rg q21 := w24
      show evx _ _ _ _ _ _ (.inl (iz q21) :: _) _ _ _
      refine evx_F E235 D235_56 rfl rfl ?_
      refine evx_F E235 D235_60 rfl rfl ?_
      show evx _ _ _ _ _ [(4, .inl (iz q21)), (0, .inr (.inr (.inl (some 53)))), (1, .inl (iz x1)), (2, .inl (iz x2)), (3, .inl (iz x3))] _ _ _ _
      exact evx_lv (lvLe_mk (fm rfl (fm rfl (fm rfl (fm rfl (fm rfl fn))))) (fm rfl (fm rfl (fm rfl (fm rfl (fm rfl fn))))) (fm rfl (fm rfl (fm rfl (fm rfl (fm rfl fn)))))) (ih.2.2.1 _ _ _ _ _ _ _ _ hs R23 rx1 rx2 rx3 w24)
    · intro M x1 x2 x3 x4 h v M' hs R rx1 rx2 rx3 rx4
      rw [l235] at hs
      refine evx_F E235 D235_62 rfl rfl ?_
      refine evx_gfr E235 D235_63 F235_79 H53 rfl R ?_
      refine evx_F E235 D235_66 rfl rfl ?_
      obtain ⟨k25, hs⟩ := ck hs
      refine evx_ial E235 D235_67 H76 (by decide) R k25 ?_
      refine evx_F E235 D235_68 rfl rfl ?_
      by_cases cb26 : ¬ (M 76 (Int.toNat x3)) = 4
      · rw [if_pos cb26] at hs
        refine evx_F E235 D235_69 rfl (ifT (c2_ne_T (R.1 76 (Int.toNat x3)) (by decide) cb26)) ?_
        refine evx_F E235 D235_85 rfl rfl ?_
        refine evx_F E235 D235_86 rfl rfl ?_
        show evx _ _ _ _ _ [(5, .inl (iz (-1))), (0, .inr (.inr (.inl (some 53)))), (1, .inl (iz x1)), (2, .inl (iz x2)), (3, .inl (iz x3)), (4, .inl (iz x4))] _ _ _ _
        exact evx_lv (lvLe_mk (fm rfl (fm rfl (fm rfl (fm rfl (fm rfl (fm rfl fn)))))) (fm rfl (fm rfl (fm rfl (fm rfl (fm rfl (fm rfl fn)))))) (fm rfl (fm rfl (fm rfl (fm rfl (fm rfl (fm rfl fn))))))) (ih.2.2.2.1 _ _ _ _ _ _ _ _ _ hs R rx1 rx2 rx3 rx4 (by decide))
      · rw [if_neg cb26] at hs
        refine evx_F E235 D235_69 rfl (ifF (c2_ne_F (R.1 76 (Int.toNat x3)) (by decide) (by omega))) ?_
        refine evx_F E235 D235_72 rfl rfl ?_
        refine evx_F E235 D235_73 rfl rfl ?_
        refine evx_gfr E235 D235_74 F235_85 H53 rfl R ?_
        refine evx_F E235 D235_77 rfl rfl ?_
        refine evx_ial E235 D235_78 H78 (by decide) R k25 ?_
        obtain ⟨q28, e27, hs⟩ := Option.bind_eq_some_iff.mp hs
        refine evx_cv (D := 1) E235 D235_79 I235_240 rfl rfl H53 ⟨Nat.le_of_ble_eq_true rfl, Nat.le_of_ble_eq_true rfl⟩ ⟨rfl, Nat.le_of_ble_eq_true rfl⟩ rfl R (evx_up (Nat.le_of_ble_eq_true rfl) (c217 R (R.1 78 (Int.toNat x3)) e27)) ?_
        intro h29 R30 w31
        have w31 : rg q28 := w31
        show evx _ _ _ _ _ _ (.inl (iz q28) :: _) _ _ _
        refine evx_F E235 D235_82 rfl rfl ?_
        refine evx_F E235 D235_86 rfl rfl ?_
        show evx _ _ _ _ _ [(5, .inl (iz q28)), (0, .inr (.inr (.inl (some 53)))), (1, .inl (iz x1)), (2, .inl (iz x2)), (3, .inl (iz x3)), (4, .inl (iz x4))] _ _ _ _
        exact evx_lv (lvLe_mk (fm rfl (fm rfl (fm rfl (fm rfl (fm rfl (fm rfl fn)))))) (fm rfl (fm rfl (fm rfl (fm rfl (fm rfl (fm rfl fn)))))) (fm rfl (fm rfl (fm rfl (fm rfl (fm rfl (fm rfl fn))))))) (ih.2.2.2.1 _ _ _ _ _ _ _ _ _ hs R30 rx1 rx2 rx3 rx4 w31)
    · intro M x1 x2 x3 x4 x5 h v M' hs R rx1 rx2 rx3 rx4 rx5
      rw [l235] at hs
      refine evx_F E235 D235_88 rfl rfl ?_
      refine evx_gfr E235 D235_89 F235_94 H53 rfl R ?_
      refine evx_F E235 D235_92 rfl rfl ?_
      obtain ⟨k32, hs⟩ := ck hs
      refine evx_ial E235 D235_93 H81 (by decide) R k32 ?_
      refine evx_F E235 D235_94 rfl rfl ?_
      by_cases cb33 : (M 81 (Int.toNat x3)) = (-1)
      · rw [if_pos cb33] at hs
        refine evx_F E235 D235_95 rfl (ifT (c2_eq_T (R.1 81 (Int.toNat x3)) (by decide) cb33)) ?_
        refine evx_F E235 D235_104 rfl rfl ?_
        refine evx_F E235 D235_106 rfl rfl ?_
        by_cases cb34 : x4 = (-1)
        · rw [if_pos cb34] at hs
          refine evx_F E235 D235_107 rfl (ifT (c2_eq_T rx4 (by decide) cb34)) ?_
          show evx _ _ _ _ _ [(0, .inr (.inr (.inl (some 53)))), (1, .inl (iz x1)), (2, .inl (iz x2)), (3, .inl (iz x3)), (4, .inl (iz x4)), (5, .inl (iz x5))] _ _ _ _
          exact evx_lv (lvLe_mk (fm rfl (fm rfl (fm rfl (fm rfl (fm rfl (fm rfl fn)))))) (fm rfl (fm rfl (fm rfl (fm rfl (fm rfl (fm rfl fn)))))) (fm rfl (fm rfl (fm rfl (fm rfl (fm rfl (fm rfl fn))))))) (ih.2.2.2.2.1 _ _ _ _ _ _ _ _ _ hs R rx1 rx2 rx3 rx4 rx5)
        · rw [if_neg cb34] at hs
          refine evx_F E235 D235_107 rfl (ifF (c2_eq_F rx4 (by decide) (by omega))) ?_
          refine evx_F E235 D235_110 rfl rfl ?_
          refine evx_gfr E235 D235_111 F235_94 H53 rfl R ?_
          refine evx_F E235 D235_114 rfl rfl ?_
          obtain ⟨k35, hs⟩ := ck hs
          refine evx_ial E235 D235_116 H81 (by decide) R k35 ?_
          refine evx_F E235 D235_117 rfl rfl ?_
          by_cases cb36 : ¬ (M 81 (Int.toNat x4)) = (-1)
          · rw [if_pos cb36] at hs
            refine evx_F E235 D235_118 rfl (ifT (c2_ne_T (R.1 81 (Int.toNat x4)) (by decide) cb36)) ?_
            show evx _ _ _ _ _ [(0, .inr (.inr (.inl (some 53)))), (1, .inl (iz x1)), (2, .inl (iz x2)), (3, .inl (iz x3)), (4, .inl (iz x4)), (5, .inl (iz x5))] _ _ _ _
            exact evx_lv (lvLe_mk (fm rfl (fm rfl (fm rfl (fm rfl (fm rfl (fm rfl fn)))))) (fm rfl (fm rfl (fm rfl (fm rfl (fm rfl (fm rfl fn)))))) (fm rfl (fm rfl (fm rfl (fm rfl (fm rfl (fm rfl fn))))))) (ih.2.2.2.2.1 _ _ _ _ _ _ _ _ _ hs R rx1 rx2 rx3 rx4 rx5)
          · rw [if_neg cb36] at hs
            refine evx_F E235 D235_118 rfl (ifF (c2_ne_F (R.1 81 (Int.toNat x4)) (by decide) (by omega))) ?_
            refine evx_F E235 D235_121 rfl rfl ?_
            refine evx_gfr E235 D235_122 F235_97 H53 rfl R ?_
            refine evx_F E235 D235_125 rfl rfl ?_
            refine evx_F E235 D235_126 rfl rfl ?_
            obtain ⟨k37, hs⟩ := ck hs
            refine evx_ias E235 D235_128 H82 (by decide) R k37 rx4 ?_
            intro h38 R39
            refine evx_inc E235 D235_129 (Nat.le_of_ble_eq_true rfl) rfl ?_
            refine evx_F E235 D235_132 rfl rfl ?_
            obtain ⟨k40, hs⟩ := ck hs
            show evx _ _ _ _ _ [(2, .inl (iz (x2 + 1))), (0, .inr (.inr (.inl (some 53)))), (1, .inl (iz x1)), (3, .inl (iz x3)), (4, .inl (iz x4)), (5, .inl (iz x5))] _ _ _ _
            exact evx_lv (lvLe_mk (fm rfl (fm rfl (fm rfl (fm rfl (fm rfl (fm rfl fn)))))) (fm rfl (fm rfl (fm rfl (fm rfl (fm rfl (fm rfl fn)))))) (fm rfl (fm rfl (fm rfl (fm rfl (fm rfl (fm rfl fn))))))) (ih.2.2.2.2.2.1 _ _ _ _ _ _ _ _ _ hs R39 rx1 k40 rx3 rx4 rx5)
      · rw [if_neg cb33] at hs
        refine evx_F E235 D235_95 rfl (ifF (c2_eq_F (R.1 81 (Int.toNat x3)) (by decide) (by omega))) ?_
        refine evx_inc E235 D235_98 (Nat.le_of_ble_eq_true rfl) rfl ?_
        refine evx_F E235 D235_101 rfl rfl ?_
        obtain ⟨k41, hs⟩ := ck hs
        show evx _ _ _ _ _ [(2, .inl (iz (x2 + (-1)))), (0, .inr (.inr (.inl (some 53)))), (1, .inl (iz x1)), (3, .inl (iz x3)), (4, .inl (iz x4)), (5, .inl (iz x5))] _ _ _ _
        exact evx_lv (lvLe_mk (fm rfl (fm rfl (fm rfl (fm rfl (fm rfl (fm rfl fn)))))) (fm rfl (fm rfl (fm rfl (fm rfl (fm rfl (fm rfl fn)))))) (fm rfl (fm rfl (fm rfl (fm rfl (fm rfl (fm rfl fn))))))) (ih.2.2.2.2.2.1 _ _ _ _ _ _ _ _ _ hs R rx1 k41 rx3 rx4 rx5)
    · intro M x1 x2 x3 x4 x5 h v M' hs R rx1 rx2 rx3 rx4 rx5
      rw [l235] at hs
      refine evx_F E235 D235_135 rfl rfl ?_
      refine evx_F E235 D235_137 rfl rfl ?_
      by_cases cb42 : x5 = (-1)
      · rw [if_pos cb42] at hs
        refine evx_F E235 D235_138 rfl (ifT (c2_eq_T rx5 (by decide) cb42)) ?_
        show evx _ _ _ _ _ [(0, .inr (.inr (.inl (some 53)))), (1, .inl (iz x1)), (2, .inl (iz x2)), (3, .inl (iz x3)), (4, .inl (iz x4)), (5, .inl (iz x5))] _ _ _ _
        exact evx_lv (lvLe_mk (fm rfl (fm rfl (fm rfl (fm rfl (fm rfl (fm rfl fn)))))) (fm rfl (fm rfl (fm rfl (fm rfl (fm rfl (fm rfl fn)))))) (fm rfl (fm rfl (fm rfl (fm rfl (fm rfl (fm rfl fn))))))) (ih.2.2.2.2.2.2.1 _ _ _ _ _ _ _ _ _ hs R rx1 rx2 rx3 rx4 rx5)
      · rw [if_neg cb42] at hs
        refine evx_F E235 D235_138 rfl (ifF (c2_eq_F rx5 (by decide) (by omega))) ?_
        refine evx_F E235 D235_141 rfl rfl ?_
        refine evx_gfr E235 D235_142 F235_94 H53 rfl R ?_
        refine evx_F E235 D235_145 rfl rfl ?_
        obtain ⟨k43, hs⟩ := ck hs
        refine evx_ial E235 D235_147 H81 (by decide) R k43 ?_
        refine evx_F E235 D235_148 rfl rfl ?_
        by_cases cb44 : ¬ (M 81 (Int.toNat x5)) = (-1)
        · rw [if_pos cb44] at hs
          refine evx_F E235 D235_149 rfl (ifT (c2_ne_T (R.1 81 (Int.toNat x5)) (by decide) cb44)) ?_
          show evx _ _ _ _ _ [(0, .inr (.inr (.inl (some 53)))), (1, .inl (iz x1)), (2, .inl (iz x2)), (3, .inl (iz x3)), (4, .inl (iz x4)), (5, .inl (iz x5))] _ _ _ _
          exact evx_lv (lvLe_mk (fm rfl (fm rfl (fm rfl (fm rfl (fm rfl (fm rfl fn)))))) (fm rfl (fm rfl (fm rfl (fm rfl (fm rfl (fm rfl fn)))))) (fm rfl (fm rfl (fm rfl (fm rfl (fm rfl (fm rfl fn))))))) (ih.2.2.2.2.2.2.1 _ _ _ _ _ _ _ _ _ hs R rx1 rx2 rx3 rx4 rx5)
        · rw [if_neg cb44] at hs
          refine evx_F E235 D235_149 rfl (ifF (c2_ne_F (R.1 81 (Int.toNat x5)) (by decide) (by omega))) ?_
          refine evx_F E235 D235_152 rfl rfl ?_
          refine evx_gfr E235 D235_153 F235_97 H53 rfl R ?_
          refine evx_F E235 D235_156 rfl rfl ?_
          refine evx_F E235 D235_157 rfl rfl ?_
          obtain ⟨k45, hs⟩ := ck hs
          refine evx_ias E235 D235_159 H82 (by decide) R k45 rx5 ?_
          intro h46 R47
          refine evx_inc E235 D235_160 (Nat.le_of_ble_eq_true rfl) rfl ?_
          refine evx_F E235 D235_163 rfl rfl ?_
          obtain ⟨k48, hs⟩ := ck hs
          show evx _ _ _ _ _ [(2, .inl (iz (x2 + 1))), (0, .inr (.inr (.inl (some 53)))), (1, .inl (iz x1)), (3, .inl (iz x3)), (4, .inl (iz x4)), (5, .inl (iz x5))] _ _ _ _
          exact evx_lv (lvLe_mk (fm rfl (fm rfl (fm rfl (fm rfl (fm rfl (fm rfl fn)))))) (fm rfl (fm rfl (fm rfl (fm rfl (fm rfl (fm rfl fn)))))) (fm rfl (fm rfl (fm rfl (fm rfl (fm rfl (fm rfl fn))))))) (ih.2.2.2.2.2.1 _ _ _ _ _ _ _ _ _ hs R47 rx1 k48 rx3 rx4 rx5)
    · intro M x1 x2 x3 x4 x5 h v M' hs R rx1 rx2 rx3 rx4 rx5
      rw [l235] at hs
      refine evx_F E235 D235_274 rfl rfl ?_
      show evx _ _ _ _ _ [(0, .inr (.inr (.inl (some 53)))), (1, .inl (iz x1)), (2, .inl (iz x2)), (3, .inl (iz x3)), (4, .inl (iz x4)), (5, .inl (iz x5))] _ _ _ _
      exact evx_lv (lvLe_mk (fm rfl (fm rfl (fm rfl fn))) (fm rfl (fm rfl (fm rfl (fm rfl (fm rfl (fm rfl fn)))))) (fm rfl (fm rfl (fm rfl fn)))) (ih.1 _ _ _ _ _ _ hs R rx1 rx2)
    · intro M x1 x2 x3 x4 x5 h v M' hs R rx1 rx2 rx3 rx4 rx5
      rw [l235] at hs
      refine evx_F E235 D235_166 rfl rfl ?_
      refine evx_gfr E235 D235_167 F235_70 H53 rfl R ?_
      refine evx_F E235 D235_170 rfl rfl ?_
      refine evx_gfi (k := 24) E235 D235_171 F235_304 H53 rfl R ?_
      refine evx_F E235 D235_174 rfl rfl ?_
      refine evx_gfr E235 D235_175 F235_79 H53 rfl R ?_
      refine evx_F E235 D235_178 rfl rfl ?_
      obtain ⟨k49, hs⟩ := ck hs
      refine evx_ial E235 D235_179 H76 (by decide) R k49 ?_
      obtain ⟨k50, hs⟩ := ck hs
      refine evx_ias E235 D235_180 H73 (by decide) R k50 (R.1 76 (Int.toNat x3)) ?_
      intro h51 R52
      refine evx_F E235 D235_181 rfl rfl ?_
      refine evx_gfr E235 D235_182 F235_73 H53 rfl R52 ?_
      refine evx_F E235 D235_185 rfl rfl ?_
      refine evx_gfi (k := 24) E235 D235_186 F235_304 H53 rfl R52 ?_
      show evx _ _ _ _ _ _ (.inl (iz (M 53 24)) :: _) _ _ _
      refine evx_F E235 D235_189 rfl rfl ?_
      refine evx_F E235 D235_191 rfl rfl ?_
      by_cases cb53 : x4 = (-1)
      · rw [if_pos cb53] at hs
        refine evx_F E235 D235_192 rfl (ifT (c2_eq_T rx4 (by decide) cb53)) ?_
        refine evx_F E235 D235_205 rfl rfl ?_
        refine evx_gfr E235 D235_206 F235_79 H53 rfl R52 ?_
        refine evx_F E235 D235_209 rfl rfl ?_
        refine evx_ial E235 D235_210 H76 (by decide) R52 k49 ?_
        show evx _ _ _ _ _ _ (.inl (iz (M 76 (Int.toNat x3))) :: _) _ _ _
        refine evx_F E235 D235_211 rfl rfl ?_
        by_cases cb54 : ¬ (M 76 (Int.toNat x3)) = 2
        · rw [if_pos cb54] at hs
          refine evx_F E235 D235_212 rfl (ifT (c2_ne_T (R52.1 76 (Int.toNat x3)) (by decide) cb54)) ?_
          refine evx_F E235 D235_223 rfl rfl ?_
          refine evx_ias E235 D235_224 H74 (by decide) R52 k50 (by decide) ?_
          intro h55 R56
          show evx _ _ _ _ _ [(0, .inr (.inr (.inl (some 53)))), (1, .inl (iz x1)), (2, .inl (iz x2)), (3, .inl (iz x3)), (4, .inl (iz x4)), (5, .inl (iz x5))] _ _ _ _
          exact evx_lv (lvLe_mk (fm rfl (fm rfl (fm rfl (fm rfl (fm rfl (fm rfl fn)))))) (fm rfl (fm rfl (fm rfl (fm rfl (fm rfl (fm rfl fn)))))) (fm rfl (fm rfl (fm rfl (fm rfl (fm rfl (fm rfl fn))))))) (ih.2.2.2.2.2.2.2.1 _ _ _ _ _ _ _ _ _ hs R56 rx1 rx2 rx3 rx4 rx5)
        · rw [if_neg cb54] at hs
          refine evx_F E235 D235_212 rfl (ifF (c2_ne_F (R52.1 76 (Int.toNat x3)) (by decide) (by omega))) ?_
          refine evx_F E235 D235_215 rfl rfl ?_
          refine evx_F E235 D235_216 rfl rfl ?_
          obtain ⟨q58, e57, hs⟩ := Option.bind_eq_some_iff.mp hs
          refine evx_cv (D := 1) E235 D235_217 I235_298 rfl rfl H53 ⟨Nat.le_of_ble_eq_true rfl, Nat.le_of_ble_eq_true rfl⟩ ⟨rfl, Nat.le_of_ble_eq_true rfl⟩ rfl R52 (evx_up (Nat.le_of_ble_eq_true rfl) (c230 R52 rx3 e57)) ?_
          intro h59 R60 w61
          have w61 : rg q58 := w61
          show evx _ _ _ _ _ _ (.inl (iz q58) :: _) _ _ _
          refine evx_F E235 D235_220 rfl rfl ?_
          refine evx_ias E235 D235_224 H74 (by decide) R60 k50 w61 ?_
          intro h62 R63
          show evx _ _ _ _ _ [(0, .inr (.inr (.inl (some 53)))), (1, .inl (iz x1)), (2, .inl (iz x2)), (3, .inl (iz x3)), (4, .inl (iz x4)), (5, .inl (iz x5))] _ _ _ _
          exact evx_lv (lvLe_mk (fm rfl (fm rfl (fm rfl (fm rfl (fm rfl (fm rfl fn)))))) (fm rfl (fm rfl (fm rfl (fm rfl (fm rfl (fm rfl fn)))))) (fm rfl (fm rfl (fm rfl (fm rfl (fm rfl (fm rfl fn))))))) (ih.2.2.2.2.2.2.2.1 _ _ _ _ _ _ _ _ _ hs R63 rx1 rx2 rx3 rx4 rx5)
      · rw [if_neg cb53] at hs
        refine evx_F E235 D235_192 rfl (ifF (c2_eq_F rx4 (by decide) (by omega))) ?_
        refine evx_F E235 D235_195 rfl rfl ?_
        refine evx_gfr E235 D235_196 F235_94 H53 rfl R52 ?_
        refine evx_F E235 D235_199 rfl rfl ?_
        obtain ⟨k64, hs⟩ := ck hs
        refine evx_ial E235 D235_201 H81 (by decide) R52 k64 ?_
        show evx _ _ _ _ _ _ (.inl (iz (M 81 (Int.toNat x4))) :: _) _ _ _
        refine evx_F E235 D235_202 rfl rfl ?_
        refine evx_ias E235 D235_224 H74 (by decide) R52 k50 (R52.1 81 (Int.toNat x4)) ?_
        intro h65 R66
        show evx _ _ _ _ _ [(0, .inr (.inr (.inl (some 53)))), (1, .inl (iz x1)), (2, .inl (iz x2)), (3, .inl (iz x3)), (4, .inl (iz x4)), (5, .inl (iz x5))] _ _ _ _
        exact evx_lv (lvLe_mk (fm rfl (fm rfl (fm rfl (fm rfl (fm rfl (fm rfl fn)))))) (fm rfl (fm rfl (fm rfl (fm rfl (fm rfl (fm rfl fn)))))) (fm rfl (fm rfl (fm rfl (fm rfl (fm rfl (fm rfl fn))))))) (ih.2.2.2.2.2.2.2.1 _ _ _ _ _ _ _ _ _ hs R66 rx1 rx2 rx3 rx4 rx5)
    · intro M x1 x2 x3 x4 x5 h v M' hs R rx1 rx2 rx3 rx4 rx5
      rw [l235] at hs
      refine evx_F E235 D235_225 rfl rfl ?_
      refine evx_gfr E235 D235_226 F235_76 H53 rfl R ?_
      refine evx_F E235 D235_229 rfl rfl ?_
      refine evx_gfi (k := 24) E235 D235_230 F235_304 H53 rfl R ?_
      refine evx_F E235 D235_233 rfl rfl ?_
      refine evx_F E235 D235_235 rfl rfl ?_
      by_cases cb67 : x5 = (-1)
      · rw [if_pos cb67] at hs
        refine evx_F E235 D235_236 rfl (ifT (c2_eq_T rx5 (by decide) cb67)) ?_
        refine evx_F E235 D235_249 rfl rfl ?_
        obtain ⟨k68, hs⟩ := ck hs
        refine evx_ias E235 D235_250 H75 (by decide) R k68 (by decide) ?_
        intro h69 R70
        show evx _ _ _ _ _ [(0, .inr (.inr (.inl (some 53)))), (1, .inl (iz x1)), (2, .inl (iz x2)), (3, .inl (iz x3)), (4, .inl (iz x4)), (5, .inl (iz x5))] _ _ _ _
        exact evx_lv (lvLe_mk (fm rfl (fm rfl (fm rfl (fm rfl (fm rfl (fm rfl fn)))))) (fm rfl (fm rfl (fm rfl (fm rfl (fm rfl (fm rfl fn)))))) (fm rfl (fm rfl (fm rfl (fm rfl (fm rfl (fm rfl fn))))))) (ih.2.2.2.2.2.2.2.2 _ _ _ _ _ _ _ _ _ hs R70 rx1 rx2 rx3 rx4 rx5)
      · rw [if_neg cb67] at hs
        refine evx_F E235 D235_236 rfl (ifF (c2_eq_F rx5 (by decide) (by omega))) ?_
        refine evx_F E235 D235_239 rfl rfl ?_
        refine evx_gfr E235 D235_240 F235_94 H53 rfl R ?_
        refine evx_F E235 D235_243 rfl rfl ?_
        obtain ⟨k71, hs⟩ := ck hs
        refine evx_ial E235 D235_245 H81 (by decide) R k71 ?_
        refine evx_F E235 D235_246 rfl rfl ?_
        obtain ⟨k72, hs⟩ := ck hs
        refine evx_ias E235 D235_250 H75 (by decide) R k72 (R.1 81 (Int.toNat x5)) ?_
        intro h73 R74
        show evx _ _ _ _ _ [(0, .inr (.inr (.inl (some 53)))), (1, .inl (iz x1)), (2, .inl (iz x2)), (3, .inl (iz x3)), (4, .inl (iz x4)), (5, .inl (iz x5))] _ _ _ _
        exact evx_lv (lvLe_mk (fm rfl (fm rfl (fm rfl (fm rfl (fm rfl (fm rfl fn)))))) (fm rfl (fm rfl (fm rfl (fm rfl (fm rfl (fm rfl fn)))))) (fm rfl (fm rfl (fm rfl (fm rfl (fm rfl (fm rfl fn))))))) (ih.2.2.2.2.2.2.2.2 _ _ _ _ _ _ _ _ _ hs R74 rx1 rx2 rx3 rx4 rx5)
    · intro M x1 x2 x3 x4 x5 h v M' hs R rx1 rx2 rx3 rx4 rx5
      rw [l235] at hs
      refine evx_F E235 D235_251 rfl rfl ?_
      refine evx_gfr E235 D235_252 F235_94 H53 rfl R ?_
      refine evx_F E235 D235_255 rfl rfl ?_
      refine evx_F E235 D235_256 rfl rfl ?_
      refine evx_gfi (k := 24) E235 D235_257 F235_304 H53 rfl R ?_
      obtain ⟨k75, hs⟩ := ck hs
      refine evx_ias E235 D235_260 H81 (by decide) R k75 (R.1 53 24) ?_
      intro h76 R77
      refine evx_F E235 D235_261 rfl rfl ?_
      refine evx_F E235 D235_262 rfl rfl ?_
      refine evx_gfi (k := 24) E235 D235_263 F235_304 H53 rfl R77 ?_
      show evx _ _ _ _ _ _ (.inl (iz (M 53 24)) :: _) _ _ _
      refine evx_F E235 D235_266 rfl rfl ?_
      refine evx_add E235 D235_267 ?_
      obtain ⟨k78, hs⟩ := ck hs
      refine evx_pfi (k := 24) E235 D235_268 F235_304 H53 rfl R77 k78 rfl ?_
      intro h79 R80
      refine evx_inc E235 D235_271 (Nat.le_of_ble_eq_true rfl) rfl ?_
      obtain ⟨k81, hs⟩ := ck hs
      show evx _ _ _ _ _ [(2, .inl (iz (x2 + (-1)))), (0, .inr (.inr (.inl (some 53)))), (1, .inl (iz x1)), (3, .inl (iz x3)), (4, .inl (iz x4)), (5, .inl (iz x5))] _ _ _ _
      exact evx_lv (lvLe_mk (fm rfl (fm rfl (fm rfl (fm rfl (fm rfl (fm rfl fn)))))) (fm rfl (fm rfl (fm rfl (fm rfl (fm rfl (fm rfl fn)))))) (fm rfl (fm rfl (fm rfl (fm rfl (fm rfl (fm rfl fn))))))) (ih.2.2.2.2.2.1 _ _ _ _ _ _ _ _ _ hs R80 rx1 k81 rx3 rx4 rx5)
def f235 (M : Mm) (x1 : Int) : Option (Int × Mm) := l235 FU 9 (up M 82 (Int.toNat 0) x1) x1 1 0 0 0
theorem c235 {L : Nat} {xs : Nat → Int32} {h : mvH} {M : Mm} {x1 : Int} {v : Int} {M' : Mm} (R : rp h M) (rx1 : rg x1) (hs : f235 M x1 = some (v, M')) : evx L xs 2 235 0 [(0, .inr (.inr (.inl (some 53)))), (1, .inl (iz x1))] [] h (.inl (some (.inl v)), 0) M' := by
  unfold f235 at hs
  refine evx_F E235 D235_0 rfl rfl ?_
  refine evx_F E235 D235_1 rfl rfl ?_
  refine evx_F E235 D235_2 rfl rfl ?_
  refine evx_gfr E235 D235_3 F235_97 H53 rfl R ?_
  refine evx_F E235 D235_6 rfl rfl ?_
  refine evx_F E235 D235_7 rfl rfl ?_
  refine evx_ias E235 D235_8 H82 (by decide) R (by decide) rx1 ?_
  intro h1 R2
  show evx _ _ _ _ _ [(2, .inl (iz 1)), (0, .inr (.inr (.inl (some 53)))), (1, .inl (iz x1))] _ _ _ _
  exact evx_lv (lvLe_mk (fm rfl (fm rfl (fm rfl fn))) (fm rfl (fm rfl (fm rfl fn))) (fm rfl (fm rfl (fm rfl fn)))) ((d235 FU).1 _ _ _ _ _ _ hs R2 rx1 (by decide))
set_option maxRecDepth 20000 in
theorem E236 : pgMm 236 = some (⟨"DictionaryHouseModel", "scheme", "(II)I"⟩, prog_14_method_50_code, 4, (some .int), []) := rfl
theorem D236_0 : pgDecT 236 0 = some (.iload_n 1, 1) := by decide +kernel
theorem D236_1 : pgDecT 236 1 = some (.ifCond .lt 31, 3) := by decide +kernel
theorem D236_32 : pgDecT 236 32 = some (.iconst 0, 1) := by decide +kernel
theorem D236_33 : pgDecT 236 33 = some (.istore_n 3, 1) := by decide +kernel
theorem D236_34 : pgDecT 236 34 = some (.aload_n 0, 1) := by decide +kernel
theorem D236_35 : pgDecT 236 35 = some (.iload_n 3, 1) := by decide +kernel
theorem D236_36 : pgDecT 236 36 = some (.ifCond .eq 7, 3) := by decide +kernel
theorem D236_43 : pgDecT 236 43 = some (.iconst 1, 1) := by decide +kernel
theorem D236_44 : pgDecT 236 44 = some (.putfield 182, 3) := by decide +kernel
theorem F236_182 : pgFf 236 182 = some (12, 0, 0) := by decide +kernel
theorem D236_47 : pgDecT 236 47 = some (.aload_n 0, 1) := by decide +kernel
theorem D236_48 : pgDecT 236 48 = some (.getfield 182, 3) := by decide +kernel
theorem D236_51 : pgDecT 236 51 = some (.ifCond .eq 5, 3) := by decide +kernel
theorem D236_54 : pgDecT 236 54 = some (.iconst 0, 1) := by decide +kernel
theorem D236_55 : pgDecT 236 55 = some (.ireturn, 1) := by decide +kernel
theorem D236_4 : pgDecT 236 4 = some (.iload_n 1, 1) := by decide +kernel
theorem D236_5 : pgDecT 236 5 = some (.aload_n 0, 1) := by decide +kernel
theorem D236_6 : pgDecT 236 6 = some (.getfield 223, 3) := by decide +kernel
theorem F236_223 : pgFf 236 223 = some (12, 17, 0) := by decide +kernel
theorem D236_9 : pgDecT 236 9 = some (.if_icmp .ge 23, 3) := by decide +kernel
theorem D236_12 : pgDecT 236 12 = some (.iload_n 2, 1) := by decide +kernel
theorem D236_13 : pgDecT 236 13 = some (.ifCond .lt 19, 3) := by decide +kernel
theorem D236_16 : pgDecT 236 16 = some (.iload_n 2, 1) := by decide +kernel
theorem D236_17 : pgDecT 236 17 = some (.iconst 2, 1) := by decide +kernel
theorem D236_18 : pgDecT 236 18 = some (.aload_n 0, 1) := by decide +kernel
theorem D236_19 : pgDecT 236 19 = some (.getfield 59, 3) := by decide +kernel
theorem F236_59 : pgFf 236 59 = some (12, 21, 3) := by decide +kernel
theorem D236_22 : pgDecT 236 22 = some (.iload_n 1, 1) := by decide +kernel
theorem D236_23 : pgDecT 236 23 = some (.iaload, 1) := by decide +kernel
theorem D236_24 : pgDecT 236 24 = some (.iadd, 1) := by decide +kernel
theorem D236_25 : pgDecT 236 25 = some (.if_icmp .ge 7, 3) := by decide +kernel
theorem D236_28 : pgDecT 236 28 = some (.iconst 1, 1) := by decide +kernel
theorem D236_29 : pgDecT 236 29 = some (.goto 4, 3) := by decide +kernel
theorem D236_39 : pgDecT 236 39 = some (.iconst 0, 1) := by decide +kernel
theorem D236_40 : pgDecT 236 40 = some (.goto 4, 3) := by decide +kernel
theorem D236_56 : pgDecT 236 56 = some (.iload_n 2, 1) := by decide +kernel
theorem D236_57 : pgDecT 236 57 = some (.ifCond .ne 12, 3) := by decide +kernel
theorem D236_69 : pgDecT 236 69 = some (.iload_n 2, 1) := by decide +kernel
theorem D236_70 : pgDecT 236 70 = some (.iconst 1, 1) := by decide +kernel
theorem D236_71 : pgDecT 236 71 = some (.if_icmp .ne 12, 3) := by decide +kernel
theorem D236_83 : pgDecT 236 83 = some (.aload_n 0, 1) := by decide +kernel
theorem D236_84 : pgDecT 236 84 = some (.getfield 62, 3) := by decide +kernel
theorem F236_62 : pgFf 236 62 = some (12, 22, 3) := by decide +kernel
theorem D236_87 : pgDecT 236 87 = some (.bipush 8, 2) := by decide +kernel
theorem D236_89 : pgDecT 236 89 = some (.iload_n 1, 1) := by decide +kernel
theorem D236_90 : pgDecT 236 90 = some (.imul, 1) := by decide +kernel
theorem D236_91 : pgDecT 236 91 = some (.iload_n 2, 1) := by decide +kernel
theorem D236_92 : pgDecT 236 92 = some (.iadd, 1) := by decide +kernel
theorem D236_93 : pgDecT 236 93 = some (.iconst 2, 1) := by decide +kernel
theorem D236_94 : pgDecT 236 94 = some (.isub, 1) := by decide +kernel
theorem D236_95 : pgDecT 236 95 = some (.iaload, 1) := by decide +kernel
theorem D236_96 : pgDecT 236 96 = some (.ireturn, 1) := by decide +kernel
theorem D236_74 : pgDecT 236 74 = some (.aload_n 0, 1) := by decide +kernel
theorem D236_75 : pgDecT 236 75 = some (.getfield 59, 3) := by decide +kernel
theorem D236_78 : pgDecT 236 78 = some (.iload_n 1, 1) := by decide +kernel
theorem D236_79 : pgDecT 236 79 = some (.iaload, 1) := by decide +kernel
theorem D236_80 : pgDecT 236 80 = some (.goto 16, 3) := by decide +kernel
theorem D236_60 : pgDecT 236 60 = some (.aload_n 0, 1) := by decide +kernel
theorem D236_61 : pgDecT 236 61 = some (.getfield 53, 3) := by decide +kernel
theorem F236_53 : pgFf 236 53 = some (12, 19, 3) := by decide +kernel
theorem D236_64 : pgDecT 236 64 = some (.iload_n 1, 1) := by decide +kernel
theorem D236_65 : pgDecT 236 65 = some (.iaload, 1) := by decide +kernel
theorem D236_66 : pgDecT 236 66 = some (.goto 30, 3) := by decide +kernel
/-! 236: DictionaryHouseModel.scheme (II)I -/
def f236 (M : Mm) (x1 : Int) (x2 : Int) : Option (Int × Mm) := if x1 < 0 then (some (0, (up M 53 0 1))) else (if (M 53 17) ≤ x1 then (some (0, (up M 53 0 1))) else (if x2 < 0 then (some (0, (up M 53 0 1))) else (if 0 ≤ x1 ∧ x1 < 20 then (if rg ((2 : Int) + (M 70 (Int.toNat x1))) then (if ((2 : Int) + (M 70 (Int.toNat x1))) ≤ x2 then (some (0, (up M 53 0 1))) else (if ¬ x2 = 0 then (if ¬ x2 = 1 then (if 0 ≤ ((((8 : Int) * x1) + x2) - 2) ∧ ((((8 : Int) * x1) + x2) - 2) < 160 then (some ((M 71 (Int.toNat ((((8 : Int) * x1) + x2) - 2))), (up M 53 0 0))) else none) else (some ((M 70 (Int.toNat x1)), (up M 53 0 0)))) else (some ((M 68 (Int.toNat x1)), (up M 53 0 0))))) else none) else none)))
theorem c236 {L : Nat} {xs : Nat → Int32} {h : mvH} {M : Mm} {x1 x2 : Int} {v : Int} {M' : Mm} (R : rp h M) (rx1 : rg x1) (rx2 : rg x2) (hs : f236 M x1 x2 = some (v, M')) : evx L xs 1 236 0 [(0, .inr (.inr (.inl (some 53)))), (1, .inl (iz x1)), (2, .inl (iz x2))] [] h (.inl (some (.inl v)), 0) M' := by
  unfold f236 at hs
  refine evx_F E236 D236_0 rfl rfl ?_
  by_cases cb1 : x1 < 0
  · rw [if_pos cb1] at hs
    refine evx_F E236 D236_1 rfl (ifT (c1_lt_T rx1 cb1)) ?_
    refine evx_F E236 D236_32 rfl rfl ?_
    refine evx_F E236 D236_33 rfl rfl ?_
    refine evx_F E236 D236_34 rfl rfl ?_
    refine evx_F E236 D236_35 rfl rfl ?_
    refine evx_F E236 D236_36 rfl rfl ?_
    refine evx_F E236 D236_43 rfl rfl ?_
    refine evx_pfi (k := 0) E236 D236_44 F236_182 H53 rfl R (by decide) rfl ?_
    intro h2 R3
    refine evx_F E236 D236_47 rfl rfl ?_
    refine evx_gfi (k := 0) E236 D236_48 F236_182 H53 rfl R3 ?_
    show evx _ _ _ _ _ _ (.inl (iz 1) :: _) _ _ _
    refine evx_F E236 D236_51 rfl rfl ?_
    refine evx_F E236 D236_54 rfl rfl ?_
    cases hs
    exact evx_ret E236 D236_55 rfl (fun d => rfl) rfl (show rg _ from (by decide)) R3
  · rw [if_neg cb1] at hs
    refine evx_F E236 D236_1 rfl (ifF (c1_lt_F rx1 (by omega))) ?_
    refine evx_F E236 D236_4 rfl rfl ?_
    refine evx_F E236 D236_5 rfl rfl ?_
    refine evx_gfi (k := 17) E236 D236_6 F236_223 H53 rfl R ?_
    by_cases cb4 : (M 53 17) ≤ x1
    · rw [if_pos cb4] at hs
      refine evx_F E236 D236_9 rfl (ifT (c2_ge_T rx1 (R.1 53 17) cb4)) ?_
      refine evx_F E236 D236_32 rfl rfl ?_
      refine evx_F E236 D236_33 rfl rfl ?_
      refine evx_F E236 D236_34 rfl rfl ?_
      refine evx_F E236 D236_35 rfl rfl ?_
      refine evx_F E236 D236_36 rfl rfl ?_
      refine evx_F E236 D236_43 rfl rfl ?_
      refine evx_pfi (k := 0) E236 D236_44 F236_182 H53 rfl R (by decide) rfl ?_
      intro h5 R6
      refine evx_F E236 D236_47 rfl rfl ?_
      refine evx_gfi (k := 0) E236 D236_48 F236_182 H53 rfl R6 ?_
      show evx _ _ _ _ _ _ (.inl (iz 1) :: _) _ _ _
      refine evx_F E236 D236_51 rfl rfl ?_
      refine evx_F E236 D236_54 rfl rfl ?_
      cases hs
      exact evx_ret E236 D236_55 rfl (fun d => rfl) rfl (show rg _ from (by decide)) R6
    · rw [if_neg cb4] at hs
      refine evx_F E236 D236_9 rfl (ifF (c2_ge_F rx1 (R.1 53 17) (by omega))) ?_
      refine evx_F E236 D236_12 rfl rfl ?_
      by_cases cb7 : x2 < 0
      · rw [if_pos cb7] at hs
        refine evx_F E236 D236_13 rfl (ifT (c1_lt_T rx2 cb7)) ?_
        refine evx_F E236 D236_32 rfl rfl ?_
        refine evx_F E236 D236_33 rfl rfl ?_
        refine evx_F E236 D236_34 rfl rfl ?_
        refine evx_F E236 D236_35 rfl rfl ?_
        refine evx_F E236 D236_36 rfl rfl ?_
        refine evx_F E236 D236_43 rfl rfl ?_
        refine evx_pfi (k := 0) E236 D236_44 F236_182 H53 rfl R (by decide) rfl ?_
        intro h8 R9
        refine evx_F E236 D236_47 rfl rfl ?_
        refine evx_gfi (k := 0) E236 D236_48 F236_182 H53 rfl R9 ?_
        show evx _ _ _ _ _ _ (.inl (iz 1) :: _) _ _ _
        refine evx_F E236 D236_51 rfl rfl ?_
        refine evx_F E236 D236_54 rfl rfl ?_
        cases hs
        exact evx_ret E236 D236_55 rfl (fun d => rfl) rfl (show rg _ from (by decide)) R9
      · rw [if_neg cb7] at hs
        refine evx_F E236 D236_13 rfl (ifF (c1_lt_F rx2 (by omega))) ?_
        refine evx_F E236 D236_16 rfl rfl ?_
        refine evx_F E236 D236_17 rfl rfl ?_
        refine evx_F E236 D236_18 rfl rfl ?_
        refine evx_gfr E236 D236_19 F236_59 H53 rfl R ?_
        refine evx_F E236 D236_22 rfl rfl ?_
        obtain ⟨k10, hs⟩ := ck hs
        refine evx_ial E236 D236_23 H70 (by decide) R k10 ?_
        refine evx_add E236 D236_24 ?_
        obtain ⟨k11, hs⟩ := ck hs
        by_cases cb12 : ((2 : Int) + (M 70 (Int.toNat x1))) ≤ x2
        · rw [if_pos cb12] at hs
          refine evx_F E236 D236_25 rfl (ifT (c2_ge_T rx2 k11 cb12)) ?_
          refine evx_F E236 D236_32 rfl rfl ?_
          refine evx_F E236 D236_33 rfl rfl ?_
          refine evx_F E236 D236_34 rfl rfl ?_
          refine evx_F E236 D236_35 rfl rfl ?_
          refine evx_F E236 D236_36 rfl rfl ?_
          refine evx_F E236 D236_43 rfl rfl ?_
          refine evx_pfi (k := 0) E236 D236_44 F236_182 H53 rfl R (by decide) rfl ?_
          intro h13 R14
          refine evx_F E236 D236_47 rfl rfl ?_
          refine evx_gfi (k := 0) E236 D236_48 F236_182 H53 rfl R14 ?_
          show evx _ _ _ _ _ _ (.inl (iz 1) :: _) _ _ _
          refine evx_F E236 D236_51 rfl rfl ?_
          refine evx_F E236 D236_54 rfl rfl ?_
          cases hs
          exact evx_ret E236 D236_55 rfl (fun d => rfl) rfl (show rg _ from (by decide)) R14
        · rw [if_neg cb12] at hs
          refine evx_F E236 D236_25 rfl (ifF (c2_ge_F rx2 k11 (by omega))) ?_
          refine evx_F E236 D236_28 rfl rfl ?_
          refine evx_F E236 D236_29 rfl rfl ?_
          refine evx_F E236 D236_33 rfl rfl ?_
          refine evx_F E236 D236_34 rfl rfl ?_
          refine evx_F E236 D236_35 rfl rfl ?_
          refine evx_F E236 D236_36 rfl rfl ?_
          refine evx_F E236 D236_39 rfl rfl ?_
          refine evx_F E236 D236_40 rfl rfl ?_
          refine evx_pfi (k := 0) E236 D236_44 F236_182 H53 rfl R (by decide) rfl ?_
          intro h15 R16
          refine evx_F E236 D236_47 rfl rfl ?_
          refine evx_gfi (k := 0) E236 D236_48 F236_182 H53 rfl R16 ?_
          show evx _ _ _ _ _ _ (.inl (iz 0) :: _) _ _ _
          refine evx_F E236 D236_51 rfl rfl ?_
          refine evx_F E236 D236_56 rfl rfl ?_
          by_cases cb17 : ¬ x2 = 0
          · rw [if_pos cb17] at hs
            refine evx_F E236 D236_57 rfl (ifT (c1_ne_T rx2 cb17)) ?_
            refine evx_F E236 D236_69 rfl rfl ?_
            refine evx_F E236 D236_70 rfl rfl ?_
            by_cases cb18 : ¬ x2 = 1
            · rw [if_pos cb18] at hs
              refine evx_F E236 D236_71 rfl (ifT (c2_ne_T rx2 (by decide) cb18)) ?_
              refine evx_F E236 D236_83 rfl rfl ?_
              refine evx_gfr E236 D236_84 F236_62 H53 rfl R16 ?_
              refine evx_k (k := 8) E236 D236_87 rfl (by decide) ?_
              refine evx_F E236 D236_89 rfl rfl ?_
              refine evx_mul E236 D236_90 ?_
              refine evx_F E236 D236_91 rfl rfl ?_
              refine evx_add E236 D236_92 ?_
              refine evx_F E236 D236_93 rfl rfl ?_
              refine evx_sub E236 D236_94 ?_
              obtain ⟨k19, hs⟩ := ck hs
              refine evx_ial E236 D236_95 H71 (by decide) R16 k19 ?_
              show evx _ _ _ _ _ _ (.inl (iz (M 71 (Int.toNat ((((8 : Int) * x1) + x2) - 2)))) :: _) _ _ _
              cases hs
              exact evx_ret E236 D236_96 rfl (fun d => rfl) rfl (show rg _ from (R16.1 71 (Int.toNat ((((8 : Int) * x1) + x2) - 2)))) R16
            · rw [if_neg cb18] at hs
              refine evx_F E236 D236_71 rfl (ifF (c2_ne_F rx2 (by decide) (by omega))) ?_
              refine evx_F E236 D236_74 rfl rfl ?_
              refine evx_gfr E236 D236_75 F236_59 H53 rfl R16 ?_
              refine evx_F E236 D236_78 rfl rfl ?_
              refine evx_ial E236 D236_79 H70 (by decide) R16 k10 ?_
              show evx _ _ _ _ _ _ (.inl (iz (M 70 (Int.toNat x1))) :: _) _ _ _
              refine evx_F E236 D236_80 rfl rfl ?_
              cases hs
              exact evx_ret E236 D236_96 rfl (fun d => rfl) rfl (show rg _ from (R16.1 70 (Int.toNat x1))) R16
          · rw [if_neg cb17] at hs
            refine evx_F E236 D236_57 rfl (ifF (c1_ne_F rx2 (by omega))) ?_
            refine evx_F E236 D236_60 rfl rfl ?_
            refine evx_gfr E236 D236_61 F236_53 H53 rfl R16 ?_
            refine evx_F E236 D236_64 rfl rfl ?_
            refine evx_ial E236 D236_65 H68 (by decide) R16 k10 ?_
            show evx _ _ _ _ _ _ (.inl (iz (M 68 (Int.toNat x1))) :: _) _ _ _
            refine evx_F E236 D236_66 rfl rfl ?_
            cases hs
            exact evx_ret E236 D236_96 rfl (fun d => rfl) rfl (show rg _ from (R16.1 68 (Int.toNat x1))) R16
set_option maxRecDepth 20000 in
theorem E238 : pgMm 238 = some (⟨"DictionaryHouseModel", "hasAbove", "(III)Z"⟩, prog_14_method_52_code, 6, (some .boolean), []) := rfl
theorem D238_0 : pgDecT 238 0 = some (.aload_n 0, 1) := by decide +kernel
theorem D238_1 : pgDecT 238 1 = some (.getfield 19, 3) := by decide +kernel
theorem F238_19 : pgFf 238 19 = some (12, 6, 3) := by decide +kernel
theorem D238_4 : pgDecT 238 4 = some (.iload_n 1, 1) := by decide +kernel
theorem D238_5 : pgDecT 238 5 = some (.iaload, 1) := by decide +kernel
theorem D238_6 : pgDecT 238 6 = some (.istore 4, 2) := by decide +kernel
theorem D238_8 : pgDecT 238 8 = some (.iload 4, 2) := by decide +kernel
theorem D238_10 : pgDecT 238 10 = some (.iconst (-1), 1) := by decide +kernel
theorem D238_11 : pgDecT 238 11 = some (.if_icmp .ne 5, 3) := by decide +kernel
theorem D238_16 : pgDecT 238 16 = some (.aload_n 0, 1) := by decide +kernel
theorem D238_17 : pgDecT 238 17 = some (.getfield 28, 3) := by decide +kernel
theorem F238_28 : pgFf 238 28 = some (12, 9, 3) := by decide +kernel
theorem D238_20 : pgDecT 238 20 = some (.iconst 3, 1) := by decide +kernel
theorem D238_21 : pgDecT 238 21 = some (.iload 4, 2) := by decide +kernel
theorem D238_23 : pgDecT 238 23 = some (.imul, 1) := by decide +kernel
theorem D238_24 : pgDecT 238 24 = some (.iload_n 2, 1) := by decide +kernel
theorem D238_25 : pgDecT 238 25 = some (.iadd, 1) := by decide +kernel
theorem D238_26 : pgDecT 238 26 = some (.baload, 1) := by decide +kernel
theorem D238_27 : pgDecT 238 27 = some (.ifCond .ne 5, 3) := by decide +kernel
theorem D238_32 : pgDecT 238 32 = some (.iload_n 2, 1) := by decide +kernel
theorem D238_33 : pgDecT 238 33 = some (.iconst 2, 1) := by decide +kernel
theorem D238_34 : pgDecT 238 34 = some (.if_icmp .ne 17, 3) := by decide +kernel
theorem D238_51 : pgDecT 238 51 = some (.iconst (-1), 1) := by decide +kernel
theorem D238_52 : pgDecT 238 52 = some (.istore 5, 2) := by decide +kernel
theorem D238_54 : pgDecT 238 54 = some (.iload 5, 2) := by decide +kernel
theorem D238_56 : pgDecT 238 56 = some (.iconst (-1), 1) := by decide +kernel
theorem D238_57 : pgDecT 238 57 = some (.if_icmp .eq 18, 3) := by decide +kernel
theorem D238_75 : pgDecT 238 75 = some (.iconst 1, 1) := by decide +kernel
theorem D238_76 : pgDecT 238 76 = some (.goto 4, 3) := by decide +kernel
theorem D238_80 : pgDecT 238 80 = some (.ireturn, 1) := by decide +kernel
theorem D238_37 : pgDecT 238 37 = some (.aload_n 0, 1) := by decide +kernel
theorem D238_38 : pgDecT 238 38 = some (.getfield 32, 3) := by decide +kernel
theorem F238_32 : pgFf 238 32 = some (12, 10, 3) := by decide +kernel
theorem D238_41 : pgDecT 238 41 = some (.iconst 3, 1) := by decide +kernel
theorem D238_42 : pgDecT 238 42 = some (.iload 4, 2) := by decide +kernel
theorem D238_44 : pgDecT 238 44 = some (.imul, 1) := by decide +kernel
theorem D238_45 : pgDecT 238 45 = some (.iconst 2, 1) := by decide +kernel
theorem D238_46 : pgDecT 238 46 = some (.iadd, 1) := by decide +kernel
theorem D238_47 : pgDecT 238 47 = some (.iaload, 1) := by decide +kernel
theorem D238_48 : pgDecT 238 48 = some (.goto 4, 3) := by decide +kernel
theorem D238_60 : pgDecT 238 60 = some (.iload_n 3, 1) := by decide +kernel
theorem D238_61 : pgDecT 238 61 = some (.iconst (-1), 1) := by decide +kernel
theorem D238_62 : pgDecT 238 62 = some (.if_icmp .eq 17, 3) := by decide +kernel
theorem D238_79 : pgDecT 238 79 = some (.iconst 0, 1) := by decide +kernel
theorem D238_65 : pgDecT 238 65 = some (.aload_n 0, 1) := by decide +kernel
theorem D238_66 : pgDecT 238 66 = some (.iload_n 3, 1) := by decide +kernel
theorem D238_67 : pgDecT 238 67 = some (.iload 5, 2) := by decide +kernel
theorem D238_69 : pgDecT 238 69 = some (.invokevirtual 295, 3) := by decide +kernel
theorem I238_295 : pgIi 238 295 = some (229, 2, 12) := by decide +kernel
theorem D238_72 : pgDecT 238 72 = some (.ifCond .eq 7, 3) := by decide +kernel
theorem D238_30 : pgDecT 238 30 = some (.iconst 0, 1) := by decide +kernel
theorem D238_31 : pgDecT 238 31 = some (.ireturn, 1) := by decide +kernel
theorem D238_14 : pgDecT 238 14 = some (.iconst 1, 1) := by decide +kernel
theorem D238_15 : pgDecT 238 15 = some (.ireturn, 1) := by decide +kernel
/-! 238: DictionaryHouseModel.hasAbove (III)Z -/
def f238 (M : Mm) (x1 : Int) (x2 : Int) (x3 : Int) : Option Int := if 0 ≤ x1 ∧ x1 < 6 then (if ¬ (M 57 (Int.toNat x1)) = (-1) then (if 0 ≤ (((3 : Int) * (M 57 (Int.toNat x1))) + x2) ∧ (((3 : Int) * (M 57 (Int.toNat x1))) + x2) < 18 then (if ¬ (M 60 (Int.toNat (((3 : Int) * (M 57 (Int.toNat x1))) + x2))) = 0 then (if ¬ x2 = 2 then (some 1) else (if 0 ≤ (((3 : Int) * (M 57 (Int.toNat x1))) + 2) ∧ (((3 : Int) * (M 57 (Int.toNat x1))) + 2) < 18 then (if (M 61 (Int.toNat (((3 : Int) * (M 57 (Int.toNat x1))) + 2))) = (-1) then (some 1) else (if x3 = (-1) then (some 0) else (f229 M x3 (M 61 (Int.toNat (((3 : Int) * (M 57 (Int.toNat x1))) + 2)))).bind (fun q10 => if q10 = 0 then (some 0) else (some 1)))) else none)) else (some 0)) else none) else (some 1)) else none
theorem c238 {L : Nat} {xs : Nat → Int32} {h : mvH} {M : Mm} {x1 x2 x3 : Int} {v : Int} (R : rp h M) (rx1 : rg x1) (rx2 : rg x2) (rx3 : rg x3) (hs : f238 M x1 x2 x3 = some v) : evx L xs 2 238 0 [(0, .inr (.inr (.inl (some 53)))), (1, .inl (iz x1)), (2, .inl (iz x2)), (3, .inl (iz x3))] [] h (.inl (some (.inl v)), 0) M := by
  unfold f238 at hs
  refine evx_F E238 D238_0 rfl rfl ?_
  refine evx_gfr E238 D238_1 F238_19 H53 rfl R ?_
  refine evx_F E238 D238_4 rfl rfl ?_
  obtain ⟨k1, hs⟩ := ck hs
  refine evx_ial E238 D238_5 H57 (by decide) R k1 ?_
  refine evx_F E238 D238_6 rfl rfl ?_
  refine evx_F E238 D238_8 rfl rfl ?_
  refine evx_F E238 D238_10 rfl rfl ?_
  by_cases cb2 : ¬ (M 57 (Int.toNat x1)) = (-1)
  · rw [if_pos cb2] at hs
    refine evx_F E238 D238_11 rfl (ifT (c2_ne_T (R.1 57 (Int.toNat x1)) (by decide) cb2)) ?_
    refine evx_F E238 D238_16 rfl rfl ?_
    refine evx_gfr E238 D238_17 F238_28 H53 rfl R ?_
    refine evx_F E238 D238_20 rfl rfl ?_
    refine evx_F E238 D238_21 rfl rfl ?_
    refine evx_mul E238 D238_23 ?_
    refine evx_F E238 D238_24 rfl rfl ?_
    refine evx_add E238 D238_25 ?_
    obtain ⟨k3, hs⟩ := ck hs
    refine evx_bal E238 D238_26 H60 (by decide) R k3 ?_
    by_cases cb4 : ¬ (M 60 (Int.toNat (((3 : Int) * (M 57 (Int.toNat x1))) + x2))) = 0
    · rw [if_pos cb4] at hs
      refine evx_F E238 D238_27 rfl (ifT (c1_ne_T (R.1 60 (Int.toNat (((3 : Int) * (M 57 (Int.toNat x1))) + x2))) cb4)) ?_
      refine evx_F E238 D238_32 rfl rfl ?_
      refine evx_F E238 D238_33 rfl rfl ?_
      by_cases cb5 : ¬ x2 = 2
      · rw [if_pos cb5] at hs
        refine evx_F E238 D238_34 rfl (ifT (c2_ne_T rx2 (by decide) cb5)) ?_
        refine evx_F E238 D238_51 rfl rfl ?_
        refine evx_F E238 D238_52 rfl rfl ?_
        refine evx_F E238 D238_54 rfl rfl ?_
        refine evx_F E238 D238_56 rfl rfl ?_
        refine evx_F E238 D238_57 rfl rfl ?_
        refine evx_F E238 D238_75 rfl rfl ?_
        refine evx_F E238 D238_76 rfl rfl ?_
        cases hs
        exact evx_ret E238 D238_80 rfl (fun d => rfl) rfl (show rg _ from (by decide)) R
      · rw [if_neg cb5] at hs
        refine evx_F E238 D238_34 rfl (ifF (c2_ne_F rx2 (by decide) (by omega))) ?_
        refine evx_F E238 D238_37 rfl rfl ?_
        refine evx_gfr E238 D238_38 F238_32 H53 rfl R ?_
        refine evx_F E238 D238_41 rfl rfl ?_
        refine evx_F E238 D238_42 rfl rfl ?_
        refine evx_mul E238 D238_44 ?_
        refine evx_F E238 D238_45 rfl rfl ?_
        refine evx_add E238 D238_46 ?_
        obtain ⟨k6, hs⟩ := ck hs
        refine evx_ial E238 D238_47 H61 (by decide) R k6 ?_
        refine evx_F E238 D238_48 rfl rfl ?_
        refine evx_F E238 D238_52 rfl rfl ?_
        refine evx_F E238 D238_54 rfl rfl ?_
        refine evx_F E238 D238_56 rfl rfl ?_
        by_cases cb7 : (M 61 (Int.toNat (((3 : Int) * (M 57 (Int.toNat x1))) + 2))) = (-1)
        · rw [if_pos cb7] at hs
          refine evx_F E238 D238_57 rfl (ifT (c2_eq_T (R.1 61 (Int.toNat (((3 : Int) * (M 57 (Int.toNat x1))) + 2))) (by decide) cb7)) ?_
          refine evx_F E238 D238_75 rfl rfl ?_
          refine evx_F E238 D238_76 rfl rfl ?_
          cases hs
          exact evx_ret E238 D238_80 rfl (fun d => rfl) rfl (show rg _ from (by decide)) R
        · rw [if_neg cb7] at hs
          refine evx_F E238 D238_57 rfl (ifF (c2_eq_F (R.1 61 (Int.toNat (((3 : Int) * (M 57 (Int.toNat x1))) + 2))) (by decide) (by omega))) ?_
          refine evx_F E238 D238_60 rfl rfl ?_
          refine evx_F E238 D238_61 rfl rfl ?_
          by_cases cb8 : x3 = (-1)
          · rw [if_pos cb8] at hs
            refine evx_F E238 D238_62 rfl (ifT (c2_eq_T rx3 (by decide) cb8)) ?_
            refine evx_F E238 D238_79 rfl rfl ?_
            cases hs
            exact evx_ret E238 D238_80 rfl (fun d => rfl) rfl (show rg _ from (by decide)) R
          · rw [if_neg cb8] at hs
            refine evx_F E238 D238_62 rfl (ifF (c2_eq_F rx3 (by decide) (by omega))) ?_
            refine evx_F E238 D238_65 rfl rfl ?_
            refine evx_F E238 D238_66 rfl rfl ?_
            refine evx_F E238 D238_67 rfl rfl ?_
            obtain ⟨q10, e9, hs⟩ := Option.bind_eq_some_iff.mp hs
            refine evx_cv (D := 1) E238 D238_69 I238_295 rfl rfl H53 ⟨Nat.le_of_ble_eq_true rfl, Nat.le_of_ble_eq_true rfl⟩ ⟨rfl, Nat.le_of_ble_eq_true rfl⟩ rfl R (evx_up (Nat.le_of_ble_eq_true rfl) (c229 R rx3 (R.1 61 (Int.toNat (((3 : Int) * (M 57 (Int.toNat x1))) + 2))) e9)) ?_
            intro h11 R12 w13
            have w13 : rg q10 := w13
            show evx _ _ _ _ _ _ (.inl (iz q10) :: _) _ _ _
            by_cases cb14 : q10 = 0
            · rw [if_pos cb14] at hs
              refine evx_F E238 D238_72 rfl (ifT (c1_eq_T w13 cb14)) ?_
              refine evx_F E238 D238_79 rfl rfl ?_
              cases hs
              exact evx_ret E238 D238_80 rfl (fun d => rfl) rfl (show rg _ from (by decide)) R12
            · rw [if_neg cb14] at hs
              refine evx_F E238 D238_72 rfl (ifF (c1_eq_F w13 (by omega))) ?_
              refine evx_F E238 D238_75 rfl rfl ?_
              refine evx_F E238 D238_76 rfl rfl ?_
              cases hs
              exact evx_ret E238 D238_80 rfl (fun d => rfl) rfl (show rg _ from (by decide)) R12
    · rw [if_neg cb4] at hs
      refine evx_F E238 D238_27 rfl (ifF (c1_ne_F (R.1 60 (Int.toNat (((3 : Int) * (M 57 (Int.toNat x1))) + x2))) (by omega))) ?_
      refine evx_F E238 D238_30 rfl rfl ?_
      cases hs
      exact evx_ret E238 D238_31 rfl (fun d => rfl) rfl (show rg _ from (by decide)) R
  · rw [if_neg cb2] at hs
    refine evx_F E238 D238_11 rfl (ifF (c2_ne_F (R.1 57 (Int.toNat x1)) (by decide) (by omega))) ?_
    refine evx_F E238 D238_14 rfl rfl ?_
    cases hs
    exact evx_ret E238 D238_15 rfl (fun d => rfl) rfl (show rg _ from (by decide)) R
set_option maxRecDepth 20000 in
theorem E240 : pgMm 240 = some (⟨"DictionaryHouseModel", "unitOf", "(III)I"⟩, prog_14_method_51_code, 3, (some .int), []) := rfl
theorem D240_0 : pgDecT 240 0 = some (.bipush 20, 2) := by decide +kernel
theorem D240_2 : pgDecT 240 2 = some (.bipush 9, 2) := by decide +kernel
theorem D240_4 : pgDecT 240 4 = some (.iload_n 0, 1) := by decide +kernel
theorem D240_5 : pgDecT 240 5 = some (.imul, 1) := by decide +kernel
theorem D240_6 : pgDecT 240 6 = some (.iadd, 1) := by decide +kernel
theorem D240_7 : pgDecT 240 7 = some (.iconst 3, 1) := by decide +kernel
theorem D240_8 : pgDecT 240 8 = some (.iload_n 1, 1) := by decide +kernel
theorem D240_9 : pgDecT 240 9 = some (.imul, 1) := by decide +kernel
theorem D240_10 : pgDecT 240 10 = some (.iadd, 1) := by decide +kernel
theorem D240_11 : pgDecT 240 11 = some (.iload_n 2, 1) := by decide +kernel
theorem D240_12 : pgDecT 240 12 = some (.iadd, 1) := by decide +kernel
theorem D240_13 : pgDecT 240 13 = some (.ireturn, 1) := by decide +kernel
/-! 240: DictionaryHouseModel.unitOf (III)I -/
def f240 (M : Mm) (x0 : Int) (x1 : Int) (x2 : Int) : Option Int := if rg ((((20 : Int) + ((9 : Int) * x0)) + ((3 : Int) * x1)) + x2) then (some ((((20 : Int) + ((9 : Int) * x0)) + ((3 : Int) * x1)) + x2)) else none
theorem c240 {L : Nat} {xs : Nat → Int32} {h : mvH} {M : Mm} {x0 x1 x2 : Int} {v : Int} (R : rp h M) (rx0 : rg x0) (rx1 : rg x1) (rx2 : rg x2) (hs : f240 M x0 x1 x2 = some v) : evx L xs 1 240 0 [(0, .inl (iz x0)), (1, .inl (iz x1)), (2, .inl (iz x2))] [] h (.inl (some (.inl v)), 0) M := by
  unfold f240 at hs
  refine evx_k (k := 20) E240 D240_0 rfl (by decide) ?_
  refine evx_k (k := 9) E240 D240_2 rfl (by decide) ?_
  refine evx_F E240 D240_4 rfl rfl ?_
  refine evx_mul E240 D240_5 ?_
  refine evx_add E240 D240_6 ?_
  refine evx_F E240 D240_7 rfl rfl ?_
  refine evx_F E240 D240_8 rfl rfl ?_
  refine evx_mul E240 D240_9 ?_
  refine evx_add E240 D240_10 ?_
  refine evx_F E240 D240_11 rfl rfl ?_
  refine evx_add E240 D240_12 ?_
  obtain ⟨k1, hs⟩ := ck hs
  cases hs
  exact evx_ret E240 D240_13 rfl (fun d => rfl) rfl (show rg _ from k1) R
set_option maxRecDepth 20000 in
theorem E242 : pgMm 242 = some (⟨"DictionaryHouseModel", "isPlain", "(I)Z"⟩, prog_14_method_65_code, 2, (some .boolean), []) := rfl
theorem D242_0 : pgDecT 242 0 = some (.iload_n 1, 1) := by decide +kernel
theorem D242_1 : pgDecT 242 1 = some (.iconst 2, 1) := by decide +kernel
theorem D242_2 : pgDecT 242 2 = some (.if_icmp .lt 23, 3) := by decide +kernel
theorem D242_25 : pgDecT 242 25 = some (.iconst 1, 1) := by decide +kernel
theorem D242_26 : pgDecT 242 26 = some (.goto 4, 3) := by decide +kernel
theorem D242_30 : pgDecT 242 30 = some (.ireturn, 1) := by decide +kernel
theorem D242_5 : pgDecT 242 5 = some (.aload_n 0, 1) := by decide +kernel
theorem D242_6 : pgDecT 242 6 = some (.getfield 7, 3) := by decide +kernel
theorem F242_7 : pgFf 242 7 = some (12, 2, 3) := by decide +kernel
theorem D242_9 : pgDecT 242 9 = some (.iload_n 1, 1) := by decide +kernel
theorem D242_10 : pgDecT 242 10 = some (.iaload, 1) := by decide +kernel
theorem D242_11 : pgDecT 242 11 = some (.iconst 3, 1) := by decide +kernel
theorem D242_12 : pgDecT 242 12 = some (.if_icmp .ne 17, 3) := by decide +kernel
theorem D242_29 : pgDecT 242 29 = some (.iconst 0, 1) := by decide +kernel
theorem D242_15 : pgDecT 242 15 = some (.aload_n 0, 1) := by decide +kernel
theorem D242_16 : pgDecT 242 16 = some (.getfield 13, 3) := by decide +kernel
theorem F242_13 : pgFf 242 13 = some (12, 3, 3) := by decide +kernel
theorem D242_19 : pgDecT 242 19 = some (.iload_n 1, 1) := by decide +kernel
theorem D242_20 : pgDecT 242 20 = some (.iaload, 1) := by decide +kernel
theorem D242_21 : pgDecT 242 21 = some (.iconst 2, 1) := by decide +kernel
theorem D242_22 : pgDecT 242 22 = some (.if_icmp .ge 7, 3) := by decide +kernel
/-! 242: DictionaryHouseModel.isPlain (I)Z -/
def f242 (M : Mm) (x1 : Int) : Option Int := if x1 < 2 then (some 1) else (if 0 ≤ x1 ∧ x1 < 40 then (if ¬ (M 54 (Int.toNat x1)) = 3 then (some 0) else (if 2 ≤ (M 55 (Int.toNat x1)) then (some 0) else (some 1))) else none)
theorem c242 {L : Nat} {xs : Nat → Int32} {h : mvH} {M : Mm} {x1 : Int} {v : Int} (R : rp h M) (rx1 : rg x1) (hs : f242 M x1 = some v) : evx L xs 1 242 0 [(0, .inr (.inr (.inl (some 53)))), (1, .inl (iz x1))] [] h (.inl (some (.inl v)), 0) M := by
  unfold f242 at hs
  refine evx_F E242 D242_0 rfl rfl ?_
  refine evx_F E242 D242_1 rfl rfl ?_
  by_cases cb1 : x1 < 2
  · rw [if_pos cb1] at hs
    refine evx_F E242 D242_2 rfl (ifT (c2_lt_T rx1 (by decide) cb1)) ?_
    refine evx_F E242 D242_25 rfl rfl ?_
    refine evx_F E242 D242_26 rfl rfl ?_
    cases hs
    exact evx_ret E242 D242_30 rfl (fun d => rfl) rfl (show rg _ from (by decide)) R
  · rw [if_neg cb1] at hs
    refine evx_F E242 D242_2 rfl (ifF (c2_lt_F rx1 (by decide) (by omega))) ?_
    refine evx_F E242 D242_5 rfl rfl ?_
    refine evx_gfr E242 D242_6 F242_7 H53 rfl R ?_
    refine evx_F E242 D242_9 rfl rfl ?_
    obtain ⟨k2, hs⟩ := ck hs
    refine evx_ial E242 D242_10 H54 (by decide) R k2 ?_
    refine evx_F E242 D242_11 rfl rfl ?_
    by_cases cb3 : ¬ (M 54 (Int.toNat x1)) = 3
    · rw [if_pos cb3] at hs
      refine evx_F E242 D242_12 rfl (ifT (c2_ne_T (R.1 54 (Int.toNat x1)) (by decide) cb3)) ?_
      refine evx_F E242 D242_29 rfl rfl ?_
      cases hs
      exact evx_ret E242 D242_30 rfl (fun d => rfl) rfl (show rg _ from (by decide)) R
    · rw [if_neg cb3] at hs
      refine evx_F E242 D242_12 rfl (ifF (c2_ne_F (R.1 54 (Int.toNat x1)) (by decide) (by omega))) ?_
      refine evx_F E242 D242_15 rfl rfl ?_
      refine evx_gfr E242 D242_16 F242_13 H53 rfl R ?_
      refine evx_F E242 D242_19 rfl rfl ?_
      refine evx_ial E242 D242_20 H55 (by decide) R k2 ?_
      refine evx_F E242 D242_21 rfl rfl ?_
      by_cases cb4 : 2 ≤ (M 55 (Int.toNat x1))
      · rw [if_pos cb4] at hs
        refine evx_F E242 D242_22 rfl (ifT (c2_ge_T (R.1 55 (Int.toNat x1)) (by decide) cb4)) ?_
        refine evx_F E242 D242_29 rfl rfl ?_
        cases hs
        exact evx_ret E242 D242_30 rfl (fun d => rfl) rfl (show rg _ from (by decide)) R
      · rw [if_neg cb4] at hs
        refine evx_F E242 D242_22 rfl (ifF (c2_ge_F (R.1 55 (Int.toNat x1)) (by decide) (by omega))) ?_
        refine evx_F E242 D242_25 rfl rfl ?_
        refine evx_F E242 D242_26 rfl rfl ?_
        cases hs
        exact evx_ret E242 D242_30 rfl (fun d => rfl) rfl (show rg _ from (by decide)) R
set_option maxRecDepth 20000 in
theorem E243 : pgMm 243 = some (⟨"DictionaryHouseModel", "push", "(IIIIII)V"⟩, prog_14_method_55_code, 7, none, []) := rfl
theorem D243_0 : pgDecT 243 0 = some (.aload_n 0, 1) := by decide +kernel
theorem D243_1 : pgDecT 243 1 = some (.getfield 160, 3) := by decide +kernel
theorem F243_160 : pgFf 243 160 = some (12, 72, 3) := by decide +kernel
theorem D243_4 : pgDecT 243 4 = some (.aload_n 0, 1) := by decide +kernel
theorem D243_5 : pgDecT 243 5 = some (.getfield 345, 3) := by decide +kernel
theorem F243_345 : pgFf 243 345 = some (12, 71, 0) := by decide +kernel
theorem D243_8 : pgDecT 243 8 = some (.iload_n 1, 1) := by decide +kernel
theorem D243_9 : pgDecT 243 9 = some (.iastore, 1) := by decide +kernel
theorem D243_10 : pgDecT 243 10 = some (.aload_n 0, 1) := by decide +kernel
theorem D243_11 : pgDecT 243 11 = some (.getfield 163, 3) := by decide +kernel
theorem F243_163 : pgFf 243 163 = some (12, 73, 3) := by decide +kernel
theorem D243_14 : pgDecT 243 14 = some (.aload_n 0, 1) := by decide +kernel
theorem D243_15 : pgDecT 243 15 = some (.getfield 345, 3) := by decide +kernel
theorem D243_18 : pgDecT 243 18 = some (.iload_n 2, 1) := by decide +kernel
theorem D243_19 : pgDecT 243 19 = some (.iastore, 1) := by decide +kernel
theorem D243_20 : pgDecT 243 20 = some (.aload_n 0, 1) := by decide +kernel
theorem D243_21 : pgDecT 243 21 = some (.getfield 166, 3) := by decide +kernel
theorem F243_166 : pgFf 243 166 = some (12, 74, 3) := by decide +kernel
theorem D243_24 : pgDecT 243 24 = some (.aload_n 0, 1) := by decide +kernel
theorem D243_25 : pgDecT 243 25 = some (.getfield 345, 3) := by decide +kernel
theorem D243_28 : pgDecT 243 28 = some (.iload_n 3, 1) := by decide +kernel
theorem D243_29 : pgDecT 243 29 = some (.iastore, 1) := by decide +kernel
theorem D243_30 : pgDecT 243 30 = some (.aload_n 0, 1) := by decide +kernel
theorem D243_31 : pgDecT 243 31 = some (.getfield 169, 3) := by decide +kernel
theorem F243_169 : pgFf 243 169 = some (12, 75, 3) := by decide +kernel
theorem D243_34 : pgDecT 243 34 = some (.aload_n 0, 1) := by decide +kernel
theorem D243_35 : pgDecT 243 35 = some (.getfield 345, 3) := by decide +kernel
theorem D243_38 : pgDecT 243 38 = some (.iload 4, 2) := by decide +kernel
theorem D243_40 : pgDecT 243 40 = some (.iastore, 1) := by decide +kernel
theorem D243_41 : pgDecT 243 41 = some (.aload_n 0, 1) := by decide +kernel
theorem D243_42 : pgDecT 243 42 = some (.getfield 172, 3) := by decide +kernel
theorem F243_172 : pgFf 243 172 = some (12, 76, 3) := by decide +kernel
theorem D243_45 : pgDecT 243 45 = some (.aload_n 0, 1) := by decide +kernel
theorem D243_46 : pgDecT 243 46 = some (.getfield 345, 3) := by decide +kernel
theorem D243_49 : pgDecT 243 49 = some (.iload 5, 2) := by decide +kernel
theorem D243_51 : pgDecT 243 51 = some (.iastore, 1) := by decide +kernel
theorem D243_52 : pgDecT 243 52 = some (.aload_n 0, 1) := by decide +kernel
theorem D243_53 : pgDecT 243 53 = some (.getfield 175, 3) := by decide +kernel
theorem F243_175 : pgFf 243 175 = some (12, 77, 3) := by decide +kernel
theorem D243_56 : pgDecT 243 56 = some (.aload_n 0, 1) := by decide +kernel
theorem D243_57 : pgDecT 243 57 = some (.getfield 345, 3) := by decide +kernel
theorem D243_60 : pgDecT 243 60 = some (.iload 6, 2) := by decide +kernel
theorem D243_62 : pgDecT 243 62 = some (.iastore, 1) := by decide +kernel
theorem D243_63 : pgDecT 243 63 = some (.aload_n 0, 1) := by decide +kernel
theorem D243_64 : pgDecT 243 64 = some (.dup, 1) := by decide +kernel
theorem D243_65 : pgDecT 243 65 = some (.getfield 345, 3) := by decide +kernel
theorem D243_68 : pgDecT 243 68 = some (.iconst 1, 1) := by decide +kernel
theorem D243_69 : pgDecT 243 69 = some (.iadd, 1) := by decide +kernel
theorem D243_70 : pgDecT 243 70 = some (.putfield 345, 3) := by decide +kernel
theorem D243_73 : pgDecT 243 73 = some (.return_, 1) := by decide +kernel
/-! 243: DictionaryHouseModel.push (IIIIII)V -/
def f243 (M : Mm) (x1 : Int) (x2 : Int) (x3 : Int) (x4 : Int) (x5 : Int) (x6 : Int) : Option (Int × Mm) := if 0 ≤ (M 53 71) ∧ (M 53 71) < 2000 then (if rg ((M 53 71) + 1) then (some (0, (up (up (up (up (up (up (up M 103 (Int.toNat (M 53 71)) x1) 104 (Int.toNat (M 53 71)) x2) 105 (Int.toNat (M 53 71)) x3) 106 (Int.toNat (M 53 71)) x4) 107 (Int.toNat (M 53 71)) x5) 108 (Int.toNat (M 53 71)) x6) 53 71 ((M 53 71) + 1)))) else none) else none
theorem c243 {L : Nat} {xs : Nat → Int32} {h : mvH} {M : Mm} {x1 x2 x3 x4 x5 x6 : Int} {v : Int} {M' : Mm} (R : rp h M) (rx1 : rg x1) (rx2 : rg x2) (rx3 : rg x3) (rx4 : rg x4) (rx5 : rg x5) (rx6 : rg x6) (hs : f243 M x1 x2 x3 x4 x5 x6 = some (v, M')) : evx L xs 1 243 0 [(0, .inr (.inr (.inl (some 53)))), (1, .inl (iz x1)), (2, .inl (iz x2)), (3, .inl (iz x3)), (4, .inl (iz x4)), (5, .inl (iz x5)), (6, .inl (iz x6))] [] h (.inl none, 0) M' := by
  unfold f243 at hs
  refine evx_F E243 D243_0 rfl rfl ?_
  refine evx_gfr E243 D243_1 F243_160 H53 rfl R ?_
  refine evx_F E243 D243_4 rfl rfl ?_
  refine evx_gfi (k := 71) E243 D243_5 F243_345 H53 rfl R ?_
  refine evx_F E243 D243_8 rfl rfl ?_
  obtain ⟨k1, hs⟩ := ck hs
  refine evx_ias E243 D243_9 H103 (by decide) R k1 rx1 ?_
  intro h2 R3
  refine evx_F E243 D243_10 rfl rfl ?_
  refine evx_gfr E243 D243_11 F243_163 H53 rfl R3 ?_
  refine evx_F E243 D243_14 rfl rfl ?_
  refine evx_gfi (k := 71) E243 D243_15 F243_345 H53 rfl R3 ?_
  show evx _ _ _ _ _ _ (.inl (iz (M 53 71)) :: _) _ _ _
  refine evx_F E243 D243_18 rfl rfl ?_
  refine evx_ias E243 D243_19 H104 (by decide) R3 k1 rx2 ?_
  intro h4 R5
  refine evx_F E243 D243_20 rfl rfl ?_
  refine evx_gfr E243 D243_21 F243_166 H53 rfl R5 ?_
  refine evx_F E243 D243_24 rfl rfl ?_
  refine evx_gfi (k := 71) E243 D243_25 F243_345 H53 rfl R5 ?_
  show evx _ _ _ _ _ _ (.inl (iz (M 53 71)) :: _) _ _ _
  refine evx_F E243 D243_28 rfl rfl ?_
  refine evx_ias E243 D243_29 H105 (by decide) R5 k1 rx3 ?_
  intro h6 R7
  refine evx_F E243 D243_30 rfl rfl ?_
  refine evx_gfr E243 D243_31 F243_169 H53 rfl R7 ?_
  refine evx_F E243 D243_34 rfl rfl ?_
  refine evx_gfi (k := 71) E243 D243_35 F243_345 H53 rfl R7 ?_
  show evx _ _ _ _ _ _ (.inl (iz (M 53 71)) :: _) _ _ _
  refine evx_F E243 D243_38 rfl rfl ?_
  refine evx_ias E243 D243_40 H106 (by decide) R7 k1 rx4 ?_
  intro h8 R9
  refine evx_F E243 D243_41 rfl rfl ?_
  refine evx_gfr E243 D243_42 F243_172 H53 rfl R9 ?_
  refine evx_F E243 D243_45 rfl rfl ?_
  refine evx_gfi (k := 71) E243 D243_46 F243_345 H53 rfl R9 ?_
  show evx _ _ _ _ _ _ (.inl (iz (M 53 71)) :: _) _ _ _
  refine evx_F E243 D243_49 rfl rfl ?_
  refine evx_ias E243 D243_51 H107 (by decide) R9 k1 rx5 ?_
  intro h10 R11
  refine evx_F E243 D243_52 rfl rfl ?_
  refine evx_gfr E243 D243_53 F243_175 H53 rfl R11 ?_
  refine evx_F E243 D243_56 rfl rfl ?_
  refine evx_gfi (k := 71) E243 D243_57 F243_345 H53 rfl R11 ?_
  show evx _ _ _ _ _ _ (.inl (iz (M 53 71)) :: _) _ _ _
  refine evx_F E243 D243_60 rfl rfl ?_
  refine evx_ias E243 D243_62 H108 (by decide) R11 k1 rx6 ?_
  intro h12 R13
  refine evx_F E243 D243_63 rfl rfl ?_
  refine evx_F E243 D243_64 rfl rfl ?_
  refine evx_gfi (k := 71) E243 D243_65 F243_345 H53 rfl R13 ?_
  show evx _ _ _ _ _ _ (.inl (iz (M 53 71)) :: _) _ _ _
  refine evx_F E243 D243_68 rfl rfl ?_
  refine evx_add E243 D243_69 ?_
  obtain ⟨k14, hs⟩ := ck hs
  refine evx_pfi (k := 71) E243 D243_70 F243_345 H53 rfl R13 k14 rfl ?_
  intro h15 R16
  cases hs
  exact evx_ret E243 D243_73 rfl (fun d => rfl) rfl trivial R16
set_option maxRecDepth 20000 in
theorem E246 : pgMm 246 = some (⟨"DictionaryHouseModel", "step", "()Z"⟩, prog_14_method_57_code, 1, (some .boolean), []) := rfl
theorem D246_0 : pgDecT 246 0 = some (.aload_n 0, 1) := by decide +kernel
theorem D246_1 : pgDecT 246 1 = some (.getfield 351, 3) := by decide +kernel
theorem F246_351 : pgFf 246 351 = some (12, 58, 0) := by decide +kernel
theorem D246_4 : pgDecT 246 4 = some (.aload_n 0, 1) := by decide +kernel
theorem D246_5 : pgDecT 246 5 = some (.getfield 354, 3) := by decide +kernel
theorem F246_354 : pgFf 246 354 = some (12, 59, 0) := by decide +kernel
theorem D246_8 : pgDecT 246 8 = some (.if_icmp .ne 10, 3) := by decide +kernel
theorem D246_18 : pgDecT 246 18 = some (.aload_n 0, 1) := by decide +kernel
theorem D246_19 : pgDecT 246 19 = some (.dup, 1) := by decide +kernel
theorem D246_20 : pgDecT 246 20 = some (.getfield 351, 3) := by decide +kernel
theorem D246_23 : pgDecT 246 23 = some (.iconst 1, 1) := by decide +kernel
theorem D246_24 : pgDecT 246 24 = some (.iadd, 1) := by decide +kernel
theorem D246_25 : pgDecT 246 25 = some (.putfield 351, 3) := by decide +kernel
theorem D246_28 : pgDecT 246 28 = some (.iconst 1, 1) := by decide +kernel
theorem D246_29 : pgDecT 246 29 = some (.ireturn, 1) := by decide +kernel
theorem D246_11 : pgDecT 246 11 = some (.aload_n 0, 1) := by decide +kernel
theorem D246_12 : pgDecT 246 12 = some (.iconst 1, 1) := by decide +kernel
theorem D246_13 : pgDecT 246 13 = some (.putfield 357, 3) := by decide +kernel
theorem F246_357 : pgFf 246 357 = some (12, 60, 1) := by decide +kernel
theorem D246_16 : pgDecT 246 16 = some (.iconst 0, 1) := by decide +kernel
theorem D246_17 : pgDecT 246 17 = some (.ireturn, 1) := by decide +kernel
/-! 246: DictionaryHouseModel.step ()Z -/
def f246 (M : Mm) : Option (Int × Mm) := if ¬ (M 53 58) = (M 53 59) then (if rg ((M 53 58) + 1) then (some (1, (up M 53 58 ((M 53 58) + 1)))) else none) else (some (0, (up M 53 60 1)))
theorem c246 {L : Nat} {xs : Nat → Int32} {h : mvH} {M : Mm} {v : Int} {M' : Mm} (R : rp h M)  (hs : f246 M  = some (v, M')) : evx L xs 1 246 0 [(0, .inr (.inr (.inl (some 53))))] [] h (.inl (some (.inl v)), 0) M' := by
  unfold f246 at hs
  refine evx_F E246 D246_0 rfl rfl ?_
  refine evx_gfi (k := 58) E246 D246_1 F246_351 H53 rfl R ?_
  refine evx_F E246 D246_4 rfl rfl ?_
  refine evx_gfi (k := 59) E246 D246_5 F246_354 H53 rfl R ?_
  by_cases cb1 : ¬ (M 53 58) = (M 53 59)
  · rw [if_pos cb1] at hs
    refine evx_F E246 D246_8 rfl (ifT (c2_ne_T (R.1 53 58) (R.1 53 59) cb1)) ?_
    refine evx_F E246 D246_18 rfl rfl ?_
    refine evx_F E246 D246_19 rfl rfl ?_
    refine evx_gfi (k := 58) E246 D246_20 F246_351 H53 rfl R ?_
    refine evx_F E246 D246_23 rfl rfl ?_
    refine evx_add E246 D246_24 ?_
    obtain ⟨k2, hs⟩ := ck hs
    refine evx_pfi (k := 58) E246 D246_25 F246_351 H53 rfl R k2 rfl ?_
    intro h3 R4
    refine evx_F E246 D246_28 rfl rfl ?_
    cases hs
    exact evx_ret E246 D246_29 rfl (fun d => rfl) rfl (show rg _ from (by decide)) R4
  · rw [if_neg cb1] at hs
    refine evx_F E246 D246_8 rfl (ifF (c2_ne_F (R.1 53 58) (R.1 53 59) (by omega))) ?_
    refine evx_F E246 D246_11 rfl rfl ?_
    refine evx_F E246 D246_12 rfl rfl ?_
    refine evx_pfi (k := 60) E246 D246_13 F246_357 H53 rfl R (by decide) rfl ?_
    intro h5 R6
    refine evx_F E246 D246_16 rfl rfl ?_
    cases hs
    exact evx_ret E246 D246_17 rfl (fun d => rfl) rfl (show rg _ from (by decide)) R6
