/-! More methods as functions, printed by a program. -/
set_option maxRecDepth 20000 in
theorem E233 : pgMm 233 = some (⟨"DictionaryHouseModel", "typeOf", "(I)I"⟩, prog_14_method_46_code, 7, (some .int), []) := rfl
theorem D233_0 : pgDecT 233 0 = some (.iconst 0, 1) := by decide +kernel
theorem D233_1 : pgDecT 233 1 = some (.istore_n 2, 1) := by decide +kernel
theorem D233_2 : pgDecT 233 2 = some (.iload_n 2, 1) := by decide +kernel
theorem D233_3 : pgDecT 233 3 = some (.aload_n 0, 1) := by decide +kernel
theorem D233_4 : pgDecT 233 4 = some (.getfield 226, 3) := by decide +kernel
theorem F233_226 : pgFf 233 226 = some (12, 28, 0) := by decide +kernel
theorem D233_7 : pgDecT 233 7 = some (.if_icmp .ge 16, 3) := by decide +kernel
theorem D233_23 : pgDecT 233 23 = some (.iconst 1, 1) := by decide +kernel
theorem D233_24 : pgDecT 233 24 = some (.istore_n 2, 1) := by decide +kernel
theorem D233_25 : pgDecT 233 25 = some (.aload_n 0, 1) := by decide +kernel
theorem D233_26 : pgDecT 233 26 = some (.getfield 97, 3) := by decide +kernel
theorem F233_97 : pgFf 233 97 = some (12, 35, 3) := by decide +kernel
theorem D233_29 : pgDecT 233 29 = some (.iconst 0, 1) := by decide +kernel
theorem D233_30 : pgDecT 233 30 = some (.iload_n 1, 1) := by decide +kernel
theorem D233_31 : pgDecT 233 31 = some (.iastore, 1) := by decide +kernel
theorem D233_32 : pgDecT 233 32 = some (.iload_n 2, 1) := by decide +kernel
theorem D233_10 : pgDecT 233 10 = some (.aload_n 0, 1) := by decide +kernel
theorem D233_11 : pgDecT 233 11 = some (.getfield 94, 3) := by decide +kernel
theorem F233_94 : pgFf 233 94 = some (12, 34, 3) := by decide +kernel
theorem D233_14 : pgDecT 233 14 = some (.iload_n 2, 1) := by decide +kernel
theorem D233_15 : pgDecT 233 15 = some (.iconst (-1), 1) := by decide +kernel
theorem D233_16 : pgDecT 233 16 = some (.iastore, 1) := by decide +kernel
theorem D233_17 : pgDecT 233 17 = some (.iinc 2 1, 3) := by decide +kernel
theorem D233_20 : pgDecT 233 20 = some (.goto (-18), 3) := by decide +kernel
theorem D233_33 : pgDecT 233 33 = some (.ifCond .le 248, 3) := by decide +kernel
theorem D233_281 : pgDecT 233 281 = some (.aload_n 0, 1) := by decide +kernel
theorem D233_282 : pgDecT 233 282 = some (.getfield 94, 3) := by decide +kernel
theorem D233_285 : pgDecT 233 285 = some (.aload_n 0, 1) := by decide +kernel
theorem D233_286 : pgDecT 233 286 = some (.iload_n 1, 1) := by decide +kernel
theorem D233_287 : pgDecT 233 287 = some (.invokevirtual 240, 3) := by decide +kernel
theorem I233_240 : pgIi 233 240 = some (217, 1, 12) := by decide +kernel
theorem D233_290 : pgDecT 233 290 = some (.iaload, 1) := by decide +kernel
theorem D233_291 : pgDecT 233 291 = some (.ireturn, 1) := by decide +kernel
theorem D233_36 : pgDecT 233 36 = some (.aload_n 0, 1) := by decide +kernel
theorem D233_37 : pgDecT 233 37 = some (.aload_n 0, 1) := by decide +kernel
theorem D233_38 : pgDecT 233 38 = some (.getfield 97, 3) := by decide +kernel
theorem D233_41 : pgDecT 233 41 = some (.iload_n 2, 1) := by decide +kernel
theorem D233_42 : pgDecT 233 42 = some (.iconst 1, 1) := by decide +kernel
theorem D233_43 : pgDecT 233 43 = some (.isub, 1) := by decide +kernel
theorem D233_44 : pgDecT 233 44 = some (.iaload, 1) := by decide +kernel
theorem D233_45 : pgDecT 233 45 = some (.invokevirtual 240, 3) := by decide +kernel
theorem D233_48 : pgDecT 233 48 = some (.istore_n 3, 1) := by decide +kernel
theorem D233_49 : pgDecT 233 49 = some (.aload_n 0, 1) := by decide +kernel
theorem D233_50 : pgDecT 233 50 = some (.getfield 79, 3) := by decide +kernel
theorem F233_79 : pgFf 233 79 = some (12, 29, 3) := by decide +kernel
theorem D233_53 : pgDecT 233 53 = some (.iload_n 3, 1) := by decide +kernel
theorem D233_54 : pgDecT 233 54 = some (.iaload, 1) := by decide +kernel
theorem D233_55 : pgDecT 233 55 = some (.iconst 3, 1) := by decide +kernel
theorem D233_56 : pgDecT 233 56 = some (.if_icmp .eq 13, 3) := by decide +kernel
theorem D233_69 : pgDecT 233 69 = some (.aload_n 0, 1) := by decide +kernel
theorem D233_70 : pgDecT 233 70 = some (.aload_n 0, 1) := by decide +kernel
theorem D233_71 : pgDecT 233 71 = some (.getfield 82, 3) := by decide +kernel
theorem F233_82 : pgFf 233 82 = some (12, 30, 3) := by decide +kernel
theorem D233_74 : pgDecT 233 74 = some (.iload_n 3, 1) := by decide +kernel
theorem D233_75 : pgDecT 233 75 = some (.iaload, 1) := by decide +kernel
theorem D233_76 : pgDecT 233 76 = some (.invokevirtual 240, 3) := by decide +kernel
theorem D233_79 : pgDecT 233 79 = some (.goto 4, 3) := by decide +kernel
theorem D233_83 : pgDecT 233 83 = some (.istore 4, 2) := by decide +kernel
theorem D233_85 : pgDecT 233 85 = some (.aload_n 0, 1) := by decide +kernel
theorem D233_86 : pgDecT 233 86 = some (.getfield 79, 3) := by decide +kernel
theorem D233_89 : pgDecT 233 89 = some (.iload_n 3, 1) := by decide +kernel
theorem D233_90 : pgDecT 233 90 = some (.iaload, 1) := by decide +kernel
theorem D233_91 : pgDecT 233 91 = some (.iconst 4, 1) := by decide +kernel
theorem D233_92 : pgDecT 233 92 = some (.if_icmp .ne 16, 3) := by decide +kernel
theorem D233_108 : pgDecT 233 108 = some (.iconst (-1), 1) := by decide +kernel
theorem D233_109 : pgDecT 233 109 = some (.istore 5, 2) := by decide +kernel
theorem D233_111 : pgDecT 233 111 = some (.aload_n 0, 1) := by decide +kernel
theorem D233_112 : pgDecT 233 112 = some (.getfield 94, 3) := by decide +kernel
theorem D233_115 : pgDecT 233 115 = some (.iload_n 3, 1) := by decide +kernel
theorem D233_116 : pgDecT 233 116 = some (.iaload, 1) := by decide +kernel
theorem D233_117 : pgDecT 233 117 = some (.iconst (-1), 1) := by decide +kernel
theorem D233_118 : pgDecT 233 118 = some (.if_icmp .eq 9, 3) := by decide +kernel
theorem D233_127 : pgDecT 233 127 = some (.iload 4, 2) := by decide +kernel
theorem D233_129 : pgDecT 233 129 = some (.iconst (-1), 1) := by decide +kernel
theorem D233_130 : pgDecT 233 130 = some (.if_icmp .eq 28, 3) := by decide +kernel
theorem D233_158 : pgDecT 233 158 = some (.iload 5, 2) := by decide +kernel
theorem D233_160 : pgDecT 233 160 = some (.iconst (-1), 1) := by decide +kernel
theorem D233_161 : pgDecT 233 161 = some (.if_icmp .eq 28, 3) := by decide +kernel
theorem D233_189 : pgDecT 233 189 = some (.aload_n 0, 1) := by decide +kernel
theorem D233_190 : pgDecT 233 190 = some (.getfield 79, 3) := by decide +kernel
theorem D233_193 : pgDecT 233 193 = some (.iload_n 3, 1) := by decide +kernel
theorem D233_194 : pgDecT 233 194 = some (.iaload, 1) := by decide +kernel
theorem D233_195 : pgDecT 233 195 = some (.iconst 2, 1) := by decide +kernel
theorem D233_196 : pgDecT 233 196 = some (.if_icmp .ne 13, 3) := by decide +kernel
theorem D233_209 : pgDecT 233 209 = some (.aload_n 0, 1) := by decide +kernel
theorem D233_210 : pgDecT 233 210 = some (.getfield 79, 3) := by decide +kernel
theorem D233_213 : pgDecT 233 213 = some (.iload_n 3, 1) := by decide +kernel
theorem D233_214 : pgDecT 233 214 = some (.iaload, 1) := by decide +kernel
theorem D233_215 : pgDecT 233 215 = some (.istore 6, 2) := by decide +kernel
theorem D233_217 : pgDecT 233 217 = some (.iload 4, 2) := by decide +kernel
theorem D233_219 : pgDecT 233 219 = some (.iconst (-1), 1) := by decide +kernel
theorem D233_220 : pgDecT 233 220 = some (.if_icmp .eq 39, 3) := by decide +kernel
theorem D233_259 : pgDecT 233 259 = some (.iload 6, 2) := by decide +kernel
theorem D233_261 : pgDecT 233 261 = some (.iconst (-1), 1) := by decide +kernel
theorem D233_262 : pgDecT 233 262 = some (.if_icmp .ne 5, 3) := by decide +kernel
theorem D233_267 : pgDecT 233 267 = some (.aload_n 0, 1) := by decide +kernel
theorem D233_268 : pgDecT 233 268 = some (.getfield 94, 3) := by decide +kernel
theorem D233_271 : pgDecT 233 271 = some (.iload_n 3, 1) := by decide +kernel
theorem D233_272 : pgDecT 233 272 = some (.iload 6, 2) := by decide +kernel
theorem D233_274 : pgDecT 233 274 = some (.iastore, 1) := by decide +kernel
theorem D233_275 : pgDecT 233 275 = some (.iinc 2 (-1), 3) := by decide +kernel
theorem D233_278 : pgDecT 233 278 = some (.goto (-246), 3) := by decide +kernel
theorem D233_265 : pgDecT 233 265 = some (.iconst (-1), 1) := by decide +kernel
theorem D233_266 : pgDecT 233 266 = some (.ireturn, 1) := by decide +kernel
theorem D233_223 : pgDecT 233 223 = some (.aload_n 0, 1) := by decide +kernel
theorem D233_224 : pgDecT 233 224 = some (.aload_n 0, 1) := by decide +kernel
theorem D233_225 : pgDecT 233 225 = some (.getfield 79, 3) := by decide +kernel
theorem D233_228 : pgDecT 233 228 = some (.iload_n 3, 1) := by decide +kernel
theorem D233_229 : pgDecT 233 229 = some (.iaload, 1) := by decide +kernel
theorem D233_230 : pgDecT 233 230 = some (.aload_n 0, 1) := by decide +kernel
theorem D233_231 : pgDecT 233 231 = some (.getfield 94, 3) := by decide +kernel
theorem D233_234 : pgDecT 233 234 = some (.iload 4, 2) := by decide +kernel
theorem D233_236 : pgDecT 233 236 = some (.iaload, 1) := by decide +kernel
theorem D233_237 : pgDecT 233 237 = some (.iload 5, 2) := by decide +kernel
theorem D233_239 : pgDecT 233 239 = some (.iconst (-1), 1) := by decide +kernel
theorem D233_240 : pgDecT 233 240 = some (.if_icmp .ne 7, 3) := by decide +kernel
theorem D233_243 : pgDecT 233 243 = some (.iconst 0, 1) := by decide +kernel
theorem D233_244 : pgDecT 233 244 = some (.goto 10, 3) := by decide +kernel
theorem D233_254 : pgDecT 233 254 = some (.invokevirtual 193, 3) := by decide +kernel
theorem I233_193 : pgIi 233 193 = some (191, 3, 12) := by decide +kernel
theorem D233_257 : pgDecT 233 257 = some (.istore 6, 2) := by decide +kernel
theorem D233_199 : pgDecT 233 199 = some (.iconst 2, 1) := by decide +kernel
theorem D233_200 : pgDecT 233 200 = some (.aload_n 0, 1) := by decide +kernel
theorem D233_201 : pgDecT 233 201 = some (.iload_n 3, 1) := by decide +kernel
theorem D233_202 : pgDecT 233 202 = some (.invokevirtual 298, 3) := by decide +kernel
theorem I233_298 : pgIi 233 298 = some (230, 1, 12) := by decide +kernel
theorem D233_205 : pgDecT 233 205 = some (.iadd, 1) := by decide +kernel
theorem D233_206 : pgDecT 233 206 = some (.goto 9, 3) := by decide +kernel
theorem D233_133 : pgDecT 233 133 = some (.aload_n 0, 1) := by decide +kernel
theorem D233_134 : pgDecT 233 134 = some (.getfield 94, 3) := by decide +kernel
theorem D233_137 : pgDecT 233 137 = some (.iload 4, 2) := by decide +kernel
theorem D233_139 : pgDecT 233 139 = some (.iaload, 1) := by decide +kernel
theorem D233_140 : pgDecT 233 140 = some (.iconst (-1), 1) := by decide +kernel
theorem D233_141 : pgDecT 233 141 = some (.if_icmp .ne 17, 3) := by decide +kernel
theorem D233_144 : pgDecT 233 144 = some (.aload_n 0, 1) := by decide +kernel
theorem D233_145 : pgDecT 233 145 = some (.getfield 97, 3) := by decide +kernel
theorem D233_148 : pgDecT 233 148 = some (.iload_n 2, 1) := by decide +kernel
theorem D233_149 : pgDecT 233 149 = some (.iload 4, 2) := by decide +kernel
theorem D233_151 : pgDecT 233 151 = some (.iastore, 1) := by decide +kernel
theorem D233_152 : pgDecT 233 152 = some (.iinc 2 1, 3) := by decide +kernel
theorem D233_155 : pgDecT 233 155 = some (.goto 123, 3) := by decide +kernel
theorem D233_121 : pgDecT 233 121 = some (.iinc 2 (-1), 3) := by decide +kernel
theorem D233_124 : pgDecT 233 124 = some (.goto 154, 3) := by decide +kernel
theorem D233_95 : pgDecT 233 95 = some (.aload_n 0, 1) := by decide +kernel
theorem D233_96 : pgDecT 233 96 = some (.aload_n 0, 1) := by decide +kernel
theorem D233_97 : pgDecT 233 97 = some (.getfield 85, 3) := by decide +kernel
theorem F233_85 : pgFf 233 85 = some (12, 31, 3) := by decide +kernel
theorem D233_100 : pgDecT 233 100 = some (.iload_n 3, 1) := by decide +kernel
theorem D233_101 : pgDecT 233 101 = some (.iaload, 1) := by decide +kernel
theorem D233_102 : pgDecT 233 102 = some (.invokevirtual 240, 3) := by decide +kernel
theorem D233_105 : pgDecT 233 105 = some (.goto 4, 3) := by decide +kernel
theorem D233_247 : pgDecT 233 247 = some (.aload_n 0, 1) := by decide +kernel
theorem D233_248 : pgDecT 233 248 = some (.getfield 94, 3) := by decide +kernel
theorem D233_251 : pgDecT 233 251 = some (.iload 5, 2) := by decide +kernel
theorem D233_253 : pgDecT 233 253 = some (.iaload, 1) := by decide +kernel
theorem D233_164 : pgDecT 233 164 = some (.aload_n 0, 1) := by decide +kernel
theorem D233_165 : pgDecT 233 165 = some (.getfield 94, 3) := by decide +kernel
theorem D233_168 : pgDecT 233 168 = some (.iload 5, 2) := by decide +kernel
theorem D233_170 : pgDecT 233 170 = some (.iaload, 1) := by decide +kernel
theorem D233_171 : pgDecT 233 171 = some (.iconst (-1), 1) := by decide +kernel
theorem D233_172 : pgDecT 233 172 = some (.if_icmp .ne 17, 3) := by decide +kernel
theorem D233_175 : pgDecT 233 175 = some (.aload_n 0, 1) := by decide +kernel
theorem D233_176 : pgDecT 233 176 = some (.getfield 97, 3) := by decide +kernel
theorem D233_179 : pgDecT 233 179 = some (.iload_n 2, 1) := by decide +kernel
theorem D233_180 : pgDecT 233 180 = some (.iload 5, 2) := by decide +kernel
theorem D233_182 : pgDecT 233 182 = some (.iastore, 1) := by decide +kernel
theorem D233_183 : pgDecT 233 183 = some (.iinc 2 1, 3) := by decide +kernel
theorem D233_186 : pgDecT 233 186 = some (.goto 92, 3) := by decide +kernel
theorem D233_59 : pgDecT 233 59 = some (.aload_n 0, 1) := by decide +kernel
theorem D233_60 : pgDecT 233 60 = some (.getfield 79, 3) := by decide +kernel
theorem D233_63 : pgDecT 233 63 = some (.iload_n 3, 1) := by decide +kernel
theorem D233_64 : pgDecT 233 64 = some (.iaload, 1) := by decide +kernel
theorem D233_65 : pgDecT 233 65 = some (.iconst 4, 1) := by decide +kernel
theorem D233_66 : pgDecT 233 66 = some (.if_icmp .ne 16, 3) := by decide +kernel
theorem D233_82 : pgDecT 233 82 = some (.iconst (-1), 1) := by decide +kernel
/-! 233: DictionaryHouseModel.typeOf (I)I -/
def l233 : Nat → Nat → Mm → Int → Int → Int → Int → Int → Int → Option (Int × Mm)
  | 0, _, _, _, _, _, _, _, _ => none
  | f + 1, 2, M, x1, x2, _, _, _, _ => if (M 53 28) ≤ x2 then (l233 f 32 (up M 82 (Int.toNat 0) x1) x1 1 0 0 0 0) else (if 0 ≤ x2 ∧ x2 < 4000 then (if rg (x2 + 1) then (l233 f 2 (up M 81 (Int.toNat x2) (-1)) x1 (x2 + 1) 0 0 0 0) else none) else none)
  | f + 1, 32, M, x1, x2, _, _, _, _ => if x2 ≤ 0 then (f217 M x1).bind (fun q10 => if 0 ≤ q10 ∧ q10 < 4000 then (some ((M 81 (Int.toNat q10)), M)) else none) else (if 0 ≤ (x2 - 1) ∧ (x2 - 1) < 16000 then (f217 M (M 82 (Int.toNat (x2 - 1)))).bind (fun q17 => if 0 ≤ q17 ∧ q17 < 4000 then (if (M 76 (Int.toNat q17)) = 3 then (l233 f 69 M x1 x2 q17 0 0 0) else (if ¬ (M 76 (Int.toNat q17)) = 4 then (l233 f 85 M x1 x2 q17 (-1) 0 0) else (l233 f 69 M x1 x2 q17 0 0 0))) else none) else none)
  | f + 1, 69, M, x1, x2, x3, _, _, _ => if 0 ≤ x3 ∧ x3 < 4000 then (f217 M (M 77 (Int.toNat x3))).bind (fun q26 => l233 f 85 M x1 x2 x3 q26 0 0) else none
  | f + 1, 85, M, x1, x2, x3, x4, _, _ => if 0 ≤ x3 ∧ x3 < 4000 then (if ¬ (M 76 (Int.toNat x3)) = 4 then (l233 f 111 M x1 x2 x3 x4 (-1) 0) else (f217 M (M 78 (Int.toNat x3))).bind (fun q33 => l233 f 111 M x1 x2 x3 x4 q33 0)) else none
  | f + 1, 111, M, x1, x2, x3, x4, x5, _ => if 0 ≤ x3 ∧ x3 < 4000 then (if (M 81 (Int.toNat x3)) = (-1) then (if x4 = (-1) then (l233 f 158 M x1 x2 x3 x4 x5 0) else (if 0 ≤ x4 ∧ x4 < 4000 then (if ¬ (M 81 (Int.toNat x4)) = (-1) then (l233 f 158 M x1 x2 x3 x4 x5 0) else (if 0 ≤ x2 ∧ x2 < 16000 then (if rg (x2 + 1) then (l233 f 278 (up M 82 (Int.toNat x2) x4) x1 (x2 + 1) x3 x4 x5 0) else none) else none)) else none)) else (if rg (x2 + (-1)) then (l233 f 278 M x1 (x2 + (-1)) x3 x4 x5 0) else none)) else none
  | f + 1, 158, M, x1, x2, x3, x4, x5, _ => if x5 = (-1) then (l233 f 189 M x1 x2 x3 x4 x5 0) else (if 0 ≤ x5 ∧ x5 < 4000 then (if ¬ (M 81 (Int.toNat x5)) = (-1) then (l233 f 189 M x1 x2 x3 x4 x5 0) else (if 0 ≤ x2 ∧ x2 < 16000 then (if rg (x2 + 1) then (l233 f 278 (up M 82 (Int.toNat x2) x5) x1 (x2 + 1) x3 x4 x5 0) else none) else none)) else none)
  | f + 1, 278, M, x1, x2, x3, x4, x5, _ => l233 f 32 M x1 x2 0 0 0 0
  | f + 1, 189, M, x1, x2, x3, x4, x5, _ => if 0 ≤ x3 ∧ x3 < 4000 then (if ¬ (M 76 (Int.toNat x3)) = 2 then (l233 f 217 M x1 x2 x3 x4 x5 (M 76 (Int.toNat x3))) else (f230 M x3).bind (fun q57 => if rg ((2 : Int) + q57) then (l233 f 217 M x1 x2 x3 x4 x5 ((2 : Int) + q57)) else none)) else none
  | f + 1, 217, M, x1, x2, x3, x4, x5, x6 => if x4 = (-1) then (l233 f 259 M x1 x2 x3 x4 x5 x6) else (if 0 ≤ x3 ∧ x3 < 4000 then (if 0 ≤ x4 ∧ x4 < 4000 then (if ¬ x5 = (-1) then (if 0 ≤ x5 ∧ x5 < 4000 then (f191 M (M 76 (Int.toNat x3)) (M 81 (Int.toNat x4)) (M 81 (Int.toNat x5))).bind (fun zq68 => l233 f 259 zq68.2 x1 x2 x3 x4 x5 zq68.1) else none) else (f191 M (M 76 (Int.toNat x3)) (M 81 (Int.toNat x4)) 0).bind (fun zq74 => l233 f 259 zq74.2 x1 x2 x3 x4 x5 zq74.1)) else none) else none)
  | f + 1, 259, M, x1, x2, x3, x4, x5, x6 => if ¬ x6 = (-1) then (if 0 ≤ x3 ∧ x3 < 4000 then (if rg (x2 + (-1)) then (l233 f 278 (up M 81 (Int.toNat x3) x6) x1 (x2 + (-1)) x3 x4 x5 0) else none) else none) else (some ((-1), M))
  | _, _, _, _, _, _, _, _, _ => none
theorem d233 {L : Nat} {xs : Nat → Int32} (f : Nat) : (∀ (M : Mm) (x1 x2 : Int) (h : mvH) (v : Int) (M' : Mm), l233 f 2 M x1 x2 0 0 0 0 = some (v, M') → rp h M → rg x1 → rg x2 → evx L xs 3 233 2 [(0, .inr (.inr (.inl (some 53)))), (1, .inl (iz x1)), (2, .inl (iz x2))] [] h (.inl (some (.inl v)), 0) M') ∧ (∀ (M : Mm) (x1 x2 : Int) (h : mvH) (v : Int) (M' : Mm), l233 f 32 M x1 x2 0 0 0 0 = some (v, M') → rp h M → rg x1 → rg x2 → evx L xs 3 233 32 [(0, .inr (.inr (.inl (some 53)))), (1, .inl (iz x1)), (2, .inl (iz x2))] [] h (.inl (some (.inl v)), 0) M') ∧ (∀ (M : Mm) (x1 x2 x3 : Int) (h : mvH) (v : Int) (M' : Mm), l233 f 69 M x1 x2 x3 0 0 0 = some (v, M') → rp h M → rg x1 → rg x2 → rg x3 → evx L xs 3 233 69 [(0, .inr (.inr (.inl (some 53)))), (1, .inl (iz x1)), (2, .inl (iz x2)), (3, .inl (iz x3))] [] h (.inl (some (.inl v)), 0) M') ∧ (∀ (M : Mm) (x1 x2 x3 x4 : Int) (h : mvH) (v : Int) (M' : Mm), l233 f 85 M x1 x2 x3 x4 0 0 = some (v, M') → rp h M → rg x1 → rg x2 → rg x3 → rg x4 → evx L xs 3 233 85 [(0, .inr (.inr (.inl (some 53)))), (1, .inl (iz x1)), (2, .inl (iz x2)), (3, .inl (iz x3)), (4, .inl (iz x4))] [] h (.inl (some (.inl v)), 0) M') ∧ (∀ (M : Mm) (x1 x2 x3 x4 x5 : Int) (h : mvH) (v : Int) (M' : Mm), l233 f 111 M x1 x2 x3 x4 x5 0 = some (v, M') → rp h M → rg x1 → rg x2 → rg x3 → rg x4 → rg x5 → evx L xs 3 233 111 [(0, .inr (.inr (.inl (some 53)))), (1, .inl (iz x1)), (2, .inl (iz x2)), (3, .inl (iz x3)), (4, .inl (iz x4)), (5, .inl (iz x5))] [] h (.inl (some (.inl v)), 0) M') ∧ (∀ (M : Mm) (x1 x2 x3 x4 x5 : Int) (h : mvH) (v : Int) (M' : Mm), l233 f 158 M x1 x2 x3 x4 x5 0 = some (v, M') → rp h M → rg x1 → rg x2 → rg x3 → rg x4 → rg x5 → evx L xs 3 233 158 [(0, .inr (.inr (.inl (some 53)))), (1, .inl (iz x1)), (2, .inl (iz x2)), (3, .inl (iz x3)), (4, .inl (iz x4)), (5, .inl (iz x5))] [] h (.inl (some (.inl v)), 0) M') ∧ (∀ (M : Mm) (x1 x2 x3 x4 x5 : Int) (h : mvH) (v : Int) (M' : Mm), l233 f 278 M x1 x2 x3 x4 x5 0 = some (v, M') → rp h M → rg x1 → rg x2 → rg x3 → rg x4 → rg x5 → evx L xs 3 233 278 [(0, .inr (.inr (.inl (some 53)))), (1, .inl (iz x1)), (2, .inl (iz x2)), (3, .inl (iz x3)), (4, .inl (iz x4)), (5, .inl (iz x5))] [] h (.inl (some (.inl v)), 0) M') ∧ (∀ (M : Mm) (x1 x2 x3 x4 x5 : Int) (h : mvH) (v : Int) (M' : Mm), l233 f 189 M x1 x2 x3 x4 x5 0 = some (v, M') → rp h M → rg x1 → rg x2 → rg x3 → rg x4 → rg x5 → evx L xs 3 233 189 [(0, .inr (.inr (.inl (some 53)))), (1, .inl (iz x1)), (2, .inl (iz x2)), (3, .inl (iz x3)), (4, .inl (iz x4)), (5, .inl (iz x5))] [] h (.inl (some (.inl v)), 0) M') ∧ (∀ (M : Mm) (x1 x2 x3 x4 x5 x6 : Int) (h : mvH) (v : Int) (M' : Mm), l233 f 217 M x1 x2 x3 x4 x5 x6 = some (v, M') → rp h M → rg x1 → rg x2 → rg x3 → rg x4 → rg x5 → rg x6 → evx L xs 3 233 217 [(0, .inr (.inr (.inl (some 53)))), (1, .inl (iz x1)), (2, .inl (iz x2)), (3, .inl (iz x3)), (4, .inl (iz x4)), (5, .inl (iz x5)), (6, .inl (iz x6))] [] h (.inl (some (.inl v)), 0) M') ∧ (∀ (M : Mm) (x1 x2 x3 x4 x5 x6 : Int) (h : mvH) (v : Int) (M' : Mm), l233 f 259 M x1 x2 x3 x4 x5 x6 = some (v, M') → rp h M → rg x1 → rg x2 → rg x3 → rg x4 → rg x5 → rg x6 → evx L xs 3 233 259 [(0, .inr (.inr (.inl (some 53)))), (1, .inl (iz x1)), (2, .inl (iz x2)), (3, .inl (iz x3)), (4, .inl (iz x4)), (5, .inl (iz x5)), (6, .inl (iz x6))] [] h (.inl (some (.inl v)), 0) M') := by
  induction f with
  | zero => exact ⟨(fun M x1 x2 h v M' hs _ _ _ => by cases hs), (fun M x1 x2 h v M' hs _ _ _ => by cases hs), (fun M x1 x2 x3 h v M' hs _ _ _ _ => by cases hs), (fun M x1 x2 x3 x4 h v M' hs _ _ _ _ _ => by cases hs), (fun M x1 x2 x3 x4 x5 h v M' hs _ _ _ _ _ _ => by cases hs), (fun M x1 x2 x3 x4 x5 h v M' hs _ _ _ _ _ _ => by cases hs), (fun M x1 x2 x3 x4 x5 h v M' hs _ _ _ _ _ _ => by cases hs), (fun M x1 x2 x3 x4 x5 h v M' hs _ _ _ _ _ _ => by cases hs), (fun M x1 x2 x3 x4 x5 x6 h v M' hs _ _ _ _ _ _ _ => by cases hs), (fun M x1 x2 x3 x4 x5 x6 h v M' hs _ _ _ _ _ _ _ => by cases hs)⟩
  | succ f ih =>
    refine ⟨?_, ?_, ?_, ?_, ?_, ?_, ?_, ?_, ?_, ?_⟩
    · intro M x1 x2 h v M' hs R rx1 rx2
      rw [l233] at hs
      refine evx_F E233 D233_2 rfl rfl ?_
      refine evx_F E233 D233_3 rfl rfl ?_
      refine evx_gfi (k := 28) E233 D233_4 F233_226 H53 rfl R ?_
      by_cases cb1 : (M 53 28) ≤ x2
      · rw [if_pos cb1] at hs
        refine evx_F E233 D233_7 rfl (ifT (c2_ge_T rx2 (R.1 53 28) cb1)) ?_
        refine evx_F E233 D233_23 rfl rfl ?_
        refine evx_F E233 D233_24 rfl rfl ?_
        refine evx_F E233 D233_25 rfl rfl ?_
        refine evx_gfr E233 D233_26 F233_97 H53 rfl R ?_
        refine evx_F E233 D233_29 rfl rfl ?_
        refine evx_F E233 D233_30 rfl rfl ?_
        refine evx_ias E233 D233_31 H82 (by decide) R (by decide) rx1 ?_
        intro h2 R3
        show evx _ _ _ _ _ [(2, .inl (iz 1)), (0, .inr (.inr (.inl (some 53)))), (1, .inl (iz x1))] _ _ _ _
        exact evx_lv (lvLe_mk (fm rfl (fm rfl (fm rfl fn))) (fm rfl (fm rfl (fm rfl fn))) (fm rfl (fm rfl (fm rfl fn)))) (ih.2.1 _ _ _ _ _ _ hs R3 rx1 (by decide))
      · rw [if_neg cb1] at hs
        refine evx_F E233 D233_7 rfl (ifF (c2_ge_F rx2 (R.1 53 28) (by omega))) ?_
        refine evx_F E233 D233_10 rfl rfl ?_
        refine evx_gfr E233 D233_11 F233_94 H53 rfl R ?_
        refine evx_F E233 D233_14 rfl rfl ?_
        refine evx_F E233 D233_15 rfl rfl ?_
        obtain ⟨k4, hs⟩ := ck hs
        refine evx_ias E233 D233_16 H81 (by decide) R k4 (by decide) ?_
        intro h5 R6
        refine evx_inc E233 D233_17 (Nat.le_of_ble_eq_true rfl) rfl ?_
        refine evx_F E233 D233_20 rfl rfl ?_
        obtain ⟨k7, hs⟩ := ck hs
        show evx _ _ _ _ _ [(2, .inl (iz (x2 + 1))), (0, .inr (.inr (.inl (some 53)))), (1, .inl (iz x1))] _ _ _ _
        exact evx_lv (lvLe_mk (fm rfl (fm rfl (fm rfl fn))) (fm rfl (fm rfl (fm rfl fn))) (fm rfl (fm rfl (fm rfl fn)))) (ih.1 _ _ _ _ _ _ hs R6 rx1 k7)
    · intro M x1 x2 h v M' hs R rx1 rx2
      rw [l233] at hs
      refine evx_F E233 D233_32 rfl rfl ?_
      by_cases cb8 : x2 ≤ 0
      · rw [if_pos cb8] at hs
        refine evx_F E233 D233_33 rfl (ifT (c1_le_T rx2 cb8)) ?_
        refine evx_F E233 D233_281 rfl rfl ?_
        refine evx_gfr E233 D233_282 F233_94 H53 rfl R ?_
        refine evx_F E233 D233_285 rfl rfl ?_
        refine evx_F E233 D233_286 rfl rfl ?_
        obtain ⟨q10, e9, hs⟩ := Option.bind_eq_some_iff.mp hs
        refine evx_cv (D := 2) E233 D233_287 I233_240 rfl rfl H53 ⟨Nat.le_of_ble_eq_true rfl, Nat.le_of_ble_eq_true rfl⟩ ⟨rfl, Nat.le_of_ble_eq_true rfl⟩ rfl R (evx_up (Nat.le_of_ble_eq_true rfl) (c217 R rx1 e9)) ?_
        intro h11 R12 w13
        have w13 : rg q10 := w13
        show evx _ _ _ _ _ _ (.inl (iz q10) :: _) _ _ _
        obtain ⟨k14, hs⟩ := ck hs
        refine evx_ial E233 D233_290 H81 (by decide) R12 k14 ?_
        cases hs
        exact evx_ret E233 D233_291 rfl (fun d => rfl) rfl (show rg _ from (R12.1 81 (Int.toNat q10))) R12
      · rw [if_neg cb8] at hs
        refine evx_F E233 D233_33 rfl (ifF (c1_le_F rx2 (by omega))) ?_
        refine evx_F E233 D233_36 rfl rfl ?_
        refine evx_F E233 D233_37 rfl rfl ?_
        refine evx_gfr E233 D233_38 F233_97 H53 rfl R ?_
        refine evx_F E233 D233_41 rfl rfl ?_
        refine evx_F E233 D233_42 rfl rfl ?_
        refine evx_sub E233 D233_43 ?_
        obtain ⟨k15, hs⟩ := ck hs
        refine evx_ial E233 D233_44 H82 (by decide) R k15 ?_
        obtain ⟨q17, e16, hs⟩ := Option.bind_eq_some_iff.mp hs
        refine evx_cv (D := 2) E233 D233_45 I233_240 rfl rfl H53 ⟨Nat.le_of_ble_eq_true rfl, Nat.le_of_ble_eq_true rfl⟩ ⟨rfl, Nat.le_of_ble_eq_true rfl⟩ rfl R (evx_up (Nat.le_of_ble_eq_true rfl) (c217 R (R.1 82 (Int.toNat (x2 - 1))) e16)) ?_
        intro h18 R19 w20
        have w20 : rg q17 := w20
        show evx _ _ _ _ _ _ (.inl (iz q17) :: _) _ _ _
        refine evx_F E233 D233_48 rfl rfl ?_
        refine evx_F E233 D233_49 rfl rfl ?_
        refine evx_gfr E233 D233_50 F233_79 H53 rfl R19 ?_
        refine evx_F E233 D233_53 rfl rfl ?_
        obtain ⟨k21, hs⟩ := ck hs
        refine evx_ial E233 D233_54 H76 (by decide) R19 k21 ?_
        refine evx_F E233 D233_55 rfl rfl ?_
        by_cases cb22 : (M 76 (Int.toNat q17)) = 3
        · rw [if_pos cb22] at hs
          refine evx_F E233 D233_56 rfl (ifT (c2_eq_T (R19.1 76 (Int.toNat q17)) (by decide) cb22)) ?_
          show evx _ _ _ _ _ [(3, .inl (iz q17)), (0, .inr (.inr (.inl (some 53)))), (1, .inl (iz x1)), (2, .inl (iz x2))] _ _ _ _
          exact evx_lv (lvLe_mk (fm rfl (fm rfl (fm rfl (fm rfl fn)))) (fm rfl (fm rfl (fm rfl (fm rfl fn)))) (fm rfl (fm rfl (fm rfl (fm rfl fn))))) (ih.2.2.1 _ _ _ _ _ _ _ hs R19 rx1 rx2 w20)
        · rw [if_neg cb22] at hs
          refine evx_F E233 D233_56 rfl (ifF (c2_eq_F (R19.1 76 (Int.toNat q17)) (by decide) (by omega))) ?_
          refine evx_F E233 D233_59 rfl rfl ?_
          refine evx_gfr E233 D233_60 F233_79 H53 rfl R19 ?_
          refine evx_F E233 D233_63 rfl rfl ?_
          refine evx_ial E233 D233_64 H76 (by decide) R19 k21 ?_
          refine evx_F E233 D233_65 rfl rfl ?_
          by_cases cb23 : ¬ (M 76 (Int.toNat q17)) = 4
          · rw [if_pos cb23] at hs
            refine evx_F E233 D233_66 rfl (ifT (c2_ne_T (R19.1 76 (Int.toNat q17)) (by decide) cb23)) ?_
            refine evx_F E233 D233_82 rfl rfl ?_
            refine evx_F E233 D233_83 rfl rfl ?_
            show evx _ _ _ _ _ [(4, .inl (iz (-1))), (3, .inl (iz q17)), (0, .inr (.inr (.inl (some 53)))), (1, .inl (iz x1)), (2, .inl (iz x2))] _ _ _ _
            exact evx_lv (lvLe_mk (fm rfl (fm rfl (fm rfl (fm rfl (fm rfl fn))))) (fm rfl (fm rfl (fm rfl (fm rfl (fm rfl fn))))) (fm rfl (fm rfl (fm rfl (fm rfl (fm rfl fn)))))) (ih.2.2.2.1 _ _ _ _ _ _ _ _ hs R19 rx1 rx2 w20 (by decide))
          · rw [if_neg cb23] at hs
            refine evx_F E233 D233_66 rfl (ifF (c2_ne_F (R19.1 76 (Int.toNat q17)) (by decide) (by omega))) ?_
            show evx _ _ _ _ _ [(3, .inl (iz q17)), (0, .inr (.inr (.inl (some 53)))), (1, .inl (iz x1)), (2, .inl (iz x2))] _ _ _ _
            exact evx_lv (lvLe_mk (fm rfl (fm rfl (fm rfl (fm rfl fn)))) (fm rfl (fm rfl (fm rfl (fm rfl fn)))) (fm rfl (fm rfl (fm rfl (fm rfl fn))))) (ih.2.2.1 _ _ _ _ _ _ _ hs R19 rx1 rx2 w20)
    · intro M x1 x2 x3 h v M' hs R rx1 rx2 rx3
      rw [l233] at hs
      refine evx_F E233 D233_69 rfl rfl ?_
      refine evx_F E233 D233_70 rfl rfl ?_
      refine evx_gfr E233 D233_71 F233_82 H53 rfl R ?_
      refine evx_F E233 D233_74 rfl rfl ?_
      obtain ⟨k24, hs⟩ := ck hs
      refine evx_ial E233 D233_75 H77 (by decide) R k24 ?_
      obtain ⟨q26, e25, hs⟩ := Option.bind_eq_some_iff.mp hs
      refine evx_cv (D := 2) E233 D233_76 I233_240 rfl rfl H53 ⟨Nat.le_of_ble_eq_true rfl, Nat.le_of_ble_eq_true rfl⟩ ⟨rfl, Nat.le_of_ble_eq_true rfl⟩ rfl R (evx_up (Nat.le_of_ble_eq_true rfl) (c217 R (R.1 77 (Int.toNat x3)) e25)) ?_
      intro h27 R28 w29
      have w29 : rg q26 := w29
      show evx _ _ _ _ _ _ (.inl (iz q26) :: _) _ _ _
      refine evx_F E233 D233_79 rfl rfl ?_
      refine evx_F E233 D233_83 rfl rfl ?_
      show evx _ _ _ _ _ [(4, .inl (iz q26)), (0, .inr (.inr (.inl (some 53)))), (1, .inl (iz x1)), (2, .inl (iz x2)), (3, .inl (iz x3))] _ _ _ _
      exact evx_lv (lvLe_mk (fm rfl (fm rfl (fm rfl (fm rfl (fm rfl fn))))) (fm rfl (fm rfl (fm rfl (fm rfl (fm rfl fn))))) (fm rfl (fm rfl (fm rfl (fm rfl (fm rfl fn)))))) (ih.2.2.2.1 _ _ _ _ _ _ _ _ hs R28 rx1 rx2 rx3 w29)
    · intro M x1 x2 x3 x4 h v M' hs R rx1 rx2 rx3 rx4
      rw [l233] at hs
      refine evx_F E233 D233_85 rfl rfl ?_
      refine evx_gfr E233 D233_86 F233_79 H53 rfl R ?_
      refine evx_F E233 D233_89 rfl rfl ?_
      obtain ⟨k30, hs⟩ := ck hs
      refine evx_ial E233 D233_90 H76 (by decide) R k30 ?_
      refine evx_F E233 D233_91 rfl rfl ?_
      by_cases cb31 : ¬ (M 76 (Int.toNat x3)) = 4
      · rw [if_pos cb31] at hs
        refine evx_F E233 D233_92 rfl (ifT (c2_ne_T (R.1 76 (Int.toNat x3)) (by decide) cb31)) ?_
        refine evx_F E233 D233_108 rfl rfl ?_
        refine evx_F E233 D233_109 rfl rfl ?_
        show evx _ _ _ _ _ [(5, .inl (iz (-1))), (0, .inr (.inr (.inl (some 53)))), (1, .inl (iz x1)), (2, .inl (iz x2)), (3, .inl (iz x3)), (4, .inl (iz x4))] _ _ _ _
        exact evx_lv (lvLe_mk (fm rfl (fm rfl (fm rfl (fm rfl (fm rfl (fm rfl fn)))))) (fm rfl (fm rfl (fm rfl (fm rfl (fm rfl (fm rfl fn)))))) (fm rfl (fm rfl (fm rfl (fm rfl (fm rfl (fm rfl fn))))))) (ih.2.2.2.2.1 _ _ _ _ _ _ _ _ _ hs R rx1 rx2 rx3 rx4 (by decide))
      · rw [if_neg cb31] at hs
        refine evx_F E233 D233_92 rfl (ifF (c2_ne_F (R.1 76 (Int.toNat x3)) (by decide) (by omega))) ?_
        refine evx_F E233 D233_95 rfl rfl ?_
        refine evx_F E233 D233_96 rfl rfl ?_
        refine evx_gfr E233 D233_97 F233_85 H53 rfl R ?_
        refine evx_F E233 D233_100 rfl rfl ?_
        refine evx_ial E233 D233_101 H78 (by decide) R k30 ?_
        obtain ⟨q33, e32, hs⟩ := Option.bind_eq_some_iff.mp hs
        refine evx_cv (D := 2) E233 D233_102 I233_240 rfl rfl H53 ⟨Nat.le_of_ble_eq_true rfl, Nat.le_of_ble_eq_true rfl⟩ ⟨rfl, Nat.le_of_ble_eq_true rfl⟩ rfl R (evx_up (Nat.le_of_ble_eq_true rfl) (c217 R (R.1 78 (Int.toNat x3)) e32)) ?_
        intro h34 R35 w36
        have w36 : rg q33 := w36
        show evx _ _ _ _ _ _ (.inl (iz q33) :: _) _ _ _
        refine evx_F E233 D233_105 rfl rfl ?_
        refine evx_F E233 D233_109 rfl rfl ?_
        show evx _ _ _ _ _ [(5, .inl (iz q33)), (0, .inr (.inr (.inl (some 53)))), (1, .inl (iz x1)), (2, .inl (iz x2)), (3, .inl (iz x3)), (4, .inl (iz x4))] _ _ _ _
        exact evx_lv (lvLe_mk (fm rfl (fm rfl (fm rfl (fm rfl (fm rfl (fm rfl fn)))))) (fm rfl (fm rfl (fm rfl (fm rfl (fm rfl (fm rfl fn)))))) (fm rfl (fm rfl (fm rfl (fm rfl (fm rfl (fm rfl fn))))))) (ih.2.2.2.2.1 _ _ _ _ _ _ _ _ _ hs R35 rx1 rx2 rx3 rx4 w36)
    · intro M x1 x2 x3 x4 x5 h v M' hs R rx1 rx2 rx3 rx4 rx5
      rw [l233] at hs
      refine evx_F E233 D233_111 rfl rfl ?_
      refine evx_gfr E233 D233_112 F233_94 H53 rfl R ?_
      refine evx_F E233 D233_115 rfl rfl ?_
      obtain ⟨k37, hs⟩ := ck hs
      refine evx_ial E233 D233_116 H81 (by decide) R k37 ?_
      refine evx_F E233 D233_117 rfl rfl ?_
      by_cases cb38 : (M 81 (Int.toNat x3)) = (-1)
      · rw [if_pos cb38] at hs
        refine evx_F E233 D233_118 rfl (ifT (c2_eq_T (R.1 81 (Int.toNat x3)) (by decide) cb38)) ?_
        refine evx_F E233 D233_127 rfl rfl ?_
        refine evx_F E233 D233_129 rfl rfl ?_
        by_cases cb39 : x4 = (-1)
        · rw [if_pos cb39] at hs
          refine evx_F E233 D233_130 rfl (ifT (c2_eq_T rx4 (by decide) cb39)) ?_
          show evx _ _ _ _ _ [(0, .inr (.inr (.inl (some 53)))), (1, .inl (iz x1)), (2, .inl (iz x2)), (3, .inl (iz x3)), (4, .inl (iz x4)), (5, .inl (iz x5))] _ _ _ _
          exact evx_lv (lvLe_mk (fm rfl (fm rfl (fm rfl (fm rfl (fm rfl (fm rfl fn)))))) (fm rfl (fm rfl (fm rfl (fm rfl (fm rfl (fm rfl fn)))))) (fm rfl (fm rfl (fm rfl (fm rfl (fm rfl (fm rfl fn))))))) (ih.2.2.2.2.2.1 _ _ _ _ _ _ _ _ _ hs R rx1 rx2 rx3 rx4 rx5)
        · rw [if_neg cb39] at hs
          refine evx_F E233 D233_130 rfl (ifF (c2_eq_F rx4 (by decide) (by omega))) ?_
          refine evx_F E233 D233_133 rfl rfl ?_
          refine evx_gfr E233 D233_134 F233_94 H53 rfl R ?_
          refine evx_F E233 D233_137 rfl rfl ?_
          obtain ⟨k40, hs⟩ := ck hs
          refine evx_ial E233 D233_139 H81 (by decide) R k40 ?_
          refine evx_F E233 D233_140 rfl rfl ?_
          by_cases cb41 : ¬ (M 81 (Int.toNat x4)) = (-1)
          · rw [if_pos cb41] at hs
            refine evx_F E233 D233_141 rfl (ifT (c2_ne_T (R.1 81 (Int.toNat x4)) (by decide) cb41)) ?_
            show evx _ _ _ _ _ [(0, .inr (.inr (.inl (some 53)))), (1, .inl (iz x1)), (2, .inl (iz x2)), (3, .inl (iz x3)), (4, .inl (iz x4)), (5, .inl (iz x5))] _ _ _ _
            exact evx_lv (lvLe_mk (fm rfl (fm rfl (fm rfl (fm rfl (fm rfl (fm rfl fn)))))) (fm rfl (fm rfl (fm rfl (fm rfl (fm rfl (fm rfl fn)))))) (fm rfl (fm rfl (fm rfl (fm rfl (fm rfl (fm rfl fn))))))) (ih.2.2.2.2.2.1 _ _ _ _ _ _ _ _ _ hs R rx1 rx2 rx3 rx4 rx5)
          · rw [if_neg cb41] at hs
            refine evx_F E233 D233_141 rfl (ifF (c2_ne_F (R.1 81 (Int.toNat x4)) (by decide) (by omega))) ?_
            refine evx_F E233 D233_144 rfl rfl ?_
            refine evx_gfr E233 D233_145 F233_97 H53 rfl R ?_
            refine evx_F E233 D233_148 rfl rfl ?_
            refine evx_F E233 D233_149 rfl rfl ?_
            obtain ⟨k42, hs⟩ := ck hs
            refine evx_ias E233 D233_151 H82 (by decide) R k42 rx4 ?_
            intro h43 R44
            refine evx_inc E233 D233_152 (Nat.le_of_ble_eq_true rfl) rfl ?_
            refine evx_F E233 D233_155 rfl rfl ?_
            obtain ⟨k45, hs⟩ := ck hs
            show evx _ _ _ _ _ [(2, .inl (iz (x2 + 1))), (0, .inr (.inr (.inl (some 53)))), (1, .inl (iz x1)), (3, .inl (iz x3)), (4, .inl (iz x4)), (5, .inl (iz x5))] _ _ _ _
            exact evx_lv (lvLe_mk (fm rfl (fm rfl (fm rfl (fm rfl (fm rfl (fm rfl fn)))))) (fm rfl (fm rfl (fm rfl (fm rfl (fm rfl (fm rfl fn)))))) (fm rfl (fm rfl (fm rfl (fm rfl (fm rfl (fm rfl fn))))))) (ih.2.2.2.2.2.2.1 _ _ _ _ _ _ _ _ _ hs R44 rx1 k45 rx3 rx4 rx5)
      · rw [if_neg cb38] at hs
        refine evx_F E233 D233_118 rfl (ifF (c2_eq_F (R.1 81 (Int.toNat x3)) (by decide) (by omega))) ?_
        refine evx_inc E233 D233_121 (Nat.le_of_ble_eq_true rfl) rfl ?_
        refine evx_F E233 D233_124 rfl rfl ?_
        obtain ⟨k46, hs⟩ := ck hs
        show evx _ _ _ _ _ [(2, .inl (iz (x2 + (-1)))), (0, .inr (.inr (.inl (some 53)))), (1, .inl (iz x1)), (3, .inl (iz x3)), (4, .inl (iz x4)), (5, .inl (iz x5))] _ _ _ _
        exact evx_lv (lvLe_mk (fm rfl (fm rfl (fm rfl (fm rfl (fm rfl (fm rfl fn)))))) (fm rfl (fm rfl (fm rfl (fm rfl (fm rfl (fm rfl fn)))))) (fm rfl (fm rfl (fm rfl (fm rfl (fm rfl (fm rfl fn))))))) (ih.2.2.2.2.2.2.1 _ _ _ _ _ _ _ _ _ hs R rx1 k46 rx3 rx4 rx5)
    · intro M x1 x2 x3 x4 x5 h v M' hs R rx1 rx2 rx3 rx4 rx5
      rw [l233] at hs
      refine evx_F E233 D233_158 rfl rfl ?_
      refine evx_F E233 D233_160 rfl rfl ?_
      by_cases cb47 : x5 = (-1)
      · rw [if_pos cb47] at hs
        refine evx_F E233 D233_161 rfl (ifT (c2_eq_T rx5 (by decide) cb47)) ?_
        show evx _ _ _ _ _ [(0, .inr (.inr (.inl (some 53)))), (1, .inl (iz x1)), (2, .inl (iz x2)), (3, .inl (iz x3)), (4, .inl (iz x4)), (5, .inl (iz x5))] _ _ _ _
        exact evx_lv (lvLe_mk (fm rfl (fm rfl (fm rfl (fm rfl (fm rfl (fm rfl fn)))))) (fm rfl (fm rfl (fm rfl (fm rfl (fm rfl (fm rfl fn)))))) (fm rfl (fm rfl (fm rfl (fm rfl (fm rfl (fm rfl fn))))))) (ih.2.2.2.2.2.2.2.1 _ _ _ _ _ _ _ _ _ hs R rx1 rx2 rx3 rx4 rx5)
      · rw [if_neg cb47] at hs
        refine evx_F E233 D233_161 rfl (ifF (c2_eq_F rx5 (by decide) (by omega))) ?_
        refine evx_F E233 D233_164 rfl rfl ?_
        refine evx_gfr E233 D233_165 F233_94 H53 rfl R ?_
        refine evx_F E233 D233_168 rfl rfl ?_
        obtain ⟨k48, hs⟩ := ck hs
        refine evx_ial E233 D233_170 H81 (by decide) R k48 ?_
        refine evx_F E233 D233_171 rfl rfl ?_
        by_cases cb49 : ¬ (M 81 (Int.toNat x5)) = (-1)
        · rw [if_pos cb49] at hs
          refine evx_F E233 D233_172 rfl (ifT (c2_ne_T (R.1 81 (Int.toNat x5)) (by decide) cb49)) ?_
          show evx _ _ _ _ _ [(0, .inr (.inr (.inl (some 53)))), (1, .inl (iz x1)), (2, .inl (iz x2)), (3, .inl (iz x3)), (4, .inl (iz x4)), (5, .inl (iz x5))] _ _ _ _
          exact evx_lv (lvLe_mk (fm rfl (fm rfl (fm rfl (fm rfl (fm rfl (fm rfl fn)))))) (fm rfl (fm rfl (fm rfl (fm rfl (fm rfl (fm rfl fn)))))) (fm rfl (fm rfl (fm rfl (fm rfl (fm rfl (fm rfl fn))))))) (ih.2.2.2.2.2.2.2.1 _ _ _ _ _ _ _ _ _ hs R rx1 rx2 rx3 rx4 rx5)
        · rw [if_neg cb49] at hs
          refine evx_F E233 D233_172 rfl (ifF (c2_ne_F (R.1 81 (Int.toNat x5)) (by decide) (by omega))) ?_
          refine evx_F E233 D233_175 rfl rfl ?_
          refine evx_gfr E233 D233_176 F233_97 H53 rfl R ?_
          refine evx_F E233 D233_179 rfl rfl ?_
          refine evx_F E233 D233_180 rfl rfl ?_
          obtain ⟨k50, hs⟩ := ck hs
          refine evx_ias E233 D233_182 H82 (by decide) R k50 rx5 ?_
          intro h51 R52
          refine evx_inc E233 D233_183 (Nat.le_of_ble_eq_true rfl) rfl ?_
          refine evx_F E233 D233_186 rfl rfl ?_
          obtain ⟨k53, hs⟩ := ck hs
          show evx _ _ _ _ _ [(2, .inl (iz (x2 + 1))), (0, .inr (.inr (.inl (some 53)))), (1, .inl (iz x1)), (3, .inl (iz x3)), (4, .inl (iz x4)), (5, .inl (iz x5))] _ _ _ _
          exact evx_lv (lvLe_mk (fm rfl (fm rfl (fm rfl (fm rfl (fm rfl (fm rfl fn)))))) (fm rfl (fm rfl (fm rfl (fm rfl (fm rfl (fm rfl fn)))))) (fm rfl (fm rfl (fm rfl (fm rfl (fm rfl (fm rfl fn))))))) (ih.2.2.2.2.2.2.1 _ _ _ _ _ _ _ _ _ hs R52 rx1 k53 rx3 rx4 rx5)
    · intro M x1 x2 x3 x4 x5 h v M' hs R rx1 rx2 rx3 rx4 rx5
      rw [l233] at hs
      refine evx_F E233 D233_278 rfl rfl ?_
      show evx _ _ _ _ _ [(0, .inr (.inr (.inl (some 53)))), (1, .inl (iz x1)), (2, .inl (iz x2)), (3, .inl (iz x3)), (4, .inl (iz x4)), (5, .inl (iz x5))] _ _ _ _
      exact evx_lv (lvLe_mk (fm rfl (fm rfl (fm rfl fn))) (fm rfl (fm rfl (fm rfl (fm rfl (fm rfl (fm rfl fn)))))) (fm rfl (fm rfl (fm rfl fn)))) (ih.2.1 _ _ _ _ _ _ hs R rx1 rx2)
    · intro M x1 x2 x3 x4 x5 h v M' hs R rx1 rx2 rx3 rx4 rx5
      rw [l233] at hs
      refine evx_F E233 D233_189 rfl rfl ?_
      refine evx_gfr E233 D233_190 F233_79 H53 rfl R ?_
      refine evx_F E233 D233_193 rfl rfl ?_
      obtain ⟨k54, hs⟩ := ck hs
      refine evx_ial E233 D233_194 H76 (by decide) R k54 ?_
      refine evx_F E233 D233_195 rfl rfl ?_
      by_cases cb55 : ¬ (M 76 (Int.toNat x3)) = 2
      · rw [if_pos cb55] at hs
        refine evx_F E233 D233_196 rfl (ifT (c2_ne_T (R.1 76 (Int.toNat x3)) (by decide) cb55)) ?_
        refine evx_F E233 D233_209 rfl rfl ?_
        refine evx_gfr E233 D233_210 F233_79 H53 rfl R ?_
        refine evx_F E233 D233_213 rfl rfl ?_
        refine evx_ial E233 D233_214 H76 (by decide) R k54 ?_
        refine evx_F E233 D233_215 rfl rfl ?_
        show evx _ _ _ _ _ [(6, .inl (iz (M 76 (Int.toNat x3)))), (0, .inr (.inr (.inl (some 53)))), (1, .inl (iz x1)), (2, .inl (iz x2)), (3, .inl (iz x3)), (4, .inl (iz x4)), (5, .inl (iz x5))] _ _ _ _
        exact evx_lv (lvLe_mk (fm rfl (fm rfl (fm rfl (fm rfl (fm rfl (fm rfl (fm rfl fn))))))) (fm rfl (fm rfl (fm rfl (fm rfl (fm rfl (fm rfl (fm rfl fn))))))) (fm rfl (fm rfl (fm rfl (fm rfl (fm rfl (fm rfl (fm rfl fn)))))))) (ih.2.2.2.2.2.2.2.2.1 _ _ _ _ _ _ _ _ _ _ hs R rx1 rx2 rx3 rx4 rx5 (R.1 76 (Int.toNat x3)))
      · rw [if_neg cb55] at hs
        refine evx_F E233 D233_196 rfl (ifF (c2_ne_F (R.1 76 (Int.toNat x3)) (by decide) (by omega))) ?_
        refine evx_F E233 D233_199 rfl rfl ?_
        refine evx_F E233 D233_200 rfl rfl ?_
        refine evx_F E233 D233_201 rfl rfl ?_
        obtain ⟨q57, e56, hs⟩ := Option.bind_eq_some_iff.mp hs
        refine evx_cv (D := 2) E233 D233_202 I233_298 rfl rfl H53 ⟨Nat.le_of_ble_eq_true rfl, Nat.le_of_ble_eq_true rfl⟩ ⟨rfl, Nat.le_of_ble_eq_true rfl⟩ rfl R (evx_up (Nat.le_of_ble_eq_true rfl) (c230 R rx3 e56)) ?_
        intro h58 R59 w60
        have w60 : rg q57 := w60
        show evx _ _ _ _ _ _ (.inl (iz q57) :: _) _ _ _
        refine evx_add E233 D233_205 ?_
        refine evx_F E233 D233_206 rfl rfl ?_
        refine evx_F E233 D233_215 rfl rfl ?_
        obtain ⟨k61, hs⟩ := ck hs
        show evx _ _ _ _ _ [(6, .inl (iz ((2 : Int) + q57))), (0, .inr (.inr (.inl (some 53)))), (1, .inl (iz x1)), (2, .inl (iz x2)), (3, .inl (iz x3)), (4, .inl (iz x4)), (5, .inl (iz x5))] _ _ _ _
        exact evx_lv (lvLe_mk (fm rfl (fm rfl (fm rfl (fm rfl (fm rfl (fm rfl (fm rfl fn))))))) (fm rfl (fm rfl (fm rfl (fm rfl (fm rfl (fm rfl (fm rfl fn))))))) (fm rfl (fm rfl (fm rfl (fm rfl (fm rfl (fm rfl (fm rfl fn)))))))) (ih.2.2.2.2.2.2.2.2.1 _ _ _ _ _ _ _ _ _ _ hs R59 rx1 rx2 rx3 rx4 rx5 k61)
    · intro M x1 x2 x3 x4 x5 x6 h v M' hs R rx1 rx2 rx3 rx4 rx5 rx6
      rw [l233] at hs
      refine evx_F E233 D233_217 rfl rfl ?_
      refine evx_F E233 D233_219 rfl rfl ?_
      by_cases cb62 : x4 = (-1)
      · rw [if_pos cb62] at hs
        refine evx_F E233 D233_220 rfl (ifT (c2_eq_T rx4 (by decide) cb62)) ?_
        show evx _ _ _ _ _ [(0, .inr (.inr (.inl (some 53)))), (1, .inl (iz x1)), (2, .inl (iz x2)), (3, .inl (iz x3)), (4, .inl (iz x4)), (5, .inl (iz x5)), (6, .inl (iz x6))] _ _ _ _
        exact evx_lv (lvLe_mk (fm rfl (fm rfl (fm rfl (fm rfl (fm rfl (fm rfl (fm rfl fn))))))) (fm rfl (fm rfl (fm rfl (fm rfl (fm rfl (fm rfl (fm rfl fn))))))) (fm rfl (fm rfl (fm rfl (fm rfl (fm rfl (fm rfl (fm rfl fn)))))))) (ih.2.2.2.2.2.2.2.2.2 _ _ _ _ _ _ _ _ _ _ hs R rx1 rx2 rx3 rx4 rx5 rx6)
      · rw [if_neg cb62] at hs
        refine evx_F E233 D233_220 rfl (ifF (c2_eq_F rx4 (by decide) (by omega))) ?_
        refine evx_F E233 D233_223 rfl rfl ?_
        refine evx_F E233 D233_224 rfl rfl ?_
        refine evx_gfr E233 D233_225 F233_79 H53 rfl R ?_
        refine evx_F E233 D233_228 rfl rfl ?_
        obtain ⟨k63, hs⟩ := ck hs
        refine evx_ial E233 D233_229 H76 (by decide) R k63 ?_
        refine evx_F E233 D233_230 rfl rfl ?_
        refine evx_gfr E233 D233_231 F233_94 H53 rfl R ?_
        refine evx_F E233 D233_234 rfl rfl ?_
        obtain ⟨k64, hs⟩ := ck hs
        refine evx_ial E233 D233_236 H81 (by decide) R k64 ?_
        refine evx_F E233 D233_237 rfl rfl ?_
        refine evx_F E233 D233_239 rfl rfl ?_
        by_cases cb65 : ¬ x5 = (-1)
        · rw [if_pos cb65] at hs
          refine evx_F E233 D233_240 rfl (ifT (c2_ne_T rx5 (by decide) cb65)) ?_
          refine evx_F E233 D233_247 rfl rfl ?_
          refine evx_gfr E233 D233_248 F233_94 H53 rfl R ?_
          refine evx_F E233 D233_251 rfl rfl ?_
          obtain ⟨k66, hs⟩ := ck hs
          refine evx_ial E233 D233_253 H81 (by decide) R k66 ?_
          obtain ⟨⟨q68, M72⟩, e67, hs⟩ := Option.bind_eq_some_iff.mp hs
          dsimp only at hs
          refine evx_cv (D := 2) E233 D233_254 I233_193 rfl rfl H53 ⟨Nat.le_of_ble_eq_true rfl, Nat.le_of_ble_eq_true rfl⟩ ⟨rfl, Nat.le_of_ble_eq_true rfl⟩ rfl R (evx_up (Nat.le_of_ble_eq_true rfl) (c191 R (R.1 76 (Int.toNat x3)) (R.1 81 (Int.toNat x4)) (R.1 81 (Int.toNat x5)) e67)) ?_
          intro h69 R70 w71
          have w71 : rg q68 := w71
          show evx _ _ _ _ _ _ (.inl (iz q68) :: _) _ _ _
          refine evx_F E233 D233_257 rfl rfl ?_
          show evx _ _ _ _ _ [(6, .inl (iz q68)), (0, .inr (.inr (.inl (some 53)))), (1, .inl (iz x1)), (2, .inl (iz x2)), (3, .inl (iz x3)), (4, .inl (iz x4)), (5, .inl (iz x5))] _ _ _ _
          exact evx_lv (lvLe_mk (fm rfl (fm rfl (fm rfl (fm rfl (fm rfl (fm rfl (fm rfl fn))))))) (fm rfl (fm rfl (fm rfl (fm rfl (fm rfl (fm rfl (fm rfl fn))))))) (fm rfl (fm rfl (fm rfl (fm rfl (fm rfl (fm rfl (fm rfl fn)))))))) (ih.2.2.2.2.2.2.2.2.2 _ _ _ _ _ _ _ _ _ _ hs R70 rx1 rx2 rx3 rx4 rx5 w71)
        · rw [if_neg cb65] at hs
          refine evx_F E233 D233_240 rfl (ifF (c2_ne_F rx5 (by decide) (by omega))) ?_
          refine evx_F E233 D233_243 rfl rfl ?_
          refine evx_F E233 D233_244 rfl rfl ?_
          obtain ⟨⟨q74, M78⟩, e73, hs⟩ := Option.bind_eq_some_iff.mp hs
          dsimp only at hs
          refine evx_cv (D := 2) E233 D233_254 I233_193 rfl rfl H53 ⟨Nat.le_of_ble_eq_true rfl, Nat.le_of_ble_eq_true rfl⟩ ⟨rfl, Nat.le_of_ble_eq_true rfl⟩ rfl R (evx_up (Nat.le_of_ble_eq_true rfl) (c191 R (R.1 76 (Int.toNat x3)) (R.1 81 (Int.toNat x4)) (by decide) e73)) ?_
          intro h75 R76 w77
          have w77 : rg q74 := w77
          show evx _ _ _ _ _ _ (.inl (iz q74) :: _) _ _ _
          refine evx_F E233 D233_257 rfl rfl ?_
          show evx _ _ _ _ _ [(6, .inl (iz q74)), (0, .inr (.inr (.inl (some 53)))), (1, .inl (iz x1)), (2, .inl (iz x2)), (3, .inl (iz x3)), (4, .inl (iz x4)), (5, .inl (iz x5))] _ _ _ _
          exact evx_lv (lvLe_mk (fm rfl (fm rfl (fm rfl (fm rfl (fm rfl (fm rfl (fm rfl fn))))))) (fm rfl (fm rfl (fm rfl (fm rfl (fm rfl (fm rfl (fm rfl fn))))))) (fm rfl (fm rfl (fm rfl (fm rfl (fm rfl (fm rfl (fm rfl fn)))))))) (ih.2.2.2.2.2.2.2.2.2 _ _ _ _ _ _ _ _ _ _ hs R76 rx1 rx2 rx3 rx4 rx5 w77)
    · intro M x1 x2 x3 x4 x5 x6 h v M' hs R rx1 rx2 rx3 rx4 rx5 rx6
      rw [l233] at hs
      refine evx_F E233 D233_259 rfl rfl ?_
      refine evx_F E233 D233_261 rfl rfl ?_
      by_cases cb79 : ¬ x6 = (-1)
      · rw [if_pos cb79] at hs
        refine evx_F E233 D233_262 rfl (ifT (c2_ne_T rx6 (by decide) cb79)) ?_
        refine evx_F E233 D233_267 rfl rfl ?_
        refine evx_gfr E233 D233_268 F233_94 H53 rfl R ?_
        refine evx_F E233 D233_271 rfl rfl ?_
        refine evx_F E233 D233_272 rfl rfl ?_
        obtain ⟨k80, hs⟩ := ck hs
        refine evx_ias E233 D233_274 H81 (by decide) R k80 rx6 ?_
        intro h81 R82
        refine evx_inc E233 D233_275 (Nat.le_of_ble_eq_true rfl) rfl ?_
        obtain ⟨k83, hs⟩ := ck hs
        show evx _ _ _ _ _ [(2, .inl (iz (x2 + (-1)))), (0, .inr (.inr (.inl (some 53)))), (1, .inl (iz x1)), (3, .inl (iz x3)), (4, .inl (iz x4)), (5, .inl (iz x5)), (6, .inl (iz x6))] _ _ _ _
        exact evx_lv (lvLe_mk (fm rfl (fm rfl (fm rfl (fm rfl (fm rfl (fm rfl fn)))))) (fm rfl (fm rfl (fm rfl (fm rfl (fm rfl (fm rfl (fm rfl fn))))))) (fm rfl (fm rfl (fm rfl (fm rfl (fm rfl (fm rfl fn))))))) (ih.2.2.2.2.2.2.1 _ _ _ _ _ _ _ _ _ hs R82 rx1 k83 rx3 rx4 rx5)
      · rw [if_neg cb79] at hs
        refine evx_F E233 D233_262 rfl (ifF (c2_ne_F rx6 (by decide) (by omega))) ?_
        refine evx_F E233 D233_265 rfl rfl ?_
        cases hs
        exact evx_ret E233 D233_266 rfl (fun d => rfl) rfl (show rg _ from (by decide)) R
def f233 (M : Mm) (x1 : Int) : Option (Int × Mm) := l233 FU 2 M x1 0 0 0 0 0
theorem c233 {L : Nat} {xs : Nat → Int32} {h : mvH} {M : Mm} {x1 : Int} {v : Int} {M' : Mm} (R : rp h M) (rx1 : rg x1) (hs : f233 M x1 = some (v, M')) : evx L xs 3 233 0 [(0, .inr (.inr (.inl (some 53)))), (1, .inl (iz x1))] [] h (.inl (some (.inl v)), 0) M' := by
  unfold f233 at hs
  refine evx_F E233 D233_0 rfl rfl ?_
  refine evx_F E233 D233_1 rfl rfl ?_
  show evx _ _ _ _ _ [(2, .inl (iz 0)), (0, .inr (.inr (.inl (some 53)))), (1, .inl (iz x1))] _ _ _ _
  exact evx_lv (lvLe_mk (fm rfl (fm rfl (fm rfl fn))) (fm rfl (fm rfl (fm rfl fn))) (fm rfl (fm rfl (fm rfl fn)))) ((d233 FU).1 _ _ _ _ _ _ hs R rx1 (by decide))
set_option maxRecDepth 20000 in
theorem E234 : pgMm 234 = some (⟨"DictionaryHouseModel", "keep", "(I)V"⟩, prog_14_method_48_code, 4, none, []) := rfl
theorem D234_0 : pgDecT 234 0 = some (.iconst 0, 1) := by decide +kernel
theorem D234_1 : pgDecT 234 1 = some (.istore_n 2, 1) := by decide +kernel
theorem D234_2 : pgDecT 234 2 = some (.iload_n 2, 1) := by decide +kernel
theorem D234_3 : pgDecT 234 3 = some (.aload_n 0, 1) := by decide +kernel
theorem D234_4 : pgDecT 234 4 = some (.getfield 226, 3) := by decide +kernel
theorem F234_226 : pgFf 234 226 = some (12, 28, 0) := by decide +kernel
theorem D234_7 : pgDecT 234 7 = some (.if_icmp .ge 16, 3) := by decide +kernel
theorem D234_23 : pgDecT 234 23 = some (.iconst 0, 1) := by decide +kernel
theorem D234_24 : pgDecT 234 24 = some (.istore_n 2, 1) := by decide +kernel
theorem D234_25 : pgDecT 234 25 = some (.iload_n 2, 1) := by decide +kernel
theorem D234_10 : pgDecT 234 10 = some (.aload_n 0, 1) := by decide +kernel
theorem D234_11 : pgDecT 234 11 = some (.getfield 94, 3) := by decide +kernel
theorem F234_94 : pgFf 234 94 = some (12, 34, 3) := by decide +kernel
theorem D234_14 : pgDecT 234 14 = some (.iload_n 2, 1) := by decide +kernel
theorem D234_15 : pgDecT 234 15 = some (.iconst (-1), 1) := by decide +kernel
theorem D234_16 : pgDecT 234 16 = some (.iastore, 1) := by decide +kernel
theorem D234_17 : pgDecT 234 17 = some (.iinc 2 1, 3) := by decide +kernel
theorem D234_20 : pgDecT 234 20 = some (.goto (-18), 3) := by decide +kernel
theorem D234_26 : pgDecT 234 26 = some (.aload_n 0, 1) := by decide +kernel
theorem D234_27 : pgDecT 234 27 = some (.getfield 243, 3) := by decide +kernel
theorem F234_243 : pgFf 234 243 = some (12, 46, 0) := by decide +kernel
theorem D234_30 : pgDecT 234 30 = some (.if_icmp .ge 58, 3) := by decide +kernel
theorem D234_88 : pgDecT 234 88 = some (.return_, 1) := by decide +kernel
theorem D234_33 : pgDecT 234 33 = some (.iconst 0, 1) := by decide +kernel
theorem D234_34 : pgDecT 234 34 = some (.istore_n 3, 1) := by decide +kernel
theorem D234_35 : pgDecT 234 35 = some (.iload_n 3, 1) := by decide +kernel
theorem D234_36 : pgDecT 234 36 = some (.aload_n 0, 1) := by decide +kernel
theorem D234_37 : pgDecT 234 37 = some (.getfield 118, 3) := by decide +kernel
theorem F234_118 : pgFf 234 118 = some (12, 42, 3) := by decide +kernel
theorem D234_40 : pgDecT 234 40 = some (.iload_n 2, 1) := by decide +kernel
theorem D234_41 : pgDecT 234 41 = some (.iaload, 1) := by decide +kernel
theorem D234_42 : pgDecT 234 42 = some (.if_icmp .ge 40, 3) := by decide +kernel
theorem D234_82 : pgDecT 234 82 = some (.iinc 2 1, 3) := by decide +kernel
theorem D234_85 : pgDecT 234 85 = some (.goto (-60), 3) := by decide +kernel
theorem D234_45 : pgDecT 234 45 = some (.aload_n 0, 1) := by decide +kernel
theorem D234_46 : pgDecT 234 46 = some (.getfield 66, 3) := by decide +kernel
theorem F234_66 : pgFf 234 66 = some (12, 23, 3) := by decide +kernel
theorem D234_49 : pgDecT 234 49 = some (.bipush 8, 2) := by decide +kernel
theorem D234_51 : pgDecT 234 51 = some (.bipush 60, 2) := by decide +kernel
theorem D234_53 : pgDecT 234 53 = some (.iload_n 1, 1) := by decide +kernel
theorem D234_54 : pgDecT 234 54 = some (.imul, 1) := by decide +kernel
theorem D234_55 : pgDecT 234 55 = some (.iload_n 2, 1) := by decide +kernel
theorem D234_56 : pgDecT 234 56 = some (.iadd, 1) := by decide +kernel
theorem D234_57 : pgDecT 234 57 = some (.imul, 1) := by decide +kernel
theorem D234_58 : pgDecT 234 58 = some (.iload_n 3, 1) := by decide +kernel
theorem D234_59 : pgDecT 234 59 = some (.iadd, 1) := by decide +kernel
theorem D234_60 : pgDecT 234 60 = some (.aload_n 0, 1) := by decide +kernel
theorem D234_61 : pgDecT 234 61 = some (.aload_n 0, 1) := by decide +kernel
theorem D234_62 : pgDecT 234 62 = some (.getfield 115, 3) := by decide +kernel
theorem F234_115 : pgFf 234 115 = some (12, 41, 3) := by decide +kernel
theorem D234_65 : pgDecT 234 65 = some (.bipush 8, 2) := by decide +kernel
theorem D234_67 : pgDecT 234 67 = some (.iload_n 2, 1) := by decide +kernel
theorem D234_68 : pgDecT 234 68 = some (.imul, 1) := by decide +kernel
theorem D234_69 : pgDecT 234 69 = some (.iload_n 3, 1) := by decide +kernel
theorem D234_70 : pgDecT 234 70 = some (.iadd, 1) := by decide +kernel
theorem D234_71 : pgDecT 234 71 = some (.iaload, 1) := by decide +kernel
theorem D234_72 : pgDecT 234 72 = some (.invokevirtual 307, 3) := by decide +kernel
theorem I234_307 : pgIi 234 307 = some (235, 1, 12) := by decide +kernel
theorem D234_75 : pgDecT 234 75 = some (.iastore, 1) := by decide +kernel
theorem D234_76 : pgDecT 234 76 = some (.iinc 3 1, 3) := by decide +kernel
theorem D234_79 : pgDecT 234 79 = some (.goto (-44), 3) := by decide +kernel
/-! 234: DictionaryHouseModel.keep (I)V -/
def l234 : Nat → Nat → Mm → Int → Int → Int → Option (Int × Mm)
  | 0, _, _, _, _, _ => none
  | f + 1, 2, M, x1, x2, _ => if (M 53 28) ≤ x2 then (l234 f 25 M x1 0 0) else (if 0 ≤ x2 ∧ x2 < 4000 then (if rg (x2 + 1) then (l234 f 2 (up M 81 (Int.toNat x2) (-1)) x1 (x2 + 1) 0) else none) else none)
  | f + 1, 25, M, x1, x2, _ => if (M 53 46) ≤ x2 then (some (0, M)) else (l234 f 35 M x1 x2 0)
  | f + 1, 35, M, x1, x2, x3 => if 0 ≤ x2 ∧ x2 < 60 then (if (M 89 (Int.toNat x2)) ≤ x3 then (if rg (x2 + 1) then (l234 f 25 M x1 (x2 + 1) 0) else none) else (if 0 ≤ (((8 : Int) * x2) + x3) ∧ (((8 : Int) * x2) + x3) < 480 then (f235 M (M 88 (Int.toNat (((8 : Int) * x2) + x3)))).bind (fun zq12 => if 0 ≤ (((8 : Int) * (((60 : Int) * x1) + x2)) + x3) ∧ (((8 : Int) * (((60 : Int) * x1) + x2)) + x3) < 35520 then (if rg (x3 + 1) then (l234 f 35 (up zq12.2 72 (Int.toNat (((8 : Int) * (((60 : Int) * x1) + x2)) + x3)) zq12.1) x1 x2 (x3 + 1)) else none) else none) else none)) else none
  | _, _, _, _, _, _ => none
theorem d234 {L : Nat} {xs : Nat → Int32} (f : Nat) : (∀ (M : Mm) (x1 x2 : Int) (h : mvH) (v : Int) (M' : Mm), l234 f 2 M x1 x2 0 = some (v, M') → rp h M → rg x1 → rg x2 → evx L xs 3 234 2 [(0, .inr (.inr (.inl (some 53)))), (1, .inl (iz x1)), (2, .inl (iz x2))] [] h (.inl none, 0) M') ∧ (∀ (M : Mm) (x1 x2 : Int) (h : mvH) (v : Int) (M' : Mm), l234 f 25 M x1 x2 0 = some (v, M') → rp h M → rg x1 → rg x2 → evx L xs 3 234 25 [(0, .inr (.inr (.inl (some 53)))), (1, .inl (iz x1)), (2, .inl (iz x2))] [] h (.inl none, 0) M') ∧ (∀ (M : Mm) (x1 x2 x3 : Int) (h : mvH) (v : Int) (M' : Mm), l234 f 35 M x1 x2 x3 = some (v, M') → rp h M → rg x1 → rg x2 → rg x3 → evx L xs 3 234 35 [(0, .inr (.inr (.inl (some 53)))), (1, .inl (iz x1)), (2, .inl (iz x2)), (3, .inl (iz x3))] [] h (.inl none, 0) M') := by
  induction f with
  | zero => exact ⟨(fun M x1 x2 h v M' hs _ _ _ => by cases hs), (fun M x1 x2 h v M' hs _ _ _ => by cases hs), (fun M x1 x2 x3 h v M' hs _ _ _ _ => by cases hs)⟩
  | succ f ih =>
    refine ⟨?_, ?_, ?_⟩
    · intro M x1 x2 h v M' hs R rx1 rx2
      rw [l234] at hs
      refine evx_F E234 D234_2 rfl rfl ?_
      refine evx_F E234 D234_3 rfl rfl ?_
      refine evx_gfi (k := 28) E234 D234_4 F234_226 H53 rfl R ?_
      by_cases cb1 : (M 53 28) ≤ x2
      · rw [if_pos cb1] at hs
        refine evx_F E234 D234_7 rfl (ifT (c2_ge_T rx2 (R.1 53 28) cb1)) ?_
        refine evx_F E234 D234_23 rfl rfl ?_
        refine evx_F E234 D234_24 rfl rfl ?_
        show evx _ _ _ _ _ [(2, .inl (iz 0)), (0, .inr (.inr (.inl (some 53)))), (1, .inl (iz x1))] _ _ _ _
        exact evx_lv (lvLe_mk (fm rfl (fm rfl (fm rfl fn))) (fm rfl (fm rfl (fm rfl fn))) (fm rfl (fm rfl (fm rfl fn)))) (ih.2.1 _ _ _ _ _ _ hs R rx1 (by decide))
      · rw [if_neg cb1] at hs
        refine evx_F E234 D234_7 rfl (ifF (c2_ge_F rx2 (R.1 53 28) (by omega))) ?_
        refine evx_F E234 D234_10 rfl rfl ?_
        refine evx_gfr E234 D234_11 F234_94 H53 rfl R ?_
        refine evx_F E234 D234_14 rfl rfl ?_
        refine evx_F E234 D234_15 rfl rfl ?_
        obtain ⟨k2, hs⟩ := ck hs
        refine evx_ias E234 D234_16 H81 (by decide) R k2 (by decide) ?_
        intro h3 R4
        refine evx_inc E234 D234_17 (Nat.le_of_ble_eq_true rfl) rfl ?_
        refine evx_F E234 D234_20 rfl rfl ?_
        obtain ⟨k5, hs⟩ := ck hs
        show evx _ _ _ _ _ [(2, .inl (iz (x2 + 1))), (0, .inr (.inr (.inl (some 53)))), (1, .inl (iz x1))] _ _ _ _
        exact evx_lv (lvLe_mk (fm rfl (fm rfl (fm rfl fn))) (fm rfl (fm rfl (fm rfl fn))) (fm rfl (fm rfl (fm rfl fn)))) (ih.1 _ _ _ _ _ _ hs R4 rx1 k5)
    · intro M x1 x2 h v M' hs R rx1 rx2
      rw [l234] at hs
      refine evx_F E234 D234_25 rfl rfl ?_
      refine evx_F E234 D234_26 rfl rfl ?_
      refine evx_gfi (k := 46) E234 D234_27 F234_243 H53 rfl R ?_
      by_cases cb6 : (M 53 46) ≤ x2
      · rw [if_pos cb6] at hs
        refine evx_F E234 D234_30 rfl (ifT (c2_ge_T rx2 (R.1 53 46) cb6)) ?_
        cases hs
        exact evx_ret E234 D234_88 rfl (fun d => rfl) rfl trivial R
      · rw [if_neg cb6] at hs
        refine evx_F E234 D234_30 rfl (ifF (c2_ge_F rx2 (R.1 53 46) (by omega))) ?_
        refine evx_F E234 D234_33 rfl rfl ?_
        refine evx_F E234 D234_34 rfl rfl ?_
        show evx _ _ _ _ _ [(3, .inl (iz 0)), (0, .inr (.inr (.inl (some 53)))), (1, .inl (iz x1)), (2, .inl (iz x2))] _ _ _ _
        exact evx_lv (lvLe_mk (fm rfl (fm rfl (fm rfl (fm rfl fn)))) (fm rfl (fm rfl (fm rfl (fm rfl fn)))) (fm rfl (fm rfl (fm rfl (fm rfl fn))))) (ih.2.2 _ _ _ _ _ _ _ hs R rx1 rx2 (by decide))
    · intro M x1 x2 x3 h v M' hs R rx1 rx2 rx3
      rw [l234] at hs
      refine evx_F E234 D234_35 rfl rfl ?_
      refine evx_F E234 D234_36 rfl rfl ?_
      refine evx_gfr E234 D234_37 F234_118 H53 rfl R ?_
      refine evx_F E234 D234_40 rfl rfl ?_
      obtain ⟨k7, hs⟩ := ck hs
      refine evx_ial E234 D234_41 H89 (by decide) R k7 ?_
      by_cases cb8 : (M 89 (Int.toNat x2)) ≤ x3
      · rw [if_pos cb8] at hs
        refine evx_F E234 D234_42 rfl (ifT (c2_ge_T rx3 (R.1 89 (Int.toNat x2)) cb8)) ?_
        refine evx_inc E234 D234_82 (Nat.le_of_ble_eq_true rfl) rfl ?_
        refine evx_F E234 D234_85 rfl rfl ?_
        obtain ⟨k9, hs⟩ := ck hs
        show evx _ _ _ _ _ [(2, .inl (iz (x2 + 1))), (0, .inr (.inr (.inl (some 53)))), (1, .inl (iz x1)), (3, .inl (iz x3))] _ _ _ _
        exact evx_lv (lvLe_mk (fm rfl (fm rfl (fm rfl fn))) (fm rfl (fm rfl (fm rfl (fm rfl fn)))) (fm rfl (fm rfl (fm rfl fn)))) (ih.2.1 _ _ _ _ _ _ hs R rx1 k9)
      · rw [if_neg cb8] at hs
        refine evx_F E234 D234_42 rfl (ifF (c2_ge_F rx3 (R.1 89 (Int.toNat x2)) (by omega))) ?_
        refine evx_F E234 D234_45 rfl rfl ?_
        refine evx_gfr E234 D234_46 F234_66 H53 rfl R ?_
        refine evx_k (k := 8) E234 D234_49 rfl (by decide) ?_
        refine evx_k (k := 60) E234 D234_51 rfl (by decide) ?_
        refine evx_F E234 D234_53 rfl rfl ?_
        refine evx_mul E234 D234_54 ?_
        refine evx_F E234 D234_55 rfl rfl ?_
        refine evx_add E234 D234_56 ?_
        refine evx_mul E234 D234_57 ?_
        refine evx_F E234 D234_58 rfl rfl ?_
        refine evx_add E234 D234_59 ?_
        refine evx_F E234 D234_60 rfl rfl ?_
        refine evx_F E234 D234_61 rfl rfl ?_
        refine evx_gfr E234 D234_62 F234_115 H53 rfl R ?_
        refine evx_k (k := 8) E234 D234_65 rfl (by decide) ?_
        refine evx_F E234 D234_67 rfl rfl ?_
        refine evx_mul E234 D234_68 ?_
        refine evx_F E234 D234_69 rfl rfl ?_
        refine evx_add E234 D234_70 ?_
        obtain ⟨k10, hs⟩ := ck hs
        refine evx_ial E234 D234_71 H88 (by decide) R k10 ?_
        obtain ⟨⟨q12, M16⟩, e11, hs⟩ := Option.bind_eq_some_iff.mp hs
        dsimp only at hs
        refine evx_cv (D := 2) E234 D234_72 I234_307 rfl rfl H53 ⟨Nat.le_of_ble_eq_true rfl, Nat.le_of_ble_eq_true rfl⟩ ⟨rfl, Nat.le_of_ble_eq_true rfl⟩ rfl R (evx_up (Nat.le_of_ble_eq_true rfl) (c235 R (R.1 88 (Int.toNat (((8 : Int) * x2) + x3))) e11)) ?_
        intro h13 R14 w15
        have w15 : rg q12 := w15
        show evx _ _ _ _ _ _ (.inl (iz q12) :: _) _ _ _
        obtain ⟨k17, hs⟩ := ck hs
        refine evx_ias E234 D234_75 H72 (by decide) R14 k17 w15 ?_
        intro h18 R19
        refine evx_inc E234 D234_76 (Nat.le_of_ble_eq_true rfl) rfl ?_
        refine evx_F E234 D234_79 rfl rfl ?_
        obtain ⟨k20, hs⟩ := ck hs
        show evx _ _ _ _ _ [(3, .inl (iz (x3 + 1))), (0, .inr (.inr (.inl (some 53)))), (1, .inl (iz x1)), (2, .inl (iz x2))] _ _ _ _
        exact evx_lv (lvLe_mk (fm rfl (fm rfl (fm rfl (fm rfl fn)))) (fm rfl (fm rfl (fm rfl (fm rfl fn)))) (fm rfl (fm rfl (fm rfl (fm rfl fn))))) (ih.2.2 _ _ _ _ _ _ _ hs R19 rx1 rx2 k20)
def f234 (M : Mm) (x1 : Int) : Option (Int × Mm) := l234 FU 2 M x1 0 0
theorem c234 {L : Nat} {xs : Nat → Int32} {h : mvH} {M : Mm} {x1 : Int} {v : Int} {M' : Mm} (R : rp h M) (rx1 : rg x1) (hs : f234 M x1 = some (v, M')) : evx L xs 3 234 0 [(0, .inr (.inr (.inl (some 53)))), (1, .inl (iz x1))] [] h (.inl none, 0) M' := by
  unfold f234 at hs
  refine evx_F E234 D234_0 rfl rfl ?_
  refine evx_F E234 D234_1 rfl rfl ?_
  show evx _ _ _ _ _ [(2, .inl (iz 0)), (0, .inr (.inr (.inl (some 53)))), (1, .inl (iz x1))] _ _ _ _
  exact evx_lv (lvLe_mk (fm rfl (fm rfl (fm rfl fn))) (fm rfl (fm rfl (fm rfl fn))) (fm rfl (fm rfl (fm rfl fn)))) ((d234 FU).1 _ _ _ _ _ _ hs R rx1 (by decide))
set_option maxRecDepth 20000 in
theorem E245 : pgMm 245 = some (⟨"DictionaryHouseModel", "evaluate", "(IIIII)V"⟩, prog_14_method_59_code, 9, none, []) := rfl
theorem D245_0 : pgDecT 245 0 = some (.aload_n 0, 1) := by decide +kernel
theorem D245_1 : pgDecT 245 1 = some (.invokevirtual 366, 3) := by decide +kernel
theorem I245_366 : pgIi 245 366 = some (246, 0, 12) := by decide +kernel
theorem D245_4 : pgDecT 245 4 = some (.ifCond .ne 4, 3) := by decide +kernel
theorem D245_8 : pgDecT 245 8 = some (.bipush 8, 2) := by decide +kernel
theorem D245_10 : pgDecT 245 10 = some (.bipush 60, 2) := by decide +kernel
theorem D245_12 : pgDecT 245 12 = some (.iload_n 1, 1) := by decide +kernel
theorem D245_13 : pgDecT 245 13 = some (.imul, 1) := by decide +kernel
theorem D245_14 : pgDecT 245 14 = some (.iload_n 3, 1) := by decide +kernel
theorem D245_15 : pgDecT 245 15 = some (.iadd, 1) := by decide +kernel
theorem D245_16 : pgDecT 245 16 = some (.imul, 1) := by decide +kernel
theorem D245_17 : pgDecT 245 17 = some (.istore 6, 2) := by decide +kernel
theorem D245_19 : pgDecT 245 19 = some (.aload_n 0, 1) := by decide +kernel
theorem D245_20 : pgDecT 245 20 = some (.getfield 38, 3) := by decide +kernel
theorem F245_38 : pgFf 245 38 = some (12, 13, 3) := by decide +kernel
theorem D245_23 : pgDecT 245 23 = some (.iload_n 2, 1) := by decide +kernel
theorem D245_24 : pgDecT 245 24 = some (.iaload, 1) := by decide +kernel
theorem D245_25 : pgDecT 245 25 = some (.tableswitch 373 0 5 #[39, 59, 132, 177, 201, 252], 39) := by decide +kernel
theorem D245_64 : pgDecT 245 64 = some (.aload_n 0, 1) := by decide +kernel
theorem D245_65 : pgDecT 245 65 = some (.aload_n 0, 1) := by decide +kernel
theorem D245_66 : pgDecT 245 66 = some (.iconst 0, 1) := by decide +kernel
theorem D245_67 : pgDecT 245 67 = some (.aload_n 0, 1) := by decide +kernel
theorem D245_68 : pgDecT 245 68 = some (.getfield 41, 3) := by decide +kernel
theorem F245_41 : pgFf 245 41 = some (12, 14, 3) := by decide +kernel
theorem D245_71 : pgDecT 245 71 = some (.iload_n 2, 1) := by decide +kernel
theorem D245_72 : pgDecT 245 72 = some (.iaload, 1) := by decide +kernel
theorem D245_73 : pgDecT 245 73 = some (.iconst 0, 1) := by decide +kernel
theorem D245_74 : pgDecT 245 74 = some (.iconst 0, 1) := by decide +kernel
theorem D245_75 : pgDecT 245 75 = some (.iconst 0, 1) := by decide +kernel
theorem D245_76 : pgDecT 245 76 = some (.iconst 0, 1) := by decide +kernel
theorem D245_77 : pgDecT 245 77 = some (.invokevirtual 369, 3) := by decide +kernel
theorem I245_369 : pgIi 245 369 = some (247, 6, 12) := by decide +kernel
theorem D245_80 : pgDecT 245 80 = some (.putfield 373, 3) := by decide +kernel
theorem F245_373 : pgFf 245 373 = some (12, 78, 0) := by decide +kernel
theorem D245_83 : pgDecT 245 83 = some (.return_, 1) := by decide +kernel
theorem D245_84 : pgDecT 245 84 = some (.aload_n 0, 1) := by decide +kernel
theorem D245_85 : pgDecT 245 85 = some (.aload_n 0, 1) := by decide +kernel
theorem D245_86 : pgDecT 245 86 = some (.getfield 41, 3) := by decide +kernel
theorem D245_89 : pgDecT 245 89 = some (.iload_n 2, 1) := by decide +kernel
theorem D245_90 : pgDecT 245 90 = some (.iaload, 1) := by decide +kernel
theorem D245_91 : pgDecT 245 91 = some (.iconst 2, 1) := by decide +kernel
theorem D245_92 : pgDecT 245 92 = some (.if_icmp .ge 23, 3) := by decide +kernel
theorem D245_115 : pgDecT 245 115 = some (.aload_n 0, 1) := by decide +kernel
theorem D245_116 : pgDecT 245 116 = some (.getfield 41, 3) := by decide +kernel
theorem D245_119 : pgDecT 245 119 = some (.iload_n 2, 1) := by decide +kernel
theorem D245_120 : pgDecT 245 120 = some (.iaload, 1) := by decide +kernel
theorem D245_121 : pgDecT 245 121 = some (.iconst 5, 1) := by decide +kernel
theorem D245_122 : pgDecT 245 122 = some (.if_icmp .ne 16, 3) := by decide +kernel
theorem D245_138 : pgDecT 245 138 = some (.aload_n 0, 1) := by decide +kernel
theorem D245_139 : pgDecT 245 139 = some (.iconst 4, 1) := by decide +kernel
theorem D245_140 : pgDecT 245 140 = some (.aload_n 0, 1) := by decide +kernel
theorem D245_141 : pgDecT 245 141 = some (.getfield 41, 3) := by decide +kernel
theorem D245_144 : pgDecT 245 144 = some (.iload_n 2, 1) := by decide +kernel
theorem D245_145 : pgDecT 245 145 = some (.iaload, 1) := by decide +kernel
theorem D245_146 : pgDecT 245 146 = some (.iconst 0, 1) := by decide +kernel
theorem D245_147 : pgDecT 245 147 = some (.iconst (-1), 1) := by decide +kernel
theorem D245_148 : pgDecT 245 148 = some (.iconst (-1), 1) := by decide +kernel
theorem D245_149 : pgDecT 245 149 = some (.iconst 0, 1) := by decide +kernel
theorem D245_150 : pgDecT 245 150 = some (.invokevirtual 369, 3) := by decide +kernel
theorem D245_153 : pgDecT 245 153 = some (.putfield 373, 3) := by decide +kernel
theorem D245_156 : pgDecT 245 156 = some (.return_, 1) := by decide +kernel
theorem D245_125 : pgDecT 245 125 = some (.aload_n 0, 1) := by decide +kernel
theorem D245_126 : pgDecT 245 126 = some (.iconst 2, 1) := by decide +kernel
theorem D245_127 : pgDecT 245 127 = some (.iconst 0, 1) := by decide +kernel
theorem D245_128 : pgDecT 245 128 = some (.iconst 0, 1) := by decide +kernel
theorem D245_129 : pgDecT 245 129 = some (.iconst 0, 1) := by decide +kernel
theorem D245_130 : pgDecT 245 130 = some (.iconst 0, 1) := by decide +kernel
theorem D245_131 : pgDecT 245 131 = some (.iconst 0, 1) := by decide +kernel
theorem D245_132 : pgDecT 245 132 = some (.invokevirtual 369, 3) := by decide +kernel
theorem D245_135 : pgDecT 245 135 = some (.goto 18, 3) := by decide +kernel
theorem D245_95 : pgDecT 245 95 = some (.aload_n 0, 1) := by decide +kernel
theorem D245_96 : pgDecT 245 96 = some (.iconst 1, 1) := by decide +kernel
theorem D245_97 : pgDecT 245 97 = some (.iconst 1, 1) := by decide +kernel
theorem D245_98 : pgDecT 245 98 = some (.aload_n 0, 1) := by decide +kernel
theorem D245_99 : pgDecT 245 99 = some (.getfield 41, 3) := by decide +kernel
theorem D245_102 : pgDecT 245 102 = some (.iload_n 2, 1) := by decide +kernel
theorem D245_103 : pgDecT 245 103 = some (.iaload, 1) := by decide +kernel
theorem D245_104 : pgDecT 245 104 = some (.isub, 1) := by decide +kernel
theorem D245_105 : pgDecT 245 105 = some (.iconst 0, 1) := by decide +kernel
theorem D245_106 : pgDecT 245 106 = some (.iconst 0, 1) := by decide +kernel
theorem D245_107 : pgDecT 245 107 = some (.iconst 0, 1) := by decide +kernel
theorem D245_108 : pgDecT 245 108 = some (.iconst 0, 1) := by decide +kernel
theorem D245_109 : pgDecT 245 109 = some (.invokevirtual 369, 3) := by decide +kernel
theorem D245_112 : pgDecT 245 112 = some (.goto 41, 3) := by decide +kernel
theorem D245_157 : pgDecT 245 157 = some (.iload 4, 2) := by decide +kernel
theorem D245_159 : pgDecT 245 159 = some (.istore 7, 2) := by decide +kernel
theorem D245_161 : pgDecT 245 161 = some (.iconst 0, 1) := by decide +kernel
theorem D245_162 : pgDecT 245 162 = some (.istore 8, 2) := by decide +kernel
theorem D245_164 : pgDecT 245 164 = some (.iload 8, 2) := by decide +kernel
theorem D245_202 : pgDecT 245 202 = some (.aload_n 0, 1) := by decide +kernel
theorem D245_203 : pgDecT 245 203 = some (.aload_n 0, 1) := by decide +kernel
theorem D245_204 : pgDecT 245 204 = some (.iconst 5, 1) := by decide +kernel
theorem D245_205 : pgDecT 245 205 = some (.iload_n 1, 1) := by decide +kernel
theorem D245_206 : pgDecT 245 206 = some (.aload_n 0, 1) := by decide +kernel
theorem D245_207 : pgDecT 245 207 = some (.getfield 41, 3) := by decide +kernel
theorem D245_210 : pgDecT 245 210 = some (.iload_n 2, 1) := by decide +kernel
theorem D245_211 : pgDecT 245 211 = some (.iaload, 1) := by decide +kernel
theorem D245_212 : pgDecT 245 212 = some (.iload_n 3, 1) := by decide +kernel
theorem D245_213 : pgDecT 245 213 = some (.iconst 1, 1) := by decide +kernel
theorem D245_214 : pgDecT 245 214 = some (.iadd, 1) := by decide +kernel
theorem D245_215 : pgDecT 245 215 = some (.iload 4, 2) := by decide +kernel
theorem D245_217 : pgDecT 245 217 = some (.iload 5, 2) := by decide +kernel
theorem D245_219 : pgDecT 245 219 = some (.invokevirtual 369, 3) := by decide +kernel
theorem D245_222 : pgDecT 245 222 = some (.putfield 373, 3) := by decide +kernel
theorem D245_225 : pgDecT 245 225 = some (.return_, 1) := by decide +kernel
theorem D245_226 : pgDecT 245 226 = some (.aload_n 0, 1) := by decide +kernel
theorem D245_227 : pgDecT 245 227 = some (.iconst 1, 1) := by decide +kernel
theorem D245_228 : pgDecT 245 228 = some (.iload_n 1, 1) := by decide +kernel
theorem D245_229 : pgDecT 245 229 = some (.aload_n 0, 1) := by decide +kernel
theorem D245_230 : pgDecT 245 230 = some (.getfield 44, 3) := by decide +kernel
theorem F245_44 : pgFf 245 44 = some (12, 15, 3) := by decide +kernel
theorem D245_233 : pgDecT 245 233 = some (.iload_n 2, 1) := by decide +kernel
theorem D245_234 : pgDecT 245 234 = some (.iaload, 1) := by decide +kernel
theorem D245_235 : pgDecT 245 235 = some (.iload_n 3, 1) := by decide +kernel
theorem D245_236 : pgDecT 245 236 = some (.iconst 1, 1) := by decide +kernel
theorem D245_237 : pgDecT 245 237 = some (.iadd, 1) := by decide +kernel
theorem D245_238 : pgDecT 245 238 = some (.aload_n 0, 1) := by decide +kernel
theorem D245_239 : pgDecT 245 239 = some (.getfield 47, 3) := by decide +kernel
theorem F245_47 : pgFf 245 47 = some (12, 16, 3) := by decide +kernel
theorem D245_242 : pgDecT 245 242 = some (.aload_n 0, 1) := by decide +kernel
theorem D245_243 : pgDecT 245 243 = some (.getfield 41, 3) := by decide +kernel
theorem D245_246 : pgDecT 245 246 = some (.iload_n 2, 1) := by decide +kernel
theorem D245_247 : pgDecT 245 247 = some (.iaload, 1) := by decide +kernel
theorem D245_248 : pgDecT 245 248 = some (.iaload, 1) := by decide +kernel
theorem D245_249 : pgDecT 245 249 = some (.iadd, 1) := by decide +kernel
theorem D245_250 : pgDecT 245 250 = some (.iload 4, 2) := by decide +kernel
theorem D245_252 : pgDecT 245 252 = some (.iload 5, 2) := by decide +kernel
theorem D245_254 : pgDecT 245 254 = some (.invokevirtual 376, 3) := by decide +kernel
theorem I245_376 : pgIi 245 376 = some (243, 6, 12) := by decide +kernel
theorem D245_257 : pgDecT 245 257 = some (.aload_n 0, 1) := by decide +kernel
theorem D245_258 : pgDecT 245 258 = some (.iconst 0, 1) := by decide +kernel
theorem D245_259 : pgDecT 245 259 = some (.iload_n 1, 1) := by decide +kernel
theorem D245_260 : pgDecT 245 260 = some (.aload_n 0, 1) := by decide +kernel
theorem D245_261 : pgDecT 245 261 = some (.getfield 41, 3) := by decide +kernel
theorem D245_264 : pgDecT 245 264 = some (.iload_n 2, 1) := by decide +kernel
theorem D245_265 : pgDecT 245 265 = some (.iaload, 1) := by decide +kernel
theorem D245_266 : pgDecT 245 266 = some (.iload_n 3, 1) := by decide +kernel
theorem D245_267 : pgDecT 245 267 = some (.iconst 1, 1) := by decide +kernel
theorem D245_268 : pgDecT 245 268 = some (.iadd, 1) := by decide +kernel
theorem D245_269 : pgDecT 245 269 = some (.iload 4, 2) := by decide +kernel
theorem D245_271 : pgDecT 245 271 = some (.iload 5, 2) := by decide +kernel
theorem D245_273 : pgDecT 245 273 = some (.invokevirtual 376, 3) := by decide +kernel
theorem D245_276 : pgDecT 245 276 = some (.return_, 1) := by decide +kernel
theorem D245_277 : pgDecT 245 277 = some (.aload_n 0, 1) := by decide +kernel
theorem D245_278 : pgDecT 245 278 = some (.aload_n 0, 1) := by decide +kernel
theorem D245_279 : pgDecT 245 279 = some (.getfield 66, 3) := by decide +kernel
theorem F245_66 : pgFf 245 66 = some (12, 23, 3) := by decide +kernel
theorem D245_282 : pgDecT 245 282 = some (.iload 6, 2) := by decide +kernel
theorem D245_284 : pgDecT 245 284 = some (.iaload, 1) := by decide +kernel
theorem D245_285 : pgDecT 245 285 = some (.iload 5, 2) := by decide +kernel
theorem D245_287 : pgDecT 245 287 = some (.invokevirtual 380, 3) := by decide +kernel
theorem I245_380 : pgIi 245 380 = some (248, 2, 12) := by decide +kernel
theorem D245_290 : pgDecT 245 290 = some (.aload_n 0, 1) := by decide +kernel
theorem D245_291 : pgDecT 245 291 = some (.getfield 70, 3) := by decide +kernel
theorem F245_70 : pgFf 245 70 = some (12, 25, 3) := by decide +kernel
theorem D245_294 : pgDecT 245 294 = some (.aload_n 0, 1) := by decide +kernel
theorem D245_295 : pgDecT 245 295 = some (.getfield 360, 3) := by decide +kernel
theorem F245_360 : pgFf 245 360 = some (12, 79, 0) := by decide +kernel
theorem D245_298 : pgDecT 245 298 = some (.iaload, 1) := by decide +kernel
theorem D245_299 : pgDecT 245 299 = some (.iconst 3, 1) := by decide +kernel
theorem D245_300 : pgDecT 245 300 = some (.if_icmp .ne 7, 3) := by decide +kernel
theorem D245_307 : pgDecT 245 307 = some (.aload_n 0, 1) := by decide +kernel
theorem D245_308 : pgDecT 245 308 = some (.getfield 70, 3) := by decide +kernel
theorem D245_311 : pgDecT 245 311 = some (.aload_n 0, 1) := by decide +kernel
theorem D245_312 : pgDecT 245 312 = some (.getfield 360, 3) := by decide +kernel
theorem D245_315 : pgDecT 245 315 = some (.iaload, 1) := by decide +kernel
theorem D245_316 : pgDecT 245 316 = some (.istore 7, 2) := by decide +kernel
theorem D245_318 : pgDecT 245 318 = some (.iload 7, 2) := by decide +kernel
theorem D245_320 : pgDecT 245 320 = some (.iconst 2, 1) := by decide +kernel
theorem D245_321 : pgDecT 245 321 = some (.if_icmp .ne 20, 3) := by decide +kernel
theorem D245_341 : pgDecT 245 341 = some (.aload_n 0, 1) := by decide +kernel
theorem D245_342 : pgDecT 245 342 = some (.iconst 0, 1) := by decide +kernel
theorem D245_343 : pgDecT 245 343 = some (.aload_n 0, 1) := by decide +kernel
theorem D245_344 : pgDecT 245 344 = some (.getfield 41, 3) := by decide +kernel
theorem D245_347 : pgDecT 245 347 = some (.iload_n 2, 1) := by decide +kernel
theorem D245_348 : pgDecT 245 348 = some (.iaload, 1) := by decide +kernel
theorem D245_349 : pgDecT 245 349 = some (.iload 7, 2) := by decide +kernel
theorem D245_351 : pgDecT 245 351 = some (.aload_n 0, 1) := by decide +kernel
theorem D245_352 : pgDecT 245 352 = some (.getfield 44, 3) := by decide +kernel
theorem D245_355 : pgDecT 245 355 = some (.iload_n 2, 1) := by decide +kernel
theorem D245_356 : pgDecT 245 356 = some (.iaload, 1) := by decide +kernel
theorem D245_357 : pgDecT 245 357 = some (.invokestatic 335, 3) := by decide +kernel
theorem I245_335 : pgIi 245 335 = some (240, 3, 100) := by decide +kernel
theorem D245_360 : pgDecT 245 360 = some (.aload_n 0, 1) := by decide +kernel
theorem D245_361 : pgDecT 245 361 = some (.getfield 35, 3) := by decide +kernel
theorem F245_35 : pgFf 245 35 = some (12, 11, 3) := by decide +kernel
theorem D245_364 : pgDecT 245 364 = some (.bipush 9, 2) := by decide +kernel
theorem D245_366 : pgDecT 245 366 = some (.aload_n 0, 1) := by decide +kernel
theorem D245_367 : pgDecT 245 367 = some (.getfield 41, 3) := by decide +kernel
theorem D245_370 : pgDecT 245 370 = some (.iload_n 2, 1) := by decide +kernel
theorem D245_371 : pgDecT 245 371 = some (.iaload, 1) := by decide +kernel
theorem D245_372 : pgDecT 245 372 = some (.imul, 1) := by decide +kernel
theorem D245_373 : pgDecT 245 373 = some (.iconst 3, 1) := by decide +kernel
theorem D245_374 : pgDecT 245 374 = some (.iload 7, 2) := by decide +kernel
theorem D245_376 : pgDecT 245 376 = some (.imul, 1) := by decide +kernel
theorem D245_377 : pgDecT 245 377 = some (.iadd, 1) := by decide +kernel
theorem D245_378 : pgDecT 245 378 = some (.aload_n 0, 1) := by decide +kernel
theorem D245_379 : pgDecT 245 379 = some (.getfield 44, 3) := by decide +kernel
theorem D245_382 : pgDecT 245 382 = some (.iload_n 2, 1) := by decide +kernel
theorem D245_383 : pgDecT 245 383 = some (.iaload, 1) := by decide +kernel
theorem D245_384 : pgDecT 245 384 = some (.iadd, 1) := by decide +kernel
theorem D245_385 : pgDecT 245 385 = some (.iaload, 1) := by decide +kernel
theorem D245_386 : pgDecT 245 386 = some (.iconst 0, 1) := by decide +kernel
theorem D245_387 : pgDecT 245 387 = some (.iconst (-1), 1) := by decide +kernel
theorem D245_388 : pgDecT 245 388 = some (.aload_n 0, 1) := by decide +kernel
theorem D245_389 : pgDecT 245 389 = some (.getfield 386, 3) := by decide +kernel
theorem F245_386 : pgFf 245 386 = some (12, 68, 0) := by decide +kernel
theorem D245_392 : pgDecT 245 392 = some (.iconst 1, 1) := by decide +kernel
theorem D245_393 : pgDecT 245 393 = some (.isub, 1) := by decide +kernel
theorem D245_394 : pgDecT 245 394 = some (.invokevirtual 376, 3) := by decide +kernel
theorem D245_397 : pgDecT 245 397 = some (.return_, 1) := by decide +kernel
theorem D245_324 : pgDecT 245 324 = some (.aload_n 0, 1) := by decide +kernel
theorem D245_325 : pgDecT 245 325 = some (.aload_n 0, 1) := by decide +kernel
theorem D245_326 : pgDecT 245 326 = some (.getfield 73, 3) := by decide +kernel
theorem F245_73 : pgFf 245 73 = some (12, 26, 3) := by decide +kernel
theorem D245_329 : pgDecT 245 329 = some (.aload_n 0, 1) := by decide +kernel
theorem D245_330 : pgDecT 245 330 = some (.getfield 360, 3) := by decide +kernel
theorem D245_333 : pgDecT 245 333 = some (.iaload, 1) := by decide +kernel
theorem D245_334 : pgDecT 245 334 = some (.aload_n 0, 1) := by decide +kernel
theorem D245_335 : pgDecT 245 335 = some (.getfield 363, 3) := by decide +kernel
theorem F245_363 : pgFf 245 363 = some (12, 80, 0) := by decide +kernel
theorem D245_338 : pgDecT 245 338 = some (.invokevirtual 383, 3) := by decide +kernel
theorem I245_383 : pgIi 245 383 = some (249, 2, 12) := by decide +kernel
theorem D245_303 : pgDecT 245 303 = some (.iconst 2, 1) := by decide +kernel
theorem D245_304 : pgDecT 245 304 = some (.goto 12, 3) := by decide +kernel
theorem D245_398 : pgDecT 245 398 = some (.aload_n 0, 1) := by decide +kernel
theorem D245_399 : pgDecT 245 399 = some (.getfield 41, 3) := by decide +kernel
theorem D245_402 : pgDecT 245 402 = some (.iload_n 2, 1) := by decide +kernel
theorem D245_403 : pgDecT 245 403 = some (.iaload, 1) := by decide +kernel
theorem D245_404 : pgDecT 245 404 = some (.istore 7, 2) := by decide +kernel
theorem D245_406 : pgDecT 245 406 = some (.iconst 0, 1) := by decide +kernel
theorem D245_407 : pgDecT 245 407 = some (.istore 8, 2) := by decide +kernel
theorem D245_409 : pgDecT 245 409 = some (.iload 8, 2) := by decide +kernel
theorem D245_7 : pgDecT 245 7 = some (.return_, 1) := by decide +kernel
theorem D245_166 : pgDecT 245 166 = some (.aload_n 0, 1) := by decide +kernel
theorem D245_167 : pgDecT 245 167 = some (.getfield 41, 3) := by decide +kernel
theorem D245_170 : pgDecT 245 170 = some (.iload_n 2, 1) := by decide +kernel
theorem D245_171 : pgDecT 245 171 = some (.iaload, 1) := by decide +kernel
theorem D245_172 : pgDecT 245 172 = some (.if_icmp .ge 18, 3) := by decide +kernel
theorem D245_190 : pgDecT 245 190 = some (.aload_n 0, 1) := by decide +kernel
theorem D245_191 : pgDecT 245 191 = some (.aload_n 0, 1) := by decide +kernel
theorem D245_192 : pgDecT 245 192 = some (.getfield 139, 3) := by decide +kernel
theorem F245_139 : pgFf 245 139 = some (12, 63, 3) := by decide +kernel
theorem D245_195 : pgDecT 245 195 = some (.iload 7, 2) := by decide +kernel
theorem D245_197 : pgDecT 245 197 = some (.iaload, 1) := by decide +kernel
theorem D245_198 : pgDecT 245 198 = some (.putfield 373, 3) := by decide +kernel
theorem D245_201 : pgDecT 245 201 = some (.return_, 1) := by decide +kernel
theorem D245_175 : pgDecT 245 175 = some (.aload_n 0, 1) := by decide +kernel
theorem D245_176 : pgDecT 245 176 = some (.getfield 142, 3) := by decide +kernel
theorem F245_142 : pgFf 245 142 = some (12, 64, 3) := by decide +kernel
theorem D245_179 : pgDecT 245 179 = some (.iload 7, 2) := by decide +kernel
theorem D245_181 : pgDecT 245 181 = some (.iaload, 1) := by decide +kernel
theorem D245_182 : pgDecT 245 182 = some (.istore 7, 2) := by decide +kernel
theorem D245_184 : pgDecT 245 184 = some (.iinc 8 1, 3) := by decide +kernel
theorem D245_187 : pgDecT 245 187 = some (.goto (-23), 3) := by decide +kernel
theorem D245_411 : pgDecT 245 411 = some (.aload_n 0, 1) := by decide +kernel
theorem D245_412 : pgDecT 245 412 = some (.getfield 56, 3) := by decide +kernel
theorem F245_56 : pgFf 245 56 = some (12, 20, 3) := by decide +kernel
theorem D245_415 : pgDecT 245 415 = some (.iload 7, 2) := by decide +kernel
theorem D245_417 : pgDecT 245 417 = some (.iaload, 1) := by decide +kernel
theorem D245_418 : pgDecT 245 418 = some (.if_icmp .ge 51, 3) := by decide +kernel
theorem D245_469 : pgDecT 245 469 = some (.aload_n 0, 1) := by decide +kernel
theorem D245_470 : pgDecT 245 470 = some (.dup, 1) := by decide +kernel
theorem D245_471 : pgDecT 245 471 = some (.getfield 386, 3) := by decide +kernel
theorem D245_474 : pgDecT 245 474 = some (.iconst 1, 1) := by decide +kernel
theorem D245_475 : pgDecT 245 475 = some (.iadd, 1) := by decide +kernel
theorem D245_476 : pgDecT 245 476 = some (.putfield 386, 3) := by decide +kernel
theorem D245_479 : pgDecT 245 479 = some (.aload_n 0, 1) := by decide +kernel
theorem D245_480 : pgDecT 245 480 = some (.iconst 0, 1) := by decide +kernel
theorem D245_481 : pgDecT 245 481 = some (.iload 7, 2) := by decide +kernel
theorem D245_483 : pgDecT 245 483 = some (.aload_n 0, 1) := by decide +kernel
theorem D245_484 : pgDecT 245 484 = some (.getfield 50, 3) := by decide +kernel
theorem F245_50 : pgFf 245 50 = some (12, 18, 3) := by decide +kernel
theorem D245_487 : pgDecT 245 487 = some (.iload 7, 2) := by decide +kernel
theorem D245_489 : pgDecT 245 489 = some (.iaload, 1) := by decide +kernel
theorem D245_490 : pgDecT 245 490 = some (.iconst 0, 1) := by decide +kernel
theorem D245_491 : pgDecT 245 491 = some (.iconst (-1), 1) := by decide +kernel
theorem D245_492 : pgDecT 245 492 = some (.aload_n 0, 1) := by decide +kernel
theorem D245_493 : pgDecT 245 493 = some (.getfield 386, 3) := by decide +kernel
theorem D245_496 : pgDecT 245 496 = some (.iconst 1, 1) := by decide +kernel
theorem D245_497 : pgDecT 245 497 = some (.isub, 1) := by decide +kernel
theorem D245_498 : pgDecT 245 498 = some (.invokevirtual 376, 3) := by decide +kernel
theorem D245_501 : pgDecT 245 501 = some (.return_, 1) := by decide +kernel
theorem D245_421 : pgDecT 245 421 = some (.aload_n 0, 1) := by decide +kernel
theorem D245_422 : pgDecT 245 422 = some (.getfield 154, 3) := by decide +kernel
theorem F245_154 : pgFf 245 154 = some (12, 69, 3) := by decide +kernel
theorem D245_425 : pgDecT 245 425 = some (.bipush 8, 2) := by decide +kernel
theorem D245_427 : pgDecT 245 427 = some (.aload_n 0, 1) := by decide +kernel
theorem D245_428 : pgDecT 245 428 = some (.getfield 386, 3) := by decide +kernel
theorem D245_431 : pgDecT 245 431 = some (.imul, 1) := by decide +kernel
theorem D245_432 : pgDecT 245 432 = some (.iload 8, 2) := by decide +kernel
theorem D245_434 : pgDecT 245 434 = some (.iadd, 1) := by decide +kernel
theorem D245_435 : pgDecT 245 435 = some (.aload_n 0, 1) := by decide +kernel
theorem D245_436 : pgDecT 245 436 = some (.getfield 66, 3) := by decide +kernel
theorem D245_439 : pgDecT 245 439 = some (.iload 6, 2) := by decide +kernel
theorem D245_441 : pgDecT 245 441 = some (.iload 8, 2) := by decide +kernel
theorem D245_443 : pgDecT 245 443 = some (.iadd, 1) := by decide +kernel
theorem D245_444 : pgDecT 245 444 = some (.iaload, 1) := by decide +kernel
theorem D245_445 : pgDecT 245 445 = some (.iastore, 1) := by decide +kernel
theorem D245_446 : pgDecT 245 446 = some (.aload_n 0, 1) := by decide +kernel
theorem D245_447 : pgDecT 245 447 = some (.getfield 157, 3) := by decide +kernel
theorem F245_157 : pgFf 245 157 = some (12, 70, 3) := by decide +kernel
theorem D245_450 : pgDecT 245 450 = some (.bipush 8, 2) := by decide +kernel
theorem D245_452 : pgDecT 245 452 = some (.aload_n 0, 1) := by decide +kernel
theorem D245_453 : pgDecT 245 453 = some (.getfield 386, 3) := by decide +kernel
theorem D245_456 : pgDecT 245 456 = some (.imul, 1) := by decide +kernel
theorem D245_457 : pgDecT 245 457 = some (.iload 8, 2) := by decide +kernel
theorem D245_459 : pgDecT 245 459 = some (.iadd, 1) := by decide +kernel
theorem D245_460 : pgDecT 245 460 = some (.iload 5, 2) := by decide +kernel
theorem D245_462 : pgDecT 245 462 = some (.iastore, 1) := by decide +kernel
theorem D245_463 : pgDecT 245 463 = some (.iinc 8 1, 3) := by decide +kernel
theorem D245_466 : pgDecT 245 466 = some (.goto (-57), 3) := by decide +kernel
/-! 245: DictionaryHouseModel.evaluate (IIIII)V -/
def l245 : Nat → Nat → Mm → Int → Int → Int → Int → Int → Int → Int → Int → Option (Int × Mm)
  | 0, _, _, _, _, _, _, _, _, _, _ => none
  | f + 1, 164, M, x1, x2, x3, x4, x5, x6, x7, x8 => if 0 ≤ x2 ∧ x2 < 200 then (if (M 64 (Int.toNat x2)) ≤ x8 then (if 0 ≤ x7 ∧ x7 < 6000 then (some (0, (up M 53 78 (M 96 (Int.toNat x7))))) else none) else (if 0 ≤ x7 ∧ x7 < 6000 then (if rg (x8 + 1) then (l245 f 164 M x1 x2 x3 x4 x5 x6 (M 97 (Int.toNat x7)) (x8 + 1)) else none) else none)) else none
  | f + 1, 318, M, x1, x2, x3, x4, x5, x6, x7, _ => if ¬ x7 = 2 then (l245 f 341 M x1 x2 x3 x4 x5 x6 x7 0) else (if 0 ≤ (M 53 79) ∧ (M 53 79) < 200000 then (f249 M (M 74 (Int.toNat (M 53 79))) (M 53 80)).bind (fun zq97 => l245 f 341 zq97.2 x1 x2 x3 x4 x5 x6 x7 0) else none)
  | f + 1, 409, M, x1, x2, x3, x4, x5, x6, x7, x8 => if 0 ≤ x7 ∧ x7 < 20 then (if (M 69 (Int.toNat x7)) ≤ x8 then (if rg ((M 53 68) + 1) then (if rg (((M 53 68) + 1) - 1) then (f243 (up M 53 68 ((M 53 68) + 1)) 0 x7 (M 67 (Int.toNat x7)) 0 (-1) (((M 53 68) + 1) - 1)).bind (fun zq109 => some (0, zq109.2)) else none) else none) else (if 0 ≤ (x6 + x8) ∧ (x6 + x8) < 35520 then (if 0 ≤ (((8 : Int) * (M 53 68)) + x8) ∧ (((8 : Int) * (M 53 68)) + x8) < 4000 then (if rg (x8 + 1) then (l245 f 409 (up (up M 101 (Int.toNat (((8 : Int) * (M 53 68)) + x8)) (M 72 (Int.toNat (x6 + x8)))) 102 (Int.toNat (((8 : Int) * (M 53 68)) + x8)) x5) x1 x2 x3 x4 x5 x6 x7 (x8 + 1)) else none) else none) else none)) else none
  | f + 1, 341, M, x1, x2, x3, x4, x5, x6, x7, _ => if 0 ≤ x2 ∧ x2 < 200 then (f240 M (M 64 (Int.toNat x2)) x7 (M 65 (Int.toNat x2))).bind (fun q123 => if 0 ≤ ((((9 : Int) * (M 64 (Int.toNat x2))) + ((3 : Int) * x7)) + (M 65 (Int.toNat x2))) ∧ ((((9 : Int) * (M 64 (Int.toNat x2))) + ((3 : Int) * x7)) + (M 65 (Int.toNat x2))) < 54 then (if rg ((M 53 68) - 1) then (f243 M 0 q123 (M 62 (Int.toNat ((((9 : Int) * (M 64 (Int.toNat x2))) + ((3 : Int) * x7)) + (M 65 (Int.toNat x2))))) 0 (-1) ((M 53 68) - 1)).bind (fun zq130 => some (0, zq130.2)) else none) else none) else none
  | _, _, _, _, _, _, _, _, _, _, _ => none
theorem d245 {L : Nat} {xs : Nat → Int32} (f : Nat) : (∀ (M : Mm) (x1 x2 x3 x4 x5 x6 x7 x8 : Int) (h : mvH) (v : Int) (M' : Mm), l245 f 164 M x1 x2 x3 x4 x5 x6 x7 x8 = some (v, M') → rp h M → rg x1 → rg x2 → rg x3 → rg x4 → rg x5 → rg x6 → rg x7 → rg x8 → evx L xs 2 245 164 [(0, .inr (.inr (.inl (some 53)))), (1, .inl (iz x1)), (2, .inl (iz x2)), (3, .inl (iz x3)), (4, .inl (iz x4)), (5, .inl (iz x5)), (6, .inl (iz x6)), (7, .inl (iz x7)), (8, .inl (iz x8))] [] h (.inl none, 0) M') ∧ (∀ (M : Mm) (x1 x2 x3 x4 x5 x6 x7 : Int) (h : mvH) (v : Int) (M' : Mm), l245 f 318 M x1 x2 x3 x4 x5 x6 x7 0 = some (v, M') → rp h M → rg x1 → rg x2 → rg x3 → rg x4 → rg x5 → rg x6 → rg x7 → evx L xs 2 245 318 [(0, .inr (.inr (.inl (some 53)))), (1, .inl (iz x1)), (2, .inl (iz x2)), (3, .inl (iz x3)), (4, .inl (iz x4)), (5, .inl (iz x5)), (6, .inl (iz x6)), (7, .inl (iz x7))] [] h (.inl none, 0) M') ∧ (∀ (M : Mm) (x1 x2 x3 x4 x5 x6 x7 x8 : Int) (h : mvH) (v : Int) (M' : Mm), l245 f 409 M x1 x2 x3 x4 x5 x6 x7 x8 = some (v, M') → rp h M → rg x1 → rg x2 → rg x3 → rg x4 → rg x5 → rg x6 → rg x7 → rg x8 → evx L xs 2 245 409 [(0, .inr (.inr (.inl (some 53)))), (1, .inl (iz x1)), (2, .inl (iz x2)), (3, .inl (iz x3)), (4, .inl (iz x4)), (5, .inl (iz x5)), (6, .inl (iz x6)), (7, .inl (iz x7)), (8, .inl (iz x8))] [] h (.inl none, 0) M') ∧ (∀ (M : Mm) (x1 x2 x3 x4 x5 x6 x7 : Int) (h : mvH) (v : Int) (M' : Mm), l245 f 341 M x1 x2 x3 x4 x5 x6 x7 0 = some (v, M') → rp h M → rg x1 → rg x2 → rg x3 → rg x4 → rg x5 → rg x6 → rg x7 → evx L xs 2 245 341 [(0, .inr (.inr (.inl (some 53)))), (1, .inl (iz x1)), (2, .inl (iz x2)), (3, .inl (iz x3)), (4, .inl (iz x4)), (5, .inl (iz x5)), (6, .inl (iz x6)), (7, .inl (iz x7))] [] h (.inl none, 0) M') := by
  induction f with
  | zero => exact ⟨(fun M x1 x2 x3 x4 x5 x6 x7 x8 h v M' hs _ _ _ _ _ _ _ _ _ => by cases hs), (fun M x1 x2 x3 x4 x5 x6 x7 h v M' hs _ _ _ _ _ _ _ _ => by cases hs), (fun M x1 x2 x3 x4 x5 x6 x7 x8 h v M' hs _ _ _ _ _ _ _ _ _ => by cases hs), (fun M x1 x2 x3 x4 x5 x6 x7 h v M' hs _ _ _ _ _ _ _ _ => by cases hs)⟩
  | succ f ih =>
    refine ⟨?_, ?_, ?_, ?_⟩
    · intro M x1 x2 x3 x4 x5 x6 x7 x8 h v M' hs R rx1 rx2 rx3 rx4 rx5 rx6 rx7 rx8
      rw [l245] at hs
      refine evx_F E245 D245_164 rfl rfl ?_
      refine evx_F E245 D245_166 rfl rfl ?_
      refine evx_gfr E245 D245_167 F245_41 H53 rfl R ?_
      refine evx_F E245 D245_170 rfl rfl ?_
      obtain ⟨k87, hs⟩ := ck hs
      refine evx_ial E245 D245_171 H64 (by decide) R k87 ?_
      by_cases cb88 : (M 64 (Int.toNat x2)) ≤ x8
      · rw [if_pos cb88] at hs
        refine evx_F E245 D245_172 rfl (ifT (c2_ge_T rx8 (R.1 64 (Int.toNat x2)) cb88)) ?_
        refine evx_F E245 D245_190 rfl rfl ?_
        refine evx_F E245 D245_191 rfl rfl ?_
        refine evx_gfr E245 D245_192 F245_139 H53 rfl R ?_
        refine evx_F E245 D245_195 rfl rfl ?_
        obtain ⟨k89, hs⟩ := ck hs
        refine evx_ial E245 D245_197 H96 (by decide) R k89 ?_
        refine evx_pfi (k := 78) E245 D245_198 F245_373 H53 rfl R (R.1 96 (Int.toNat x7)) rfl ?_
        intro h90 R91
        cases hs
        exact evx_ret E245 D245_201 rfl (fun d => rfl) rfl trivial R91
      · rw [if_neg cb88] at hs
        refine evx_F E245 D245_172 rfl (ifF (c2_ge_F rx8 (R.1 64 (Int.toNat x2)) (by omega))) ?_
        refine evx_F E245 D245_175 rfl rfl ?_
        refine evx_gfr E245 D245_176 F245_142 H53 rfl R ?_
        refine evx_F E245 D245_179 rfl rfl ?_
        obtain ⟨k92, hs⟩ := ck hs
        refine evx_ial E245 D245_181 H97 (by decide) R k92 ?_
        refine evx_F E245 D245_182 rfl rfl ?_
        refine evx_inc E245 D245_184 (Nat.le_of_ble_eq_true rfl) rfl ?_
        refine evx_F E245 D245_187 rfl rfl ?_
        obtain ⟨k93, hs⟩ := ck hs
        show evx _ _ _ _ _ [(8, .inl (iz (x8 + 1))), (7, .inl (iz (M 97 (Int.toNat x7)))), (0, .inr (.inr (.inl (some 53)))), (1, .inl (iz x1)), (2, .inl (iz x2)), (3, .inl (iz x3)), (4, .inl (iz x4)), (5, .inl (iz x5)), (6, .inl (iz x6))] _ _ _ _
        exact evx_lv (lvLe_mk (fm rfl (fm rfl (fm rfl (fm rfl (fm rfl (fm rfl (fm rfl (fm rfl (fm rfl fn))))))))) (fm rfl (fm rfl (fm rfl (fm rfl (fm rfl (fm rfl (fm rfl (fm rfl (fm rfl fn))))))))) (fm rfl (fm rfl (fm rfl (fm rfl (fm rfl (fm rfl (fm rfl (fm rfl (fm rfl fn)))))))))) (ih.1 _ _ _ _ _ _ _ _ _ _ _ _ hs R rx1 rx2 rx3 rx4 rx5 rx6 (R.1 97 (Int.toNat x7)) k93)
    · intro M x1 x2 x3 x4 x5 x6 x7 h v M' hs R rx1 rx2 rx3 rx4 rx5 rx6 rx7
      rw [l245] at hs
      refine evx_F E245 D245_318 rfl rfl ?_
      refine evx_F E245 D245_320 rfl rfl ?_
      by_cases cb94 : ¬ x7 = 2
      · rw [if_pos cb94] at hs
        refine evx_F E245 D245_321 rfl (ifT (c2_ne_T rx7 (by decide) cb94)) ?_
        show evx _ _ _ _ _ [(0, .inr (.inr (.inl (some 53)))), (1, .inl (iz x1)), (2, .inl (iz x2)), (3, .inl (iz x3)), (4, .inl (iz x4)), (5, .inl (iz x5)), (6, .inl (iz x6)), (7, .inl (iz x7))] _ _ _ _
        exact evx_lv (lvLe_mk (fm rfl (fm rfl (fm rfl (fm rfl (fm rfl (fm rfl (fm rfl (fm rfl fn)))))))) (fm rfl (fm rfl (fm rfl (fm rfl (fm rfl (fm rfl (fm rfl (fm rfl fn)))))))) (fm rfl (fm rfl (fm rfl (fm rfl (fm rfl (fm rfl (fm rfl (fm rfl fn))))))))) (ih.2.2.2 _ _ _ _ _ _ _ _ _ _ _ hs R rx1 rx2 rx3 rx4 rx5 rx6 rx7)
      · rw [if_neg cb94] at hs
        refine evx_F E245 D245_321 rfl (ifF (c2_ne_F rx7 (by decide) (by omega))) ?_
        refine evx_F E245 D245_324 rfl rfl ?_
        refine evx_F E245 D245_325 rfl rfl ?_
        refine evx_gfr E245 D245_326 F245_73 H53 rfl R ?_
        refine evx_F E245 D245_329 rfl rfl ?_
        refine evx_gfi (k := 79) E245 D245_330 F245_360 H53 rfl R ?_
        obtain ⟨k95, hs⟩ := ck hs
        refine evx_ial E245 D245_333 H74 (by decide) R k95 ?_
        refine evx_F E245 D245_334 rfl rfl ?_
        refine evx_gfi (k := 80) E245 D245_335 F245_363 H53 rfl R ?_
        obtain ⟨⟨q97, M101⟩, e96, hs⟩ := Option.bind_eq_some_iff.mp hs
        dsimp only at hs
        refine evx_cv (D := 1) E245 D245_338 I245_383 rfl rfl H53 ⟨Nat.le_of_ble_eq_true rfl, Nat.le_of_ble_eq_true rfl⟩ ⟨rfl, Nat.le_of_ble_eq_true rfl⟩ rfl R (evx_up (Nat.le_of_ble_eq_true rfl) (c249 R (R.1 74 (Int.toNat (M 53 79))) (R.1 53 80) e96)) ?_
        intro h98 R99 w100
        show evx _ _ _ _ _ [(0, .inr (.inr (.inl (some 53)))), (1, .inl (iz x1)), (2, .inl (iz x2)), (3, .inl (iz x3)), (4, .inl (iz x4)), (5, .inl (iz x5)), (6, .inl (iz x6)), (7, .inl (iz x7))] _ _ _ _
        exact evx_lv (lvLe_mk (fm rfl (fm rfl (fm rfl (fm rfl (fm rfl (fm rfl (fm rfl (fm rfl fn)))))))) (fm rfl (fm rfl (fm rfl (fm rfl (fm rfl (fm rfl (fm rfl (fm rfl fn)))))))) (fm rfl (fm rfl (fm rfl (fm rfl (fm rfl (fm rfl (fm rfl (fm rfl fn))))))))) (ih.2.2.2 _ _ _ _ _ _ _ _ _ _ _ hs R99 rx1 rx2 rx3 rx4 rx5 rx6 rx7)
    · intro M x1 x2 x3 x4 x5 x6 x7 x8 h v M' hs R rx1 rx2 rx3 rx4 rx5 rx6 rx7 rx8
      rw [l245] at hs
      refine evx_F E245 D245_409 rfl rfl ?_
      refine evx_F E245 D245_411 rfl rfl ?_
      refine evx_gfr E245 D245_412 F245_56 H53 rfl R ?_
      refine evx_F E245 D245_415 rfl rfl ?_
      obtain ⟨k102, hs⟩ := ck hs
      refine evx_ial E245 D245_417 H69 (by decide) R k102 ?_
      by_cases cb103 : (M 69 (Int.toNat x7)) ≤ x8
      · rw [if_pos cb103] at hs
        refine evx_F E245 D245_418 rfl (ifT (c2_ge_T rx8 (R.1 69 (Int.toNat x7)) cb103)) ?_
        refine evx_F E245 D245_469 rfl rfl ?_
        refine evx_F E245 D245_470 rfl rfl ?_
        refine evx_gfi (k := 68) E245 D245_471 F245_386 H53 rfl R ?_
        refine evx_F E245 D245_474 rfl rfl ?_
        refine evx_add E245 D245_475 ?_
        obtain ⟨k104, hs⟩ := ck hs
        refine evx_pfi (k := 68) E245 D245_476 F245_386 H53 rfl R k104 rfl ?_
        intro h105 R106
        refine evx_F E245 D245_479 rfl rfl ?_
        refine evx_F E245 D245_480 rfl rfl ?_
        refine evx_F E245 D245_481 rfl rfl ?_
        refine evx_F E245 D245_483 rfl rfl ?_
        refine evx_gfr E245 D245_484 F245_50 H53 rfl R106 ?_
        refine evx_F E245 D245_487 rfl rfl ?_
        refine evx_ial E245 D245_489 H67 (by decide) R106 k102 ?_
        show evx _ _ _ _ _ _ (.inl (iz (M 67 (Int.toNat x7))) :: _) _ _ _
        refine evx_F E245 D245_490 rfl rfl ?_
        refine evx_F E245 D245_491 rfl rfl ?_
        refine evx_F E245 D245_492 rfl rfl ?_
        refine evx_gfi (k := 68) E245 D245_493 F245_386 H53 rfl R106 ?_
        show evx _ _ _ _ _ _ (.inl (iz ((M 53 68) + 1)) :: _) _ _ _
        refine evx_F E245 D245_496 rfl rfl ?_
        refine evx_sub E245 D245_497 ?_
        obtain ⟨k107, hs⟩ := ck hs
        obtain ⟨⟨q109, M113⟩, e108, hs⟩ := Option.bind_eq_some_iff.mp hs
        dsimp only at hs
        refine evx_cv (D := 1) E245 D245_498 I245_376 rfl rfl H53 ⟨Nat.le_of_ble_eq_true rfl, Nat.le_of_ble_eq_true rfl⟩ ⟨rfl, Nat.le_of_ble_eq_true rfl⟩ rfl R106 (evx_up (Nat.le_of_ble_eq_true rfl) (c243 R106 (by decide) rx7 (R106.1 67 (Int.toNat x7)) (by decide) (by decide) k107 e108)) ?_
        intro h110 R111 w112
        cases hs
        exact evx_ret E245 D245_501 rfl (fun d => rfl) rfl trivial R111
      · rw [if_neg cb103] at hs
        refine evx_F E245 D245_418 rfl (ifF (c2_ge_F rx8 (R.1 69 (Int.toNat x7)) (by omega))) ?_
        refine evx_F E245 D245_421 rfl rfl ?_
        refine evx_gfr E245 D245_422 F245_154 H53 rfl R ?_
        refine evx_k (k := 8) E245 D245_425 rfl (by decide) ?_
        refine evx_F E245 D245_427 rfl rfl ?_
        refine evx_gfi (k := 68) E245 D245_428 F245_386 H53 rfl R ?_
        refine evx_mul E245 D245_431 ?_
        refine evx_F E245 D245_432 rfl rfl ?_
        refine evx_add E245 D245_434 ?_
        refine evx_F E245 D245_435 rfl rfl ?_
        refine evx_gfr E245 D245_436 F245_66 H53 rfl R ?_
        refine evx_F E245 D245_439 rfl rfl ?_
        refine evx_F E245 D245_441 rfl rfl ?_
        refine evx_add E245 D245_443 ?_
        obtain ⟨k114, hs⟩ := ck hs
        refine evx_ial E245 D245_444 H72 (by decide) R k114 ?_
        obtain ⟨k115, hs⟩ := ck hs
        refine evx_ias E245 D245_445 H101 (by decide) R k115 (R.1 72 (Int.toNat (x6 + x8))) ?_
        intro h116 R117
        refine evx_F E245 D245_446 rfl rfl ?_
        refine evx_gfr E245 D245_447 F245_157 H53 rfl R117 ?_
        refine evx_k (k := 8) E245 D245_450 rfl (by decide) ?_
        refine evx_F E245 D245_452 rfl rfl ?_
        refine evx_gfi (k := 68) E245 D245_453 F245_386 H53 rfl R117 ?_
        show evx _ _ _ _ _ _ (.inl (iz (M 53 68)) :: _) _ _ _
        refine evx_mul E245 D245_456 ?_
        refine evx_F E245 D245_457 rfl rfl ?_
        refine evx_add E245 D245_459 ?_
        refine evx_F E245 D245_460 rfl rfl ?_
        refine evx_ias E245 D245_462 H102 (by decide) R117 k115 rx5 ?_
        intro h118 R119
        refine evx_inc E245 D245_463 (Nat.le_of_ble_eq_true rfl) rfl ?_
        refine evx_F E245 D245_466 rfl rfl ?_
        obtain ⟨k120, hs⟩ := ck hs
        show evx _ _ _ _ _ [(8, .inl (iz (x8 + 1))), (0, .inr (.inr (.inl (some 53)))), (1, .inl (iz x1)), (2, .inl (iz x2)), (3, .inl (iz x3)), (4, .inl (iz x4)), (5, .inl (iz x5)), (6, .inl (iz x6)), (7, .inl (iz x7))] _ _ _ _
        exact evx_lv (lvLe_mk (fm rfl (fm rfl (fm rfl (fm rfl (fm rfl (fm rfl (fm rfl (fm rfl (fm rfl fn))))))))) (fm rfl (fm rfl (fm rfl (fm rfl (fm rfl (fm rfl (fm rfl (fm rfl (fm rfl fn))))))))) (fm rfl (fm rfl (fm rfl (fm rfl (fm rfl (fm rfl (fm rfl (fm rfl (fm rfl fn)))))))))) (ih.2.2.1 _ _ _ _ _ _ _ _ _ _ _ _ hs R119 rx1 rx2 rx3 rx4 rx5 rx6 rx7 k120)
    · intro M x1 x2 x3 x4 x5 x6 x7 h v M' hs R rx1 rx2 rx3 rx4 rx5 rx6 rx7
      rw [l245] at hs
      refine evx_F E245 D245_341 rfl rfl ?_
      refine evx_F E245 D245_342 rfl rfl ?_
      refine evx_F E245 D245_343 rfl rfl ?_
      refine evx_gfr E245 D245_344 F245_41 H53 rfl R ?_
      refine evx_F E245 D245_347 rfl rfl ?_
      obtain ⟨k121, hs⟩ := ck hs
      refine evx_ial E245 D245_348 H64 (by decide) R k121 ?_
      refine evx_F E245 D245_349 rfl rfl ?_
      refine evx_F E245 D245_351 rfl rfl ?_
      refine evx_gfr E245 D245_352 F245_44 H53 rfl R ?_
      refine evx_F E245 D245_355 rfl rfl ?_
      refine evx_ial E245 D245_356 H65 (by decide) R k121 ?_
      obtain ⟨q123, e122, hs⟩ := Option.bind_eq_some_iff.mp hs
      refine evx_cs (D := 1) E245 D245_357 I245_335 rfl rfl (Nat.le_of_ble_eq_true rfl) ⟨rfl, Nat.le_of_ble_eq_true rfl⟩ rfl (evx_up (Nat.le_of_ble_eq_true rfl) (c240 R (R.1 64 (Int.toNat x2)) rx7 (R.1 65 (Int.toNat x2)) e122)) ?_
      intro h124 R125 w126
      have w126 : rg q123 := w126
      show evx _ _ _ _ _ _ (.inl (iz q123) :: _) _ _ _
      refine evx_F E245 D245_360 rfl rfl ?_
      refine evx_gfr E245 D245_361 F245_35 H53 rfl R125 ?_
      refine evx_k (k := 9) E245 D245_364 rfl (by decide) ?_
      refine evx_F E245 D245_366 rfl rfl ?_
      refine evx_gfr E245 D245_367 F245_41 H53 rfl R125 ?_
      refine evx_F E245 D245_370 rfl rfl ?_
      refine evx_ial E245 D245_371 H64 (by decide) R125 k121 ?_
      refine evx_mul E245 D245_372 ?_
      refine evx_F E245 D245_373 rfl rfl ?_
      refine evx_F E245 D245_374 rfl rfl ?_
      refine evx_mul E245 D245_376 ?_
      refine evx_add E245 D245_377 ?_
      refine evx_F E245 D245_378 rfl rfl ?_
      refine evx_gfr E245 D245_379 F245_44 H53 rfl R125 ?_
      refine evx_F E245 D245_382 rfl rfl ?_
      refine evx_ial E245 D245_383 H65 (by decide) R125 k121 ?_
      refine evx_add E245 D245_384 ?_
      obtain ⟨k127, hs⟩ := ck hs
      refine evx_ial E245 D245_385 H62 (by decide) R125 k127 ?_
      refine evx_F E245 D245_386 rfl rfl ?_
      refine evx_F E245 D245_387 rfl rfl ?_
      refine evx_F E245 D245_388 rfl rfl ?_
      refine evx_gfi (k := 68) E245 D245_389 F245_386 H53 rfl R125 ?_
      refine evx_F E245 D245_392 rfl rfl ?_
      refine evx_sub E245 D245_393 ?_
      obtain ⟨k128, hs⟩ := ck hs
      obtain ⟨⟨q130, M134⟩, e129, hs⟩ := Option.bind_eq_some_iff.mp hs
      dsimp only at hs
      refine evx_cv (D := 1) E245 D245_394 I245_376 rfl rfl H53 ⟨Nat.le_of_ble_eq_true rfl, Nat.le_of_ble_eq_true rfl⟩ ⟨rfl, Nat.le_of_ble_eq_true rfl⟩ rfl R125 (evx_up (Nat.le_of_ble_eq_true rfl) (c243 R125 (by decide) w126 (R125.1 62 (Int.toNat ((((9 : Int) * (M 64 (Int.toNat x2))) + ((3 : Int) * x7)) + (M 65 (Int.toNat x2))))) (by decide) (by decide) k128 e129)) ?_
      intro h131 R132 w133
      cases hs
      exact evx_ret E245 D245_397 rfl (fun d => rfl) rfl trivial R132
def f245 (M : Mm) (x1 : Int) (x2 : Int) (x3 : Int) (x4 : Int) (x5 : Int) : Option (Int × Mm) := (f246 M).bind (fun zq2 => if ¬ zq2.1 = 0 then (if 0 ≤ x2 ∧ x2 < 200 then (if (zq2.2 63 (Int.toNat x2)) = 0 then (f247 zq2.2 0 (zq2.2 64 (Int.toNat x2)) 0 0 0 0).bind (fun zq11 => some (0, (up zq11.2 53 78 zq11.1))) else (if (zq2.2 63 (Int.toNat x2)) = 1 then (if 2 ≤ (zq2.2 64 (Int.toNat x2)) then (if ¬ (zq2.2 64 (Int.toNat x2)) = 5 then (f247 zq2.2 4 (zq2.2 64 (Int.toNat x2)) 0 (-1) (-1) 0).bind (fun zq22 => some (0, (up zq22.2 53 78 zq22.1))) else (f247 zq2.2 2 0 0 0 0 0).bind (fun zq30 => some (0, (up zq30.2 53 78 zq30.1)))) else (if rg ((1 : Int) - (zq2.2 64 (Int.toNat x2))) then (f247 zq2.2 1 ((1 : Int) - (zq2.2 64 (Int.toNat x2))) 0 0 0 0).bind (fun zq39 => some (0, (up zq39.2 53 78 zq39.1))) else none)) else (if (zq2.2 63 (Int.toNat x2)) = 2 then (if rg ((8 : Int) * (((60 : Int) * x1) + x3)) then (l245 FU 164 zq2.2 x1 x2 x3 x4 x5 ((8 : Int) * (((60 : Int) * x1) + x3)) x4 0) else none) else (if (zq2.2 63 (Int.toNat x2)) = 3 then (if rg (x3 + 1) then (f247 zq2.2 5 x1 (zq2.2 64 (Int.toNat x2)) (x3 + 1) x4 x5).bind (fun zq51 => some (0, (up zq51.2 53 78 zq51.1))) else none) else (if (zq2.2 63 (Int.toNat x2)) = 4 then (if 0 ≤ (zq2.2 64 (Int.toNat x2)) ∧ (zq2.2 64 (Int.toNat x2)) < 200 then (if rg ((x3 + 1) + (zq2.2 66 (Int.toNat (zq2.2 64 (Int.toNat x2))))) then (f243 zq2.2 1 x1 (zq2.2 65 (Int.toNat x2)) ((x3 + 1) + (zq2.2 66 (Int.toNat (zq2.2 64 (Int.toNat x2))))) x4 x5).bind (fun zq62 => if rg (x3 + 1) then (f243 zq62.2 0 x1 (zq62.2 64 (Int.toNat x2)) (x3 + 1) x4 x5).bind (fun zq69 => some (0, zq69.2)) else none) else none) else none) else (if (zq2.2 63 (Int.toNat x2)) = 5 then (if 0 ≤ ((8 : Int) * (((60 : Int) * x1) + x3)) ∧ ((8 : Int) * (((60 : Int) * x1) + x3)) < 35520 then (f248 zq2.2 (zq2.2 72 (Int.toNat ((8 : Int) * (((60 : Int) * x1) + x3)))) x5).bind (fun zq77 => if 0 ≤ (zq77.2 53 79) ∧ (zq77.2 53 79) < 200000 then (if ¬ (zq77.2 73 (Int.toNat (zq77.2 53 79))) = 3 then (if rg ((8 : Int) * (((60 : Int) * x1) + x3)) then (l245 FU 318 zq77.2 x1 x2 x3 x4 x5 ((8 : Int) * (((60 : Int) * x1) + x3)) (zq77.2 73 (Int.toNat (zq77.2 53 79))) 0) else none) else (if rg ((8 : Int) * (((60 : Int) * x1) + x3)) then (l245 FU 318 zq77.2 x1 x2 x3 x4 x5 ((8 : Int) * (((60 : Int) * x1) + x3)) 2 0) else none)) else none) else none) else (if rg ((8 : Int) * (((60 : Int) * x1) + x3)) then (l245 FU 409 zq2.2 x1 x2 x3 x4 x5 ((8 : Int) * (((60 : Int) * x1) + x3)) (zq2.2 64 (Int.toNat x2)) 0) else none))))))) else none) else (some (0, zq2.2)))
theorem c245 {L : Nat} {xs : Nat → Int32} {h : mvH} {M : Mm} {x1 x2 x3 x4 x5 : Int} {v : Int} {M' : Mm} (R : rp h M) (rx1 : rg x1) (rx2 : rg x2) (rx3 : rg x3) (rx4 : rg x4) (rx5 : rg x5) (hs : f245 M x1 x2 x3 x4 x5 = some (v, M')) : evx L xs 2 245 0 [(0, .inr (.inr (.inl (some 53)))), (1, .inl (iz x1)), (2, .inl (iz x2)), (3, .inl (iz x3)), (4, .inl (iz x4)), (5, .inl (iz x5))] [] h (.inl none, 0) M' := by
  unfold f245 at hs
  refine evx_F E245 D245_0 rfl rfl ?_
  obtain ⟨⟨q2, M6⟩, e1, hs⟩ := Option.bind_eq_some_iff.mp hs
  dsimp only at hs
  refine evx_cv (D := 1) E245 D245_1 I245_366 rfl rfl H53 ⟨Nat.le_of_ble_eq_true rfl, Nat.le_of_ble_eq_true rfl⟩ ⟨rfl, Nat.le_of_ble_eq_true rfl⟩ rfl R (evx_up (Nat.le_of_ble_eq_true rfl) (c246 R  e1)) ?_
  intro h3 R4 w5
  have w5 : rg q2 := w5
  show evx _ _ _ _ _ _ (.inl (iz q2) :: _) _ _ _
  by_cases cb7 : ¬ q2 = 0
  · rw [if_pos cb7] at hs
    refine evx_F E245 D245_4 rfl (ifT (c1_ne_T w5 cb7)) ?_
    refine evx_k (k := 8) E245 D245_8 rfl (by decide) ?_
    refine evx_k (k := 60) E245 D245_10 rfl (by decide) ?_
    refine evx_F E245 D245_12 rfl rfl ?_
    refine evx_mul E245 D245_13 ?_
    refine evx_F E245 D245_14 rfl rfl ?_
    refine evx_add E245 D245_15 ?_
    refine evx_mul E245 D245_16 ?_
    refine evx_F E245 D245_17 rfl rfl ?_
    refine evx_F E245 D245_19 rfl rfl ?_
    refine evx_gfr E245 D245_20 F245_38 H53 rfl R4 ?_
    refine evx_F E245 D245_23 rfl rfl ?_
    obtain ⟨k8, hs⟩ := ck hs
    refine evx_ial E245 D245_24 H63 (by decide) R4 k8 ?_
    by_cases cb9 : (M6 63 (Int.toNat x2)) = 0
    · rw [if_pos cb9] at hs
      refine evx_tsi (0) E245 D245_25 cb9 (by decide) (by decide) rfl rfl ?_
      refine evx_F E245 D245_64 rfl rfl ?_
      refine evx_F E245 D245_65 rfl rfl ?_
      refine evx_F E245 D245_66 rfl rfl ?_
      refine evx_F E245 D245_67 rfl rfl ?_
      refine evx_gfr E245 D245_68 F245_41 H53 rfl R4 ?_
      refine evx_F E245 D245_71 rfl rfl ?_
      refine evx_ial E245 D245_72 H64 (by decide) R4 k8 ?_
      refine evx_F E245 D245_73 rfl rfl ?_
      refine evx_F E245 D245_74 rfl rfl ?_
      refine evx_F E245 D245_75 rfl rfl ?_
      refine evx_F E245 D245_76 rfl rfl ?_
      obtain ⟨⟨q11, M15⟩, e10, hs⟩ := Option.bind_eq_some_iff.mp hs
      dsimp only at hs
      refine evx_cv (D := 1) E245 D245_77 I245_369 rfl rfl H53 ⟨Nat.le_of_ble_eq_true rfl, Nat.le_of_ble_eq_true rfl⟩ ⟨rfl, Nat.le_of_ble_eq_true rfl⟩ rfl R4 (evx_up (Nat.le_of_ble_eq_true rfl) (c247 R4 (by decide) (R4.1 64 (Int.toNat x2)) (by decide) (by decide) (by decide) (by decide) e10)) ?_
      intro h12 R13 w14
      have w14 : rg q11 := w14
      show evx _ _ _ _ _ _ (.inl (iz q11) :: _) _ _ _
      refine evx_pfi (k := 78) E245 D245_80 F245_373 H53 rfl R13 w14 rfl ?_
      intro h16 R17
      cases hs
      exact evx_ret E245 D245_83 rfl (fun d => rfl) rfl trivial R17
    · rw [if_neg cb9] at hs
      by_cases cb18 : (M6 63 (Int.toNat x2)) = 1
      · rw [if_pos cb18] at hs
        refine evx_tsi (1) E245 D245_25 cb18 (by decide) (by decide) rfl rfl ?_
        refine evx_F E245 D245_84 rfl rfl ?_
        refine evx_F E245 D245_85 rfl rfl ?_
        refine evx_gfr E245 D245_86 F245_41 H53 rfl R4 ?_
        refine evx_F E245 D245_89 rfl rfl ?_
        refine evx_ial E245 D245_90 H64 (by decide) R4 k8 ?_
        refine evx_F E245 D245_91 rfl rfl ?_
        by_cases cb19 : 2 ≤ (M6 64 (Int.toNat x2))
        · rw [if_pos cb19] at hs
          refine evx_F E245 D245_92 rfl (ifT (c2_ge_T (R4.1 64 (Int.toNat x2)) (by decide) cb19)) ?_
          refine evx_F E245 D245_115 rfl rfl ?_
          refine evx_gfr E245 D245_116 F245_41 H53 rfl R4 ?_
          refine evx_F E245 D245_119 rfl rfl ?_
          refine evx_ial E245 D245_120 H64 (by decide) R4 k8 ?_
          refine evx_F E245 D245_121 rfl rfl ?_
          by_cases cb20 : ¬ (M6 64 (Int.toNat x2)) = 5
          · rw [if_pos cb20] at hs
            refine evx_F E245 D245_122 rfl (ifT (c2_ne_T (R4.1 64 (Int.toNat x2)) (by decide) cb20)) ?_
            refine evx_F E245 D245_138 rfl rfl ?_
            refine evx_F E245 D245_139 rfl rfl ?_
            refine evx_F E245 D245_140 rfl rfl ?_
            refine evx_gfr E245 D245_141 F245_41 H53 rfl R4 ?_
            refine evx_F E245 D245_144 rfl rfl ?_
            refine evx_ial E245 D245_145 H64 (by decide) R4 k8 ?_
            refine evx_F E245 D245_146 rfl rfl ?_
            refine evx_F E245 D245_147 rfl rfl ?_
            refine evx_F E245 D245_148 rfl rfl ?_
            refine evx_F E245 D245_149 rfl rfl ?_
            obtain ⟨⟨q22, M26⟩, e21, hs⟩ := Option.bind_eq_some_iff.mp hs
            dsimp only at hs
            refine evx_cv (D := 1) E245 D245_150 I245_369 rfl rfl H53 ⟨Nat.le_of_ble_eq_true rfl, Nat.le_of_ble_eq_true rfl⟩ ⟨rfl, Nat.le_of_ble_eq_true rfl⟩ rfl R4 (evx_up (Nat.le_of_ble_eq_true rfl) (c247 R4 (by decide) (R4.1 64 (Int.toNat x2)) (by decide) (by decide) (by decide) (by decide) e21)) ?_
            intro h23 R24 w25
            have w25 : rg q22 := w25
            show evx _ _ _ _ _ _ (.inl (iz q22) :: _) _ _ _
            refine evx_pfi (k := 78) E245 D245_153 F245_373 H53 rfl R24 w25 rfl ?_
            intro h27 R28
            cases hs
            exact evx_ret E245 D245_156 rfl (fun d => rfl) rfl trivial R28
          · rw [if_neg cb20] at hs
            refine evx_F E245 D245_122 rfl (ifF (c2_ne_F (R4.1 64 (Int.toNat x2)) (by decide) (by omega))) ?_
            refine evx_F E245 D245_125 rfl rfl ?_
            refine evx_F E245 D245_126 rfl rfl ?_
            refine evx_F E245 D245_127 rfl rfl ?_
            refine evx_F E245 D245_128 rfl rfl ?_
            refine evx_F E245 D245_129 rfl rfl ?_
            refine evx_F E245 D245_130 rfl rfl ?_
            refine evx_F E245 D245_131 rfl rfl ?_
            obtain ⟨⟨q30, M34⟩, e29, hs⟩ := Option.bind_eq_some_iff.mp hs
            dsimp only at hs
            refine evx_cv (D := 1) E245 D245_132 I245_369 rfl rfl H53 ⟨Nat.le_of_ble_eq_true rfl, Nat.le_of_ble_eq_true rfl⟩ ⟨rfl, Nat.le_of_ble_eq_true rfl⟩ rfl R4 (evx_up (Nat.le_of_ble_eq_true rfl) (c247 R4 (by decide) (by decide) (by decide) (by decide) (by decide) (by decide) e29)) ?_
            intro h31 R32 w33
            have w33 : rg q30 := w33
            show evx _ _ _ _ _ _ (.inl (iz q30) :: _) _ _ _
            refine evx_F E245 D245_135 rfl rfl ?_
            refine evx_pfi (k := 78) E245 D245_153 F245_373 H53 rfl R32 w33 rfl ?_
            intro h35 R36
            cases hs
            exact evx_ret E245 D245_156 rfl (fun d => rfl) rfl trivial R36
        · rw [if_neg cb19] at hs
          refine evx_F E245 D245_92 rfl (ifF (c2_ge_F (R4.1 64 (Int.toNat x2)) (by decide) (by omega))) ?_
          refine evx_F E245 D245_95 rfl rfl ?_
          refine evx_F E245 D245_96 rfl rfl ?_
          refine evx_F E245 D245_97 rfl rfl ?_
          refine evx_F E245 D245_98 rfl rfl ?_
          refine evx_gfr E245 D245_99 F245_41 H53 rfl R4 ?_
          refine evx_F E245 D245_102 rfl rfl ?_
          refine evx_ial E245 D245_103 H64 (by decide) R4 k8 ?_
          refine evx_sub E245 D245_104 ?_
          refine evx_F E245 D245_105 rfl rfl ?_
          refine evx_F E245 D245_106 rfl rfl ?_
          refine evx_F E245 D245_107 rfl rfl ?_
          refine evx_F E245 D245_108 rfl rfl ?_
          obtain ⟨k37, hs⟩ := ck hs
          obtain ⟨⟨q39, M43⟩, e38, hs⟩ := Option.bind_eq_some_iff.mp hs
          dsimp only at hs
          refine evx_cv (D := 1) E245 D245_109 I245_369 rfl rfl H53 ⟨Nat.le_of_ble_eq_true rfl, Nat.le_of_ble_eq_true rfl⟩ ⟨rfl, Nat.le_of_ble_eq_true rfl⟩ rfl R4 (evx_up (Nat.le_of_ble_eq_true rfl) (c247 R4 (by decide) k37 (by decide) (by decide) (by decide) (by decide) e38)) ?_
          intro h40 R41 w42
          have w42 : rg q39 := w42
          show evx _ _ _ _ _ _ (.inl (iz q39) :: _) _ _ _
          refine evx_F E245 D245_112 rfl rfl ?_
          refine evx_pfi (k := 78) E245 D245_153 F245_373 H53 rfl R41 w42 rfl ?_
          intro h44 R45
          cases hs
          exact evx_ret E245 D245_156 rfl (fun d => rfl) rfl trivial R45
      · rw [if_neg cb18] at hs
        by_cases cb46 : (M6 63 (Int.toNat x2)) = 2
        · rw [if_pos cb46] at hs
          refine evx_tsi (2) E245 D245_25 cb46 (by decide) (by decide) rfl rfl ?_
          refine evx_F E245 D245_157 rfl rfl ?_
          refine evx_F E245 D245_159 rfl rfl ?_
          refine evx_F E245 D245_161 rfl rfl ?_
          refine evx_F E245 D245_162 rfl rfl ?_
          obtain ⟨k47, hs⟩ := ck hs
          show evx _ _ _ _ _ [(8, .inl (iz 0)), (7, .inl (iz x4)), (6, .inl (iz ((8 : Int) * (((60 : Int) * x1) + x3)))), (0, .inr (.inr (.inl (some 53)))), (1, .inl (iz x1)), (2, .inl (iz x2)), (3, .inl (iz x3)), (4, .inl (iz x4)), (5, .inl (iz x5))] _ _ _ _
          exact evx_lv (lvLe_mk (fm rfl (fm rfl (fm rfl (fm rfl (fm rfl (fm rfl (fm rfl (fm rfl (fm rfl fn))))))))) (fm rfl (fm rfl (fm rfl (fm rfl (fm rfl (fm rfl (fm rfl (fm rfl (fm rfl fn))))))))) (fm rfl (fm rfl (fm rfl (fm rfl (fm rfl (fm rfl (fm rfl (fm rfl (fm rfl fn)))))))))) ((d245 FU).1 _ _ _ _ _ _ _ _ _ _ _ _ hs R4 rx1 rx2 rx3 rx4 rx5 k47 rx4 (by decide))
        · rw [if_neg cb46] at hs
          by_cases cb48 : (M6 63 (Int.toNat x2)) = 3
          · rw [if_pos cb48] at hs
            refine evx_tsi (3) E245 D245_25 cb48 (by decide) (by decide) rfl rfl ?_
            refine evx_F E245 D245_202 rfl rfl ?_
            refine evx_F E245 D245_203 rfl rfl ?_
            refine evx_F E245 D245_204 rfl rfl ?_
            refine evx_F E245 D245_205 rfl rfl ?_
            refine evx_F E245 D245_206 rfl rfl ?_
            refine evx_gfr E245 D245_207 F245_41 H53 rfl R4 ?_
            refine evx_F E245 D245_210 rfl rfl ?_
            refine evx_ial E245 D245_211 H64 (by decide) R4 k8 ?_
            refine evx_F E245 D245_212 rfl rfl ?_
            refine evx_F E245 D245_213 rfl rfl ?_
            refine evx_add E245 D245_214 ?_
            refine evx_F E245 D245_215 rfl rfl ?_
            refine evx_F E245 D245_217 rfl rfl ?_
            obtain ⟨k49, hs⟩ := ck hs
            obtain ⟨⟨q51, M55⟩, e50, hs⟩ := Option.bind_eq_some_iff.mp hs
            dsimp only at hs
            refine evx_cv (D := 1) E245 D245_219 I245_369 rfl rfl H53 ⟨Nat.le_of_ble_eq_true rfl, Nat.le_of_ble_eq_true rfl⟩ ⟨rfl, Nat.le_of_ble_eq_true rfl⟩ rfl R4 (evx_up (Nat.le_of_ble_eq_true rfl) (c247 R4 (by decide) rx1 (R4.1 64 (Int.toNat x2)) k49 rx4 rx5 e50)) ?_
            intro h52 R53 w54
            have w54 : rg q51 := w54
            show evx _ _ _ _ _ _ (.inl (iz q51) :: _) _ _ _
            refine evx_pfi (k := 78) E245 D245_222 F245_373 H53 rfl R53 w54 rfl ?_
            intro h56 R57
            cases hs
            exact evx_ret E245 D245_225 rfl (fun d => rfl) rfl trivial R57
          · rw [if_neg cb48] at hs
            by_cases cb58 : (M6 63 (Int.toNat x2)) = 4
            · rw [if_pos cb58] at hs
              refine evx_tsi (4) E245 D245_25 cb58 (by decide) (by decide) rfl rfl ?_
              refine evx_F E245 D245_226 rfl rfl ?_
              refine evx_F E245 D245_227 rfl rfl ?_
              refine evx_F E245 D245_228 rfl rfl ?_
              refine evx_F E245 D245_229 rfl rfl ?_
              refine evx_gfr E245 D245_230 F245_44 H53 rfl R4 ?_
              refine evx_F E245 D245_233 rfl rfl ?_
              refine evx_ial E245 D245_234 H65 (by decide) R4 k8 ?_
              refine evx_F E245 D245_235 rfl rfl ?_
              refine evx_F E245 D245_236 rfl rfl ?_
              refine evx_add E245 D245_237 ?_
              refine evx_F E245 D245_238 rfl rfl ?_
              refine evx_gfr E245 D245_239 F245_47 H53 rfl R4 ?_
              refine evx_F E245 D245_242 rfl rfl ?_
              refine evx_gfr E245 D245_243 F245_41 H53 rfl R4 ?_
              refine evx_F E245 D245_246 rfl rfl ?_
              refine evx_ial E245 D245_247 H64 (by decide) R4 k8 ?_
              obtain ⟨k59, hs⟩ := ck hs
              refine evx_ial E245 D245_248 H66 (by decide) R4 k59 ?_
              refine evx_add E245 D245_249 ?_
              refine evx_F E245 D245_250 rfl rfl ?_
              refine evx_F E245 D245_252 rfl rfl ?_
              obtain ⟨k60, hs⟩ := ck hs
              obtain ⟨⟨q62, M66⟩, e61, hs⟩ := Option.bind_eq_some_iff.mp hs
              dsimp only at hs
              refine evx_cv (D := 1) E245 D245_254 I245_376 rfl rfl H53 ⟨Nat.le_of_ble_eq_true rfl, Nat.le_of_ble_eq_true rfl⟩ ⟨rfl, Nat.le_of_ble_eq_true rfl⟩ rfl R4 (evx_up (Nat.le_of_ble_eq_true rfl) (c243 R4 (by decide) rx1 (R4.1 65 (Int.toNat x2)) k60 rx4 rx5 e61)) ?_
              intro h63 R64 w65
              refine evx_F E245 D245_257 rfl rfl ?_
              refine evx_F E245 D245_258 rfl rfl ?_
              refine evx_F E245 D245_259 rfl rfl ?_
              refine evx_F E245 D245_260 rfl rfl ?_
              refine evx_gfr E245 D245_261 F245_41 H53 rfl R64 ?_
              refine evx_F E245 D245_264 rfl rfl ?_
              refine evx_ial E245 D245_265 H64 (by decide) R64 k8 ?_
              refine evx_F E245 D245_266 rfl rfl ?_
              refine evx_F E245 D245_267 rfl rfl ?_
              refine evx_add E245 D245_268 ?_
              refine evx_F E245 D245_269 rfl rfl ?_
              refine evx_F E245 D245_271 rfl rfl ?_
              obtain ⟨k67, hs⟩ := ck hs
              obtain ⟨⟨q69, M73⟩, e68, hs⟩ := Option.bind_eq_some_iff.mp hs
              dsimp only at hs
              refine evx_cv (D := 1) E245 D245_273 I245_376 rfl rfl H53 ⟨Nat.le_of_ble_eq_true rfl, Nat.le_of_ble_eq_true rfl⟩ ⟨rfl, Nat.le_of_ble_eq_true rfl⟩ rfl R64 (evx_up (Nat.le_of_ble_eq_true rfl) (c243 R64 (by decide) rx1 (R64.1 64 (Int.toNat x2)) k67 rx4 rx5 e68)) ?_
              intro h70 R71 w72
              cases hs
              exact evx_ret E245 D245_276 rfl (fun d => rfl) rfl trivial R71
            · rw [if_neg cb58] at hs
              by_cases cb74 : (M6 63 (Int.toNat x2)) = 5
              · rw [if_pos cb74] at hs
                refine evx_tsi (5) E245 D245_25 cb74 (by decide) (by decide) rfl rfl ?_
                refine evx_F E245 D245_277 rfl rfl ?_
                refine evx_F E245 D245_278 rfl rfl ?_
                refine evx_gfr E245 D245_279 F245_66 H53 rfl R4 ?_
                refine evx_F E245 D245_282 rfl rfl ?_
                obtain ⟨k75, hs⟩ := ck hs
                refine evx_ial E245 D245_284 H72 (by decide) R4 k75 ?_
                refine evx_F E245 D245_285 rfl rfl ?_
                obtain ⟨⟨q77, M81⟩, e76, hs⟩ := Option.bind_eq_some_iff.mp hs
                dsimp only at hs
                refine evx_cv (D := 1) E245 D245_287 I245_380 rfl rfl H53 ⟨Nat.le_of_ble_eq_true rfl, Nat.le_of_ble_eq_true rfl⟩ ⟨rfl, Nat.le_of_ble_eq_true rfl⟩ rfl R4 (evx_up (Nat.le_of_ble_eq_true rfl) (c248 R4 (R4.1 72 (Int.toNat ((8 : Int) * (((60 : Int) * x1) + x3)))) rx5 e76)) ?_
                intro h78 R79 w80
                refine evx_F E245 D245_290 rfl rfl ?_
                refine evx_gfr E245 D245_291 F245_70 H53 rfl R79 ?_
                refine evx_F E245 D245_294 rfl rfl ?_
                refine evx_gfi (k := 79) E245 D245_295 F245_360 H53 rfl R79 ?_
                obtain ⟨k82, hs⟩ := ck hs
                refine evx_ial E245 D245_298 H73 (by decide) R79 k82 ?_
                refine evx_F E245 D245_299 rfl rfl ?_
                by_cases cb83 : ¬ (M81 73 (Int.toNat (M81 53 79))) = 3
                · rw [if_pos cb83] at hs
                  refine evx_F E245 D245_300 rfl (ifT (c2_ne_T (R79.1 73 (Int.toNat (M81 53 79))) (by decide) cb83)) ?_
                  refine evx_F E245 D245_307 rfl rfl ?_
                  refine evx_gfr E245 D245_308 F245_70 H53 rfl R79 ?_
                  refine evx_F E245 D245_311 rfl rfl ?_
                  refine evx_gfi (k := 79) E245 D245_312 F245_360 H53 rfl R79 ?_
                  refine evx_ial E245 D245_315 H73 (by decide) R79 k82 ?_
                  refine evx_F E245 D245_316 rfl rfl ?_
                  obtain ⟨k84, hs⟩ := ck hs
                  show evx _ _ _ _ _ [(7, .inl (iz (M81 73 (Int.toNat (M81 53 79))))), (6, .inl (iz ((8 : Int) * (((60 : Int) * x1) + x3)))), (0, .inr (.inr (.inl (some 53)))), (1, .inl (iz x1)), (2, .inl (iz x2)), (3, .inl (iz x3)), (4, .inl (iz x4)), (5, .inl (iz x5))] _ _ _ _
                  exact evx_lv (lvLe_mk (fm rfl (fm rfl (fm rfl (fm rfl (fm rfl (fm rfl (fm rfl (fm rfl fn)))))))) (fm rfl (fm rfl (fm rfl (fm rfl (fm rfl (fm rfl (fm rfl (fm rfl fn)))))))) (fm rfl (fm rfl (fm rfl (fm rfl (fm rfl (fm rfl (fm rfl (fm rfl fn))))))))) ((d245 FU).2.1 _ _ _ _ _ _ _ _ _ _ _ hs R79 rx1 rx2 rx3 rx4 rx5 k84 (R79.1 73 (Int.toNat (M81 53 79))))
                · rw [if_neg cb83] at hs
                  refine evx_F E245 D245_300 rfl (ifF (c2_ne_F (R79.1 73 (Int.toNat (M81 53 79))) (by decide) (by omega))) ?_
                  refine evx_F E245 D245_303 rfl rfl ?_
                  refine evx_F E245 D245_304 rfl rfl ?_
                  refine evx_F E245 D245_316 rfl rfl ?_
                  obtain ⟨k85, hs⟩ := ck hs
                  show evx _ _ _ _ _ [(7, .inl (iz 2)), (6, .inl (iz ((8 : Int) * (((60 : Int) * x1) + x3)))), (0, .inr (.inr (.inl (some 53)))), (1, .inl (iz x1)), (2, .inl (iz x2)), (3, .inl (iz x3)), (4, .inl (iz x4)), (5, .inl (iz x5))] _ _ _ _
                  exact evx_lv (lvLe_mk (fm rfl (fm rfl (fm rfl (fm rfl (fm rfl (fm rfl (fm rfl (fm rfl fn)))))))) (fm rfl (fm rfl (fm rfl (fm rfl (fm rfl (fm rfl (fm rfl (fm rfl fn)))))))) (fm rfl (fm rfl (fm rfl (fm rfl (fm rfl (fm rfl (fm rfl (fm rfl fn))))))))) ((d245 FU).2.1 _ _ _ _ _ _ _ _ _ _ _ hs R79 rx1 rx2 rx3 rx4 rx5 k85 (by decide))
              · rw [if_neg cb74] at hs
                refine evx_tso E245 D245_25 (R4.1 63 (Int.toNat x2)) (by omega) rfl ?_
                refine evx_F E245 D245_398 rfl rfl ?_
                refine evx_gfr E245 D245_399 F245_41 H53 rfl R4 ?_
                refine evx_F E245 D245_402 rfl rfl ?_
                refine evx_ial E245 D245_403 H64 (by decide) R4 k8 ?_
                refine evx_F E245 D245_404 rfl rfl ?_
                refine evx_F E245 D245_406 rfl rfl ?_
                refine evx_F E245 D245_407 rfl rfl ?_
                obtain ⟨k86, hs⟩ := ck hs
                show evx _ _ _ _ _ [(8, .inl (iz 0)), (7, .inl (iz (M6 64 (Int.toNat x2)))), (6, .inl (iz ((8 : Int) * (((60 : Int) * x1) + x3)))), (0, .inr (.inr (.inl (some 53)))), (1, .inl (iz x1)), (2, .inl (iz x2)), (3, .inl (iz x3)), (4, .inl (iz x4)), (5, .inl (iz x5))] _ _ _ _
                exact evx_lv (lvLe_mk (fm rfl (fm rfl (fm rfl (fm rfl (fm rfl (fm rfl (fm rfl (fm rfl (fm rfl fn))))))))) (fm rfl (fm rfl (fm rfl (fm rfl (fm rfl (fm rfl (fm rfl (fm rfl (fm rfl fn))))))))) (fm rfl (fm rfl (fm rfl (fm rfl (fm rfl (fm rfl (fm rfl (fm rfl (fm rfl fn)))))))))) ((d245 FU).2.2.1 _ _ _ _ _ _ _ _ _ _ _ _ hs R4 rx1 rx2 rx3 rx4 rx5 k86 (R4.1 64 (Int.toNat x2)) (by decide))
  · rw [if_neg cb7] at hs
    refine evx_F E245 D245_4 rfl (ifF (c1_ne_F w5 (by omega))) ?_
    cases hs
    exact evx_ret E245 D245_7 rfl (fun d => rfl) rfl trivial R4
set_option maxRecDepth 20000 in
theorem E250 : pgMm 250 = some (⟨"DictionaryHouseModel", "call", "(II)V"⟩, prog_14_method_62_code, 7, none, []) := rfl
theorem D250_0 : pgDecT 250 0 = some (.aload_n 0, 1) := by decide +kernel
theorem D250_1 : pgDecT 250 1 = some (.getfield 136, 3) := by decide +kernel
theorem F250_136 : pgFf 250 136 = some (12, 62, 3) := by decide +kernel
theorem D250_4 : pgDecT 250 4 = some (.iload_n 1, 1) := by decide +kernel
theorem D250_5 : pgDecT 250 5 = some (.iaload, 1) := by decide +kernel
theorem D250_6 : pgDecT 250 6 = some (.iconst 5, 1) := by decide +kernel
theorem D250_7 : pgDecT 250 7 = some (.if_icmp .ne 51, 3) := by decide +kernel
theorem D250_58 : pgDecT 250 58 = some (.aload_n 0, 1) := by decide +kernel
theorem D250_59 : pgDecT 250 59 = some (.getfield 139, 3) := by decide +kernel
theorem F250_139 : pgFf 250 139 = some (12, 63, 3) := by decide +kernel
theorem D250_62 : pgDecT 250 62 = some (.iload_n 1, 1) := by decide +kernel
theorem D250_63 : pgDecT 250 63 = some (.iaload, 1) := by decide +kernel
theorem D250_64 : pgDecT 250 64 = some (.istore_n 3, 1) := by decide +kernel
theorem D250_65 : pgDecT 250 65 = some (.aload_n 0, 1) := by decide +kernel
theorem D250_66 : pgDecT 250 66 = some (.getfield 142, 3) := by decide +kernel
theorem F250_142 : pgFf 250 142 = some (12, 64, 3) := by decide +kernel
theorem D250_69 : pgDecT 250 69 = some (.iload_n 1, 1) := by decide +kernel
theorem D250_70 : pgDecT 250 70 = some (.iaload, 1) := by decide +kernel
theorem D250_71 : pgDecT 250 71 = some (.iconst 1, 1) := by decide +kernel
theorem D250_72 : pgDecT 250 72 = some (.iadd, 1) := by decide +kernel
theorem D250_73 : pgDecT 250 73 = some (.istore 4, 2) := by decide +kernel
theorem D250_75 : pgDecT 250 75 = some (.iload 4, 2) := by decide +kernel
theorem D250_77 : pgDecT 250 77 = some (.iconst 1, 1) := by decide +kernel
theorem D250_78 : pgDecT 250 78 = some (.if_icmp .ne 7, 3) := by decide +kernel
theorem D250_85 : pgDecT 250 85 = some (.aload_n 0, 1) := by decide +kernel
theorem D250_86 : pgDecT 250 86 = some (.getfield 145, 3) := by decide +kernel
theorem F250_145 : pgFf 250 145 = some (12, 65, 3) := by decide +kernel
theorem D250_89 : pgDecT 250 89 = some (.iload_n 1, 1) := by decide +kernel
theorem D250_90 : pgDecT 250 90 = some (.iaload, 1) := by decide +kernel
theorem D250_91 : pgDecT 250 91 = some (.istore 5, 2) := by decide +kernel
theorem D250_93 : pgDecT 250 93 = some (.iload 4, 2) := by decide +kernel
theorem D250_95 : pgDecT 250 95 = some (.iconst 2, 1) := by decide +kernel
theorem D250_96 : pgDecT 250 96 = some (.if_icmp .ne 7, 3) := by decide +kernel
theorem D250_103 : pgDecT 250 103 = some (.aload_n 0, 1) := by decide +kernel
theorem D250_104 : pgDecT 250 104 = some (.getfield 148, 3) := by decide +kernel
theorem F250_148 : pgFf 250 148 = some (12, 66, 3) := by decide +kernel
theorem D250_107 : pgDecT 250 107 = some (.iload_n 1, 1) := by decide +kernel
theorem D250_108 : pgDecT 250 108 = some (.iaload, 1) := by decide +kernel
theorem D250_109 : pgDecT 250 109 = some (.istore 6, 2) := by decide +kernel
theorem D250_111 : pgDecT 250 111 = some (.iload 4, 2) := by decide +kernel
theorem D250_113 : pgDecT 250 113 = some (.iload_n 3, 1) := by decide +kernel
theorem D250_114 : pgDecT 250 114 = some (.invokestatic 389, 3) := by decide +kernel
theorem I250_389 : pgIi 250 389 = some (251, 1, 100) := by decide +kernel
theorem D250_117 : pgDecT 250 117 = some (.if_icmp .ge 21, 3) := by decide +kernel
theorem D250_138 : pgDecT 250 138 = some (.iload_n 3, 1) := by decide +kernel
theorem D250_139 : pgDecT 250 139 = some (.tableswitch 137 2 6 #[33, 62, 98, 137, 120], 33) := by decide +kernel
theorem D250_172 : pgDecT 250 172 = some (.aload_n 0, 1) := by decide +kernel
theorem D250_173 : pgDecT 250 173 = some (.aload_n 0, 1) := by decide +kernel
theorem D250_174 : pgDecT 250 174 = some (.iconst 0, 1) := by decide +kernel
theorem D250_175 : pgDecT 250 175 = some (.aload_n 0, 1) := by decide +kernel
theorem D250_176 : pgDecT 250 176 = some (.getfield 139, 3) := by decide +kernel
theorem D250_179 : pgDecT 250 179 = some (.iload 5, 2) := by decide +kernel
theorem D250_181 : pgDecT 250 181 = some (.iaload, 1) := by decide +kernel
theorem D250_182 : pgDecT 250 182 = some (.aload_n 0, 1) := by decide +kernel
theorem D250_183 : pgDecT 250 183 = some (.getfield 139, 3) := by decide +kernel
theorem D250_186 : pgDecT 250 186 = some (.iload 6, 2) := by decide +kernel
theorem D250_188 : pgDecT 250 188 = some (.iaload, 1) := by decide +kernel
theorem D250_189 : pgDecT 250 189 = some (.iadd, 1) := by decide +kernel
theorem D250_190 : pgDecT 250 190 = some (.iconst 0, 1) := by decide +kernel
theorem D250_191 : pgDecT 250 191 = some (.iconst 0, 1) := by decide +kernel
theorem D250_192 : pgDecT 250 192 = some (.iconst 0, 1) := by decide +kernel
theorem D250_193 : pgDecT 250 193 = some (.iconst 0, 1) := by decide +kernel
theorem D250_194 : pgDecT 250 194 = some (.invokevirtual 369, 3) := by decide +kernel
theorem I250_369 : pgIi 250 369 = some (247, 6, 12) := by decide +kernel
theorem D250_197 : pgDecT 250 197 = some (.putfield 373, 3) := by decide +kernel
theorem F250_373 : pgFf 250 373 = some (12, 78, 0) := by decide +kernel
theorem D250_200 : pgDecT 250 200 = some (.return_, 1) := by decide +kernel
theorem D250_201 : pgDecT 250 201 = some (.aload_n 0, 1) := by decide +kernel
theorem D250_202 : pgDecT 250 202 = some (.aload_n 0, 1) := by decide +kernel
theorem D250_203 : pgDecT 250 203 = some (.iconst 1, 1) := by decide +kernel
theorem D250_204 : pgDecT 250 204 = some (.aload_n 0, 1) := by decide +kernel
theorem D250_205 : pgDecT 250 205 = some (.getfield 139, 3) := by decide +kernel
theorem D250_208 : pgDecT 250 208 = some (.iload 5, 2) := by decide +kernel
theorem D250_210 : pgDecT 250 210 = some (.iaload, 1) := by decide +kernel
theorem D250_211 : pgDecT 250 211 = some (.aload_n 0, 1) := by decide +kernel
theorem D250_212 : pgDecT 250 212 = some (.getfield 139, 3) := by decide +kernel
theorem D250_215 : pgDecT 250 215 = some (.iload 6, 2) := by decide +kernel
theorem D250_217 : pgDecT 250 217 = some (.iaload, 1) := by decide +kernel
theorem D250_218 : pgDecT 250 218 = some (.if_icmp .ge 7, 3) := by decide +kernel
theorem D250_225 : pgDecT 250 225 = some (.iconst 0, 1) := by decide +kernel
theorem D250_226 : pgDecT 250 226 = some (.iconst 0, 1) := by decide +kernel
theorem D250_227 : pgDecT 250 227 = some (.iconst 0, 1) := by decide +kernel
theorem D250_228 : pgDecT 250 228 = some (.iconst 0, 1) := by decide +kernel
theorem D250_229 : pgDecT 250 229 = some (.iconst 0, 1) := by decide +kernel
theorem D250_230 : pgDecT 250 230 = some (.invokevirtual 369, 3) := by decide +kernel
theorem D250_233 : pgDecT 250 233 = some (.putfield 373, 3) := by decide +kernel
theorem D250_236 : pgDecT 250 236 = some (.return_, 1) := by decide +kernel
theorem D250_221 : pgDecT 250 221 = some (.iconst 1, 1) := by decide +kernel
theorem D250_222 : pgDecT 250 222 = some (.goto 4, 3) := by decide +kernel
theorem D250_237 : pgDecT 250 237 = some (.aload_n 0, 1) := by decide +kernel
theorem D250_238 : pgDecT 250 238 = some (.aload_n 0, 1) := by decide +kernel
theorem D250_239 : pgDecT 250 239 = some (.getfield 139, 3) := by decide +kernel
theorem D250_242 : pgDecT 250 242 = some (.iload 5, 2) := by decide +kernel
theorem D250_244 : pgDecT 250 244 = some (.iaload, 1) := by decide +kernel
theorem D250_245 : pgDecT 250 245 = some (.iconst 1, 1) := by decide +kernel
theorem D250_246 : pgDecT 250 246 = some (.if_icmp .ne 8, 3) := by decide +kernel
theorem D250_254 : pgDecT 250 254 = some (.iload_n 2, 1) := by decide +kernel
theorem D250_255 : pgDecT 250 255 = some (.putfield 373, 3) := by decide +kernel
theorem D250_258 : pgDecT 250 258 = some (.return_, 1) := by decide +kernel
theorem D250_249 : pgDecT 250 249 = some (.iload 6, 2) := by decide +kernel
theorem D250_251 : pgDecT 250 251 = some (.goto 4, 3) := by decide +kernel
theorem D250_276 : pgDecT 250 276 = some (.aload_n 0, 1) := by decide +kernel
theorem D250_277 : pgDecT 250 277 = some (.iload 5, 2) := by decide +kernel
theorem D250_279 : pgDecT 250 279 = some (.iload 6, 2) := by decide +kernel
theorem D250_281 : pgDecT 250 281 = some (.iload_n 2, 1) := by decide +kernel
theorem D250_282 : pgDecT 250 282 = some (.invokevirtual 392, 3) := by decide +kernel
theorem I250_392 : pgIi 250 392 = some (252, 3, 12) := by decide +kernel
theorem D250_285 : pgDecT 250 285 = some (.return_, 1) := by decide +kernel
theorem D250_259 : pgDecT 250 259 = some (.aload_n 0, 1) := by decide +kernel
theorem D250_260 : pgDecT 250 260 = some (.aload_n 0, 1) := by decide +kernel
theorem D250_261 : pgDecT 250 261 = some (.iconst 3, 1) := by decide +kernel
theorem D250_262 : pgDecT 250 262 = some (.iload 5, 2) := by decide +kernel
theorem D250_264 : pgDecT 250 264 = some (.iload 6, 2) := by decide +kernel
theorem D250_266 : pgDecT 250 266 = some (.iconst 0, 1) := by decide +kernel
theorem D250_267 : pgDecT 250 267 = some (.iconst 0, 1) := by decide +kernel
theorem D250_268 : pgDecT 250 268 = some (.iconst 0, 1) := by decide +kernel
theorem D250_269 : pgDecT 250 269 = some (.invokevirtual 369, 3) := by decide +kernel
theorem D250_272 : pgDecT 250 272 = some (.putfield 373, 3) := by decide +kernel
theorem D250_275 : pgDecT 250 275 = some (.return_, 1) := by decide +kernel
theorem D250_120 : pgDecT 250 120 = some (.aload_n 0, 1) := by decide +kernel
theorem D250_121 : pgDecT 250 121 = some (.aload_n 0, 1) := by decide +kernel
theorem D250_122 : pgDecT 250 122 = some (.iconst 4, 1) := by decide +kernel
theorem D250_123 : pgDecT 250 123 = some (.iload_n 3, 1) := by decide +kernel
theorem D250_124 : pgDecT 250 124 = some (.iload 4, 2) := by decide +kernel
theorem D250_126 : pgDecT 250 126 = some (.iload 5, 2) := by decide +kernel
theorem D250_128 : pgDecT 250 128 = some (.iload 6, 2) := by decide +kernel
theorem D250_130 : pgDecT 250 130 = some (.iconst 0, 1) := by decide +kernel
theorem D250_131 : pgDecT 250 131 = some (.invokevirtual 369, 3) := by decide +kernel
theorem D250_134 : pgDecT 250 134 = some (.putfield 373, 3) := by decide +kernel
theorem D250_137 : pgDecT 250 137 = some (.return_, 1) := by decide +kernel
theorem D250_99 : pgDecT 250 99 = some (.iload_n 2, 1) := by decide +kernel
theorem D250_100 : pgDecT 250 100 = some (.goto 9, 3) := by decide +kernel
theorem D250_81 : pgDecT 250 81 = some (.iload_n 2, 1) := by decide +kernel
theorem D250_82 : pgDecT 250 82 = some (.goto 9, 3) := by decide +kernel
theorem D250_10 : pgDecT 250 10 = some (.aload_n 0, 1) := by decide +kernel
theorem D250_11 : pgDecT 250 11 = some (.bipush 6, 2) := by decide +kernel
theorem D250_13 : pgDecT 250 13 = some (.iload_n 2, 1) := by decide +kernel
theorem D250_14 : pgDecT 250 14 = some (.aload_n 0, 1) := by decide +kernel
theorem D250_15 : pgDecT 250 15 = some (.getfield 148, 3) := by decide +kernel
theorem D250_18 : pgDecT 250 18 = some (.iload_n 1, 1) := by decide +kernel
theorem D250_19 : pgDecT 250 19 = some (.iaload, 1) := by decide +kernel
theorem D250_20 : pgDecT 250 20 = some (.iconst 0, 1) := by decide +kernel
theorem D250_21 : pgDecT 250 21 = some (.iconst 0, 1) := by decide +kernel
theorem D250_22 : pgDecT 250 22 = some (.iconst 0, 1) := by decide +kernel
theorem D250_23 : pgDecT 250 23 = some (.invokevirtual 369, 3) := by decide +kernel
theorem D250_26 : pgDecT 250 26 = some (.istore_n 3, 1) := by decide +kernel
theorem D250_27 : pgDecT 250 27 = some (.aload_n 0, 1) := by decide +kernel
theorem D250_28 : pgDecT 250 28 = some (.iconst 0, 1) := by decide +kernel
theorem D250_29 : pgDecT 250 29 = some (.aload_n 0, 1) := by decide +kernel
theorem D250_30 : pgDecT 250 30 = some (.getfield 139, 3) := by decide +kernel
theorem D250_33 : pgDecT 250 33 = some (.iload_n 1, 1) := by decide +kernel
theorem D250_34 : pgDecT 250 34 = some (.iaload, 1) := by decide +kernel
theorem D250_35 : pgDecT 250 35 = some (.aload_n 0, 1) := by decide +kernel
theorem D250_36 : pgDecT 250 36 = some (.getfield 142, 3) := by decide +kernel
theorem D250_39 : pgDecT 250 39 = some (.iload_n 1, 1) := by decide +kernel
theorem D250_40 : pgDecT 250 40 = some (.iaload, 1) := by decide +kernel
theorem D250_41 : pgDecT 250 41 = some (.aload_n 0, 1) := by decide +kernel
theorem D250_42 : pgDecT 250 42 = some (.getfield 145, 3) := by decide +kernel
theorem D250_45 : pgDecT 250 45 = some (.iload_n 1, 1) := by decide +kernel
theorem D250_46 : pgDecT 250 46 = some (.iaload, 1) := by decide +kernel
theorem D250_47 : pgDecT 250 47 = some (.iload_n 3, 1) := by decide +kernel
theorem D250_48 : pgDecT 250 48 = some (.aload_n 0, 1) := by decide +kernel
theorem D250_49 : pgDecT 250 49 = some (.getfield 151, 3) := by decide +kernel
theorem F250_151 : pgFf 250 151 = some (12, 67, 3) := by decide +kernel
theorem D250_52 : pgDecT 250 52 = some (.iload_n 1, 1) := by decide +kernel
theorem D250_53 : pgDecT 250 53 = some (.iaload, 1) := by decide +kernel
theorem D250_54 : pgDecT 250 54 = some (.invokevirtual 376, 3) := by decide +kernel
theorem I250_376 : pgIi 250 376 = some (243, 6, 12) := by decide +kernel
theorem D250_57 : pgDecT 250 57 = some (.return_, 1) := by decide +kernel
/-! 250: DictionaryHouseModel.call (II)V -/
def l250 : Nat → Nat → Mm → Int → Int → Int → Int → Int → Int → Option (Int × Mm)
  | 0, _, _, _, _, _, _, _, _ => none
  | f + 1, 93, M, x1, x2, x3, x4, x5, _ => if ¬ x4 = 2 then (if 0 ≤ x1 ∧ x1 < 6000 then (l250 f 111 M x1 x2 x3 x4 x5 (M 99 (Int.toNat x1))) else none) else (l250 f 111 M x1 x2 x3 x4 x5 x2)
  | f + 1, 111, M, x1, x2, x3, x4, x5, x6 => (f251 M x3).bind (fun q20 => if q20 ≤ x4 then (if x3 = 2 then (if 0 ≤ x5 ∧ x5 < 6000 then (if 0 ≤ x6 ∧ x6 < 6000 then (f247 M 0 (bAdd (M 96 (Int.toNat x5)) (M 96 (Int.toNat x6))) 0 0 0 0).bind (fun zq29 => some (0, (up zq29.2 53 78 zq29.1))) else none) else none) else (if x3 = 3 then (if 0 ≤ x5 ∧ x5 < 6000 then (if 0 ≤ x6 ∧ x6 < 6000 then (if (M 96 (Int.toNat x6)) ≤ (M 96 (Int.toNat x5)) then (f247 M 1 0 0 0 0 0).bind (fun zq41 => some (0, (up zq41.2 53 78 zq41.1))) else (f247 M 1 1 0 0 0 0).bind (fun zq49 => some (0, (up zq49.2 53 78 zq49.1)))) else none) else none) else (if x3 = 4 then (if 0 ≤ x5 ∧ x5 < 6000 then (if ¬ (M 96 (Int.toNat x5)) = 1 then (some (0, (up M 53 78 x2))) else (some (0, (up M 53 78 x6)))) else none) else (if x3 = 5 then (f252 M x5 x6 x2).bind (fun zq65 => some (0, zq65.2)) else (if x3 = 6 then (f247 M 3 x5 x6 0 0 0).bind (fun zq72 => some (0, (up zq72.2 53 78 zq72.1))) else ((f252 M x5 x6 x2).bind (fun zq80 => some (0, zq80.2)))))))) else (f247 M 4 x3 x4 x5 x6 0).bind (fun zq86 => some (0, (up zq86.2 53 78 zq86.1))))
  | _, _, _, _, _, _, _, _, _ => none
theorem d250 {L : Nat} {xs : Nat → Int32} (f : Nat) : (∀ (M : Mm) (x1 x2 x3 x4 x5 : Int) (h : mvH) (v : Int) (M' : Mm), l250 f 93 M x1 x2 x3 x4 x5 0 = some (v, M') → rp h M → rg x1 → rg x2 → rg x3 → rg x4 → rg x5 → evx L xs 3 250 93 [(0, .inr (.inr (.inl (some 53)))), (1, .inl (iz x1)), (2, .inl (iz x2)), (3, .inl (iz x3)), (4, .inl (iz x4)), (5, .inl (iz x5))] [] h (.inl none, 0) M') ∧ (∀ (M : Mm) (x1 x2 x3 x4 x5 x6 : Int) (h : mvH) (v : Int) (M' : Mm), l250 f 111 M x1 x2 x3 x4 x5 x6 = some (v, M') → rp h M → rg x1 → rg x2 → rg x3 → rg x4 → rg x5 → rg x6 → evx L xs 3 250 111 [(0, .inr (.inr (.inl (some 53)))), (1, .inl (iz x1)), (2, .inl (iz x2)), (3, .inl (iz x3)), (4, .inl (iz x4)), (5, .inl (iz x5)), (6, .inl (iz x6))] [] h (.inl none, 0) M') := by
  induction f with
  | zero => exact ⟨(fun M x1 x2 x3 x4 x5 h v M' hs _ _ _ _ _ _ => by cases hs), (fun M x1 x2 x3 x4 x5 x6 h v M' hs _ _ _ _ _ _ _ => by cases hs)⟩
  | succ f ih =>
    refine ⟨?_, ?_⟩
    · intro M x1 x2 x3 x4 x5 h v M' hs R rx1 rx2 rx3 rx4 rx5
      rw [l250] at hs
      refine evx_F E250 D250_93 rfl rfl ?_
      refine evx_F E250 D250_95 rfl rfl ?_
      by_cases cb17 : ¬ x4 = 2
      · rw [if_pos cb17] at hs
        refine evx_F E250 D250_96 rfl (ifT (c2_ne_T rx4 (by decide) cb17)) ?_
        refine evx_F E250 D250_103 rfl rfl ?_
        refine evx_gfr E250 D250_104 F250_148 H53 rfl R ?_
        refine evx_F E250 D250_107 rfl rfl ?_
        obtain ⟨k18, hs⟩ := ck hs
        refine evx_ial E250 D250_108 H99 (by decide) R k18 ?_
        refine evx_F E250 D250_109 rfl rfl ?_
        show evx _ _ _ _ _ [(6, .inl (iz (M 99 (Int.toNat x1)))), (0, .inr (.inr (.inl (some 53)))), (1, .inl (iz x1)), (2, .inl (iz x2)), (3, .inl (iz x3)), (4, .inl (iz x4)), (5, .inl (iz x5))] _ _ _ _
        exact evx_lv (lvLe_mk (fm rfl (fm rfl (fm rfl (fm rfl (fm rfl (fm rfl (fm rfl fn))))))) (fm rfl (fm rfl (fm rfl (fm rfl (fm rfl (fm rfl (fm rfl fn))))))) (fm rfl (fm rfl (fm rfl (fm rfl (fm rfl (fm rfl (fm rfl fn)))))))) (ih.2 _ _ _ _ _ _ _ _ _ _ hs R rx1 rx2 rx3 rx4 rx5 (R.1 99 (Int.toNat x1)))
      · rw [if_neg cb17] at hs
        refine evx_F E250 D250_96 rfl (ifF (c2_ne_F rx4 (by decide) (by omega))) ?_
        refine evx_F E250 D250_99 rfl rfl ?_
        refine evx_F E250 D250_100 rfl rfl ?_
        refine evx_F E250 D250_109 rfl rfl ?_
        show evx _ _ _ _ _ [(6, .inl (iz x2)), (0, .inr (.inr (.inl (some 53)))), (1, .inl (iz x1)), (2, .inl (iz x2)), (3, .inl (iz x3)), (4, .inl (iz x4)), (5, .inl (iz x5))] _ _ _ _
        exact evx_lv (lvLe_mk (fm rfl (fm rfl (fm rfl (fm rfl (fm rfl (fm rfl (fm rfl fn))))))) (fm rfl (fm rfl (fm rfl (fm rfl (fm rfl (fm rfl (fm rfl fn))))))) (fm rfl (fm rfl (fm rfl (fm rfl (fm rfl (fm rfl (fm rfl fn)))))))) (ih.2 _ _ _ _ _ _ _ _ _ _ hs R rx1 rx2 rx3 rx4 rx5 rx2)
    · intro M x1 x2 x3 x4 x5 x6 h v M' hs R rx1 rx2 rx3 rx4 rx5 rx6
      rw [l250] at hs
      refine evx_F E250 D250_111 rfl rfl ?_
      refine evx_F E250 D250_113 rfl rfl ?_
      obtain ⟨q20, e19, hs⟩ := Option.bind_eq_some_iff.mp hs
      refine evx_cs (D := 2) E250 D250_114 I250_389 rfl rfl (Nat.le_of_ble_eq_true rfl) ⟨rfl, Nat.le_of_ble_eq_true rfl⟩ rfl (evx_up (Nat.le_of_ble_eq_true rfl) (c251 R rx3 e19)) ?_
      intro h21 R22 w23
      have w23 : rg q20 := w23
      show evx _ _ _ _ _ _ (.inl (iz q20) :: _) _ _ _
      by_cases cb24 : q20 ≤ x4
      · rw [if_pos cb24] at hs
        refine evx_F E250 D250_117 rfl (ifT (c2_ge_T rx4 w23 cb24)) ?_
        refine evx_F E250 D250_138 rfl rfl ?_
        by_cases cb25 : x3 = 2
        · rw [if_pos cb25] at hs
          refine evx_tsi (2) E250 D250_139 cb25 (by decide) (by decide) rfl rfl ?_
          refine evx_F E250 D250_172 rfl rfl ?_
          refine evx_F E250 D250_173 rfl rfl ?_
          refine evx_F E250 D250_174 rfl rfl ?_
          refine evx_F E250 D250_175 rfl rfl ?_
          refine evx_gfr E250 D250_176 F250_139 H53 rfl R22 ?_
          refine evx_F E250 D250_179 rfl rfl ?_
          obtain ⟨k26, hs⟩ := ck hs
          refine evx_ial E250 D250_181 H96 (by decide) R22 k26 ?_
          refine evx_F E250 D250_182 rfl rfl ?_
          refine evx_gfr E250 D250_183 F250_139 H53 rfl R22 ?_
          refine evx_F E250 D250_186 rfl rfl ?_
          obtain ⟨k27, hs⟩ := ck hs
          refine evx_ial E250 D250_188 H96 (by decide) R22 k27 ?_
          refine evx_iaddw E250 D250_189 ?_
          refine evx_F E250 D250_190 rfl rfl ?_
          refine evx_F E250 D250_191 rfl rfl ?_
          refine evx_F E250 D250_192 rfl rfl ?_
          refine evx_F E250 D250_193 rfl rfl ?_
          obtain ⟨⟨q29, M33⟩, e28, hs⟩ := Option.bind_eq_some_iff.mp hs
          dsimp only at hs
          refine evx_cv (D := 2) E250 D250_194 I250_369 rfl rfl H53 ⟨Nat.le_of_ble_eq_true rfl, Nat.le_of_ble_eq_true rfl⟩ ⟨rfl, Nat.le_of_ble_eq_true rfl⟩ rfl R22 (evx_up (Nat.le_of_ble_eq_true rfl) (c247 R22 (by decide) (iz_rg _) (by decide) (by decide) (by decide) (by decide) e28)) ?_
          intro h30 R31 w32
          have w32 : rg q29 := w32
          show evx _ _ _ _ _ _ (.inl (iz q29) :: _) _ _ _
          refine evx_pfi (k := 78) E250 D250_197 F250_373 H53 rfl R31 w32 rfl ?_
          intro h34 R35
          cases hs
          exact evx_ret E250 D250_200 rfl (fun d => rfl) rfl trivial R35
        · rw [if_neg cb25] at hs
          by_cases cb36 : x3 = 3
          · rw [if_pos cb36] at hs
            refine evx_tsi (3) E250 D250_139 cb36 (by decide) (by decide) rfl rfl ?_
            refine evx_F E250 D250_201 rfl rfl ?_
            refine evx_F E250 D250_202 rfl rfl ?_
            refine evx_F E250 D250_203 rfl rfl ?_
            refine evx_F E250 D250_204 rfl rfl ?_
            refine evx_gfr E250 D250_205 F250_139 H53 rfl R22 ?_
            refine evx_F E250 D250_208 rfl rfl ?_
            obtain ⟨k37, hs⟩ := ck hs
            refine evx_ial E250 D250_210 H96 (by decide) R22 k37 ?_
            refine evx_F E250 D250_211 rfl rfl ?_
            refine evx_gfr E250 D250_212 F250_139 H53 rfl R22 ?_
            refine evx_F E250 D250_215 rfl rfl ?_
            obtain ⟨k38, hs⟩ := ck hs
            refine evx_ial E250 D250_217 H96 (by decide) R22 k38 ?_
            by_cases cb39 : (M 96 (Int.toNat x6)) ≤ (M 96 (Int.toNat x5))
            · rw [if_pos cb39] at hs
              refine evx_F E250 D250_218 rfl (ifT (c2_ge_T (R22.1 96 (Int.toNat x5)) (R22.1 96 (Int.toNat x6)) cb39)) ?_
              refine evx_F E250 D250_225 rfl rfl ?_
              refine evx_F E250 D250_226 rfl rfl ?_
              refine evx_F E250 D250_227 rfl rfl ?_
              refine evx_F E250 D250_228 rfl rfl ?_
              refine evx_F E250 D250_229 rfl rfl ?_
              obtain ⟨⟨q41, M45⟩, e40, hs⟩ := Option.bind_eq_some_iff.mp hs
              dsimp only at hs
              refine evx_cv (D := 2) E250 D250_230 I250_369 rfl rfl H53 ⟨Nat.le_of_ble_eq_true rfl, Nat.le_of_ble_eq_true rfl⟩ ⟨rfl, Nat.le_of_ble_eq_true rfl⟩ rfl R22 (evx_up (Nat.le_of_ble_eq_true rfl) (c247 R22 (by decide) (by decide) (by decide) (by decide) (by decide) (by decide) e40)) ?_
              intro h42 R43 w44
              have w44 : rg q41 := w44
              show evx _ _ _ _ _ _ (.inl (iz q41) :: _) _ _ _
              refine evx_pfi (k := 78) E250 D250_233 F250_373 H53 rfl R43 w44 rfl ?_
              intro h46 R47
              cases hs
              exact evx_ret E250 D250_236 rfl (fun d => rfl) rfl trivial R47
            · rw [if_neg cb39] at hs
              refine evx_F E250 D250_218 rfl (ifF (c2_ge_F (R22.1 96 (Int.toNat x5)) (R22.1 96 (Int.toNat x6)) (by omega))) ?_
              refine evx_F E250 D250_221 rfl rfl ?_
              refine evx_F E250 D250_222 rfl rfl ?_
              refine evx_F E250 D250_226 rfl rfl ?_
              refine evx_F E250 D250_227 rfl rfl ?_
              refine evx_F E250 D250_228 rfl rfl ?_
              refine evx_F E250 D250_229 rfl rfl ?_
              obtain ⟨⟨q49, M53⟩, e48, hs⟩ := Option.bind_eq_some_iff.mp hs
              dsimp only at hs
              refine evx_cv (D := 2) E250 D250_230 I250_369 rfl rfl H53 ⟨Nat.le_of_ble_eq_true rfl, Nat.le_of_ble_eq_true rfl⟩ ⟨rfl, Nat.le_of_ble_eq_true rfl⟩ rfl R22 (evx_up (Nat.le_of_ble_eq_true rfl) (c247 R22 (by decide) (by decide) (by decide) (by decide) (by decide) (by decide) e48)) ?_
              intro h50 R51 w52
              have w52 : rg q49 := w52
              show evx _ _ _ _ _ _ (.inl (iz q49) :: _) _ _ _
              refine evx_pfi (k := 78) E250 D250_233 F250_373 H53 rfl R51 w52 rfl ?_
              intro h54 R55
              cases hs
              exact evx_ret E250 D250_236 rfl (fun d => rfl) rfl trivial R55
          · rw [if_neg cb36] at hs
            by_cases cb56 : x3 = 4
            · rw [if_pos cb56] at hs
              refine evx_tsi (4) E250 D250_139 cb56 (by decide) (by decide) rfl rfl ?_
              refine evx_F E250 D250_237 rfl rfl ?_
              refine evx_F E250 D250_238 rfl rfl ?_
              refine evx_gfr E250 D250_239 F250_139 H53 rfl R22 ?_
              refine evx_F E250 D250_242 rfl rfl ?_
              obtain ⟨k57, hs⟩ := ck hs
              refine evx_ial E250 D250_244 H96 (by decide) R22 k57 ?_
              refine evx_F E250 D250_245 rfl rfl ?_
              by_cases cb58 : ¬ (M 96 (Int.toNat x5)) = 1
              · rw [if_pos cb58] at hs
                refine evx_F E250 D250_246 rfl (ifT (c2_ne_T (R22.1 96 (Int.toNat x5)) (by decide) cb58)) ?_
                refine evx_F E250 D250_254 rfl rfl ?_
                refine evx_pfi (k := 78) E250 D250_255 F250_373 H53 rfl R22 rx2 rfl ?_
                intro h59 R60
                cases hs
                exact evx_ret E250 D250_258 rfl (fun d => rfl) rfl trivial R60
              · rw [if_neg cb58] at hs
                refine evx_F E250 D250_246 rfl (ifF (c2_ne_F (R22.1 96 (Int.toNat x5)) (by decide) (by omega))) ?_
                refine evx_F E250 D250_249 rfl rfl ?_
                refine evx_F E250 D250_251 rfl rfl ?_
                refine evx_pfi (k := 78) E250 D250_255 F250_373 H53 rfl R22 rx6 rfl ?_
                intro h61 R62
                cases hs
                exact evx_ret E250 D250_258 rfl (fun d => rfl) rfl trivial R62
            · rw [if_neg cb56] at hs
              by_cases cb63 : x3 = 5
              · rw [if_pos cb63] at hs
                refine evx_tsi (5) E250 D250_139 cb63 (by decide) (by decide) rfl rfl ?_
                refine evx_F E250 D250_276 rfl rfl ?_
                refine evx_F E250 D250_277 rfl rfl ?_
                refine evx_F E250 D250_279 rfl rfl ?_
                refine evx_F E250 D250_281 rfl rfl ?_
                obtain ⟨⟨q65, M69⟩, e64, hs⟩ := Option.bind_eq_some_iff.mp hs
                dsimp only at hs
                refine evx_cv (D := 2) E250 D250_282 I250_392 rfl rfl H53 ⟨Nat.le_of_ble_eq_true rfl, Nat.le_of_ble_eq_true rfl⟩ ⟨rfl, Nat.le_of_ble_eq_true rfl⟩ rfl R22 (evx_up (Nat.le_of_ble_eq_true rfl) (c252 R22 rx5 rx6 rx2 e64)) ?_
                intro h66 R67 w68
                cases hs
                exact evx_ret E250 D250_285 rfl (fun d => rfl) rfl trivial R67
              · rw [if_neg cb63] at hs
                by_cases cb70 : x3 = 6
                · rw [if_pos cb70] at hs
                  refine evx_tsi (6) E250 D250_139 cb70 (by decide) (by decide) rfl rfl ?_
                  refine evx_F E250 D250_259 rfl rfl ?_
                  refine evx_F E250 D250_260 rfl rfl ?_
                  refine evx_F E250 D250_261 rfl rfl ?_
                  refine evx_F E250 D250_262 rfl rfl ?_
                  refine evx_F E250 D250_264 rfl rfl ?_
                  refine evx_F E250 D250_266 rfl rfl ?_
                  refine evx_F E250 D250_267 rfl rfl ?_
                  refine evx_F E250 D250_268 rfl rfl ?_
                  obtain ⟨⟨q72, M76⟩, e71, hs⟩ := Option.bind_eq_some_iff.mp hs
                  dsimp only at hs
                  refine evx_cv (D := 2) E250 D250_269 I250_369 rfl rfl H53 ⟨Nat.le_of_ble_eq_true rfl, Nat.le_of_ble_eq_true rfl⟩ ⟨rfl, Nat.le_of_ble_eq_true rfl⟩ rfl R22 (evx_up (Nat.le_of_ble_eq_true rfl) (c247 R22 (by decide) rx5 rx6 (by decide) (by decide) (by decide) e71)) ?_
                  intro h73 R74 w75
                  have w75 : rg q72 := w75
                  show evx _ _ _ _ _ _ (.inl (iz q72) :: _) _ _ _
                  refine evx_pfi (k := 78) E250 D250_272 F250_373 H53 rfl R74 w75 rfl ?_
                  intro h77 R78
                  cases hs
                  exact evx_ret E250 D250_275 rfl (fun d => rfl) rfl trivial R78
                · rw [if_neg cb70] at hs
                  refine evx_tso E250 D250_139 rx3 (by omega) rfl ?_
                  refine evx_F E250 D250_276 rfl rfl ?_
                  refine evx_F E250 D250_277 rfl rfl ?_
                  refine evx_F E250 D250_279 rfl rfl ?_
                  refine evx_F E250 D250_281 rfl rfl ?_
                  obtain ⟨⟨q80, M84⟩, e79, hs⟩ := Option.bind_eq_some_iff.mp hs
                  dsimp only at hs
                  refine evx_cv (D := 2) E250 D250_282 I250_392 rfl rfl H53 ⟨Nat.le_of_ble_eq_true rfl, Nat.le_of_ble_eq_true rfl⟩ ⟨rfl, Nat.le_of_ble_eq_true rfl⟩ rfl R22 (evx_up (Nat.le_of_ble_eq_true rfl) (c252 R22 rx5 rx6 rx2 e79)) ?_
                  intro h81 R82 w83
                  cases hs
                  exact evx_ret E250 D250_285 rfl (fun d => rfl) rfl trivial R82
      · rw [if_neg cb24] at hs
        refine evx_F E250 D250_117 rfl (ifF (c2_ge_F rx4 w23 (by omega))) ?_
        refine evx_F E250 D250_120 rfl rfl ?_
        refine evx_F E250 D250_121 rfl rfl ?_
        refine evx_F E250 D250_122 rfl rfl ?_
        refine evx_F E250 D250_123 rfl rfl ?_
        refine evx_F E250 D250_124 rfl rfl ?_
        refine evx_F E250 D250_126 rfl rfl ?_
        refine evx_F E250 D250_128 rfl rfl ?_
        refine evx_F E250 D250_130 rfl rfl ?_
        obtain ⟨⟨q86, M90⟩, e85, hs⟩ := Option.bind_eq_some_iff.mp hs
        dsimp only at hs
        refine evx_cv (D := 2) E250 D250_131 I250_369 rfl rfl H53 ⟨Nat.le_of_ble_eq_true rfl, Nat.le_of_ble_eq_true rfl⟩ ⟨rfl, Nat.le_of_ble_eq_true rfl⟩ rfl R22 (evx_up (Nat.le_of_ble_eq_true rfl) (c247 R22 (by decide) rx3 rx4 rx5 rx6 (by decide) e85)) ?_
        intro h87 R88 w89
        have w89 : rg q86 := w89
        show evx _ _ _ _ _ _ (.inl (iz q86) :: _) _ _ _
        refine evx_pfi (k := 78) E250 D250_134 F250_373 H53 rfl R88 w89 rfl ?_
        intro h91 R92
        cases hs
        exact evx_ret E250 D250_137 rfl (fun d => rfl) rfl trivial R92
def f250 (M : Mm) (x1 : Int) (x2 : Int) : Option (Int × Mm) := if 0 ≤ x1 ∧ x1 < 6000 then (if ¬ (M 95 (Int.toNat x1)) = 5 then (if rg ((M 97 (Int.toNat x1)) + 1) then (if ¬ ((M 97 (Int.toNat x1)) + 1) = 1 then (l250 FU 93 M x1 x2 (M 96 (Int.toNat x1)) ((M 97 (Int.toNat x1)) + 1) (M 98 (Int.toNat x1)) 0) else (l250 FU 93 M x1 x2 (M 96 (Int.toNat x1)) ((M 97 (Int.toNat x1)) + 1) x2 0)) else none) else (f247 M 6 x2 (M 99 (Int.toNat x1)) 0 0 0).bind (fun zq6 => (f243 zq6.2 0 (zq6.2 96 (Int.toNat x1)) (zq6.2 97 (Int.toNat x1)) (zq6.2 98 (Int.toNat x1)) zq6.1 (zq6.2 100 (Int.toNat x1))).bind (fun zq12 => some (0, zq12.2)))) else none
theorem c250 {L : Nat} {xs : Nat → Int32} {h : mvH} {M : Mm} {x1 x2 : Int} {v : Int} {M' : Mm} (R : rp h M) (rx1 : rg x1) (rx2 : rg x2) (hs : f250 M x1 x2 = some (v, M')) : evx L xs 3 250 0 [(0, .inr (.inr (.inl (some 53)))), (1, .inl (iz x1)), (2, .inl (iz x2))] [] h (.inl none, 0) M' := by
  unfold f250 at hs
  refine evx_F E250 D250_0 rfl rfl ?_
  refine evx_gfr E250 D250_1 F250_136 H53 rfl R ?_
  refine evx_F E250 D250_4 rfl rfl ?_
  obtain ⟨k1, hs⟩ := ck hs
  refine evx_ial E250 D250_5 H95 (by decide) R k1 ?_
  refine evx_F E250 D250_6 rfl rfl ?_
  by_cases cb2 : ¬ (M 95 (Int.toNat x1)) = 5
  · rw [if_pos cb2] at hs
    refine evx_F E250 D250_7 rfl (ifT (c2_ne_T (R.1 95 (Int.toNat x1)) (by decide) cb2)) ?_
    refine evx_F E250 D250_58 rfl rfl ?_
    refine evx_gfr E250 D250_59 F250_139 H53 rfl R ?_
    refine evx_F E250 D250_62 rfl rfl ?_
    refine evx_ial E250 D250_63 H96 (by decide) R k1 ?_
    refine evx_F E250 D250_64 rfl rfl ?_
    refine evx_F E250 D250_65 rfl rfl ?_
    refine evx_gfr E250 D250_66 F250_142 H53 rfl R ?_
    refine evx_F E250 D250_69 rfl rfl ?_
    refine evx_ial E250 D250_70 H97 (by decide) R k1 ?_
    refine evx_F E250 D250_71 rfl rfl ?_
    refine evx_add E250 D250_72 ?_
    refine evx_F E250 D250_73 rfl rfl ?_
    refine evx_F E250 D250_75 rfl rfl ?_
    refine evx_F E250 D250_77 rfl rfl ?_
    obtain ⟨k3, hs⟩ := ck hs
    by_cases cb4 : ¬ ((M 97 (Int.toNat x1)) + 1) = 1
    · rw [if_pos cb4] at hs
      refine evx_F E250 D250_78 rfl (ifT (c2_ne_T k3 (by decide) cb4)) ?_
      refine evx_F E250 D250_85 rfl rfl ?_
      refine evx_gfr E250 D250_86 F250_145 H53 rfl R ?_
      refine evx_F E250 D250_89 rfl rfl ?_
      refine evx_ial E250 D250_90 H98 (by decide) R k1 ?_
      refine evx_F E250 D250_91 rfl rfl ?_
      show evx _ _ _ _ _ [(5, .inl (iz (M 98 (Int.toNat x1)))), (4, .inl (iz ((M 97 (Int.toNat x1)) + 1))), (3, .inl (iz (M 96 (Int.toNat x1)))), (0, .inr (.inr (.inl (some 53)))), (1, .inl (iz x1)), (2, .inl (iz x2))] _ _ _ _
      exact evx_lv (lvLe_mk (fm rfl (fm rfl (fm rfl (fm rfl (fm rfl (fm rfl fn)))))) (fm rfl (fm rfl (fm rfl (fm rfl (fm rfl (fm rfl fn)))))) (fm rfl (fm rfl (fm rfl (fm rfl (fm rfl (fm rfl fn))))))) ((d250 FU).1 _ _ _ _ _ _ _ _ _ hs R rx1 rx2 (R.1 96 (Int.toNat x1)) k3 (R.1 98 (Int.toNat x1)))
    · rw [if_neg cb4] at hs
      refine evx_F E250 D250_78 rfl (ifF (c2_ne_F k3 (by decide) (by omega))) ?_
      refine evx_F E250 D250_81 rfl rfl ?_
      refine evx_F E250 D250_82 rfl rfl ?_
      refine evx_F E250 D250_91 rfl rfl ?_
      show evx _ _ _ _ _ [(5, .inl (iz x2)), (4, .inl (iz ((M 97 (Int.toNat x1)) + 1))), (3, .inl (iz (M 96 (Int.toNat x1)))), (0, .inr (.inr (.inl (some 53)))), (1, .inl (iz x1)), (2, .inl (iz x2))] _ _ _ _
      exact evx_lv (lvLe_mk (fm rfl (fm rfl (fm rfl (fm rfl (fm rfl (fm rfl fn)))))) (fm rfl (fm rfl (fm rfl (fm rfl (fm rfl (fm rfl fn)))))) (fm rfl (fm rfl (fm rfl (fm rfl (fm rfl (fm rfl fn))))))) ((d250 FU).1 _ _ _ _ _ _ _ _ _ hs R rx1 rx2 (R.1 96 (Int.toNat x1)) k3 rx2)
  · rw [if_neg cb2] at hs
    refine evx_F E250 D250_7 rfl (ifF (c2_ne_F (R.1 95 (Int.toNat x1)) (by decide) (by omega))) ?_
    refine evx_F E250 D250_10 rfl rfl ?_
    refine evx_k (k := 6) E250 D250_11 rfl (by decide) ?_
    refine evx_F E250 D250_13 rfl rfl ?_
    refine evx_F E250 D250_14 rfl rfl ?_
    refine evx_gfr E250 D250_15 F250_148 H53 rfl R ?_
    refine evx_F E250 D250_18 rfl rfl ?_
    refine evx_ial E250 D250_19 H99 (by decide) R k1 ?_
    refine evx_F E250 D250_20 rfl rfl ?_
    refine evx_F E250 D250_21 rfl rfl ?_
    refine evx_F E250 D250_22 rfl rfl ?_
    obtain ⟨⟨q6, M10⟩, e5, hs⟩ := Option.bind_eq_some_iff.mp hs
    dsimp only at hs
    refine evx_cv (D := 2) E250 D250_23 I250_369 rfl rfl H53 ⟨Nat.le_of_ble_eq_true rfl, Nat.le_of_ble_eq_true rfl⟩ ⟨rfl, Nat.le_of_ble_eq_true rfl⟩ rfl R (evx_up (Nat.le_of_ble_eq_true rfl) (c247 R (by decide) rx2 (R.1 99 (Int.toNat x1)) (by decide) (by decide) (by decide) e5)) ?_
    intro h7 R8 w9
    have w9 : rg q6 := w9
    show evx _ _ _ _ _ _ (.inl (iz q6) :: _) _ _ _
    refine evx_F E250 D250_26 rfl rfl ?_
    refine evx_F E250 D250_27 rfl rfl ?_
    refine evx_F E250 D250_28 rfl rfl ?_
    refine evx_F E250 D250_29 rfl rfl ?_
    refine evx_gfr E250 D250_30 F250_139 H53 rfl R8 ?_
    refine evx_F E250 D250_33 rfl rfl ?_
    refine evx_ial E250 D250_34 H96 (by decide) R8 k1 ?_
    refine evx_F E250 D250_35 rfl rfl ?_
    refine evx_gfr E250 D250_36 F250_142 H53 rfl R8 ?_
    refine evx_F E250 D250_39 rfl rfl ?_
    refine evx_ial E250 D250_40 H97 (by decide) R8 k1 ?_
    refine evx_F E250 D250_41 rfl rfl ?_
    refine evx_gfr E250 D250_42 F250_145 H53 rfl R8 ?_
    refine evx_F E250 D250_45 rfl rfl ?_
    refine evx_ial E250 D250_46 H98 (by decide) R8 k1 ?_
    refine evx_F E250 D250_47 rfl rfl ?_
    refine evx_F E250 D250_48 rfl rfl ?_
    refine evx_gfr E250 D250_49 F250_151 H53 rfl R8 ?_
    refine evx_F E250 D250_52 rfl rfl ?_
    refine evx_ial E250 D250_53 H100 (by decide) R8 k1 ?_
    obtain ⟨⟨q12, M16⟩, e11, hs⟩ := Option.bind_eq_some_iff.mp hs
    dsimp only at hs
    refine evx_cv (D := 2) E250 D250_54 I250_376 rfl rfl H53 ⟨Nat.le_of_ble_eq_true rfl, Nat.le_of_ble_eq_true rfl⟩ ⟨rfl, Nat.le_of_ble_eq_true rfl⟩ rfl R8 (evx_up (Nat.le_of_ble_eq_true rfl) (c243 R8 (by decide) (R8.1 96 (Int.toNat x1)) (R8.1 97 (Int.toNat x1)) (R8.1 98 (Int.toNat x1)) w9 (R8.1 100 (Int.toNat x1)) e11)) ?_
    intro h13 R14 w15
    cases hs
    exact evx_ret E250 D250_57 rfl (fun d => rfl) rfl trivial R14
set_option maxRecDepth 20000 in
theorem E169 : pgMm 169 = some (⟨"DictionaryHouse$Plans", "actual", "(II[II)I"⟩, prog_10_method_7_code, 8, (some .int), []) := rfl
theorem D169_0 : pgDecT 169 0 = some (.aload_n 0, 1) := by decide +kernel
theorem D169_1 : pgDecT 169 1 = some (.getfield 12, 3) := by decide +kernel
theorem F169_12 : pgFf 169 12 = some (8, 0, 3) := by decide +kernel
theorem D169_4 : pgDecT 169 4 = some (.iload_n 1, 1) := by decide +kernel
theorem D169_5 : pgDecT 169 5 = some (.bipush 8, 2) := by decide +kernel
theorem D169_7 : pgDecT 169 7 = some (.imul, 1) := by decide +kernel
theorem D169_8 : pgDecT 169 8 = some (.iload_n 2, 1) := by decide +kernel
theorem D169_9 : pgDecT 169 9 = some (.iadd, 1) := by decide +kernel
theorem D169_10 : pgDecT 169 10 = some (.iaload, 1) := by decide +kernel
theorem D169_11 : pgDecT 169 11 = some (.istore 5, 2) := by decide +kernel
theorem D169_13 : pgDecT 169 13 = some (.iload 5, 2) := by decide +kernel
theorem D169_15 : pgDecT 169 15 = some (.bipush 16, 2) := by decide +kernel
theorem D169_17 : pgDecT 169 17 = some (.idiv, 1) := by decide +kernel
theorem D169_18 : pgDecT 169 18 = some (.iconst 4, 1) := by decide +kernel
theorem D169_19 : pgDecT 169 19 = some (.imul, 1) := by decide +kernel
theorem D169_20 : pgDecT 169 20 = some (.istore 6, 2) := by decide +kernel
theorem D169_22 : pgDecT 169 22 = some (.iload 5, 2) := by decide +kernel
theorem D169_24 : pgDecT 169 24 = some (.bipush 16, 2) := by decide +kernel
theorem D169_26 : pgDecT 169 26 = some (.irem, 1) := by decide +kernel
theorem D169_27 : pgDecT 169 27 = some (.istore 7, 2) := by decide +kernel
theorem D169_29 : pgDecT 169 29 = some (.iload 6, 2) := by decide +kernel
theorem D169_31 : pgDecT 169 31 = some (.iload 7, 2) := by decide +kernel
theorem D169_33 : pgDecT 169 33 = some (.iconst 4, 1) := by decide +kernel
theorem D169_34 : pgDecT 169 34 = some (.if_icmp .ge 8, 3) := by decide +kernel
theorem D169_42 : pgDecT 169 42 = some (.aload_n 3, 1) := by decide +kernel
theorem D169_43 : pgDecT 169 43 = some (.iload 4, 2) := by decide +kernel
theorem D169_45 : pgDecT 169 45 = some (.bipush 8, 2) := by decide +kernel
theorem D169_47 : pgDecT 169 47 = some (.imul, 1) := by decide +kernel
theorem D169_48 : pgDecT 169 48 = some (.iload 7, 2) := by decide +kernel
theorem D169_50 : pgDecT 169 50 = some (.iadd, 1) := by decide +kernel
theorem D169_51 : pgDecT 169 51 = some (.iconst 4, 1) := by decide +kernel
theorem D169_52 : pgDecT 169 52 = some (.isub, 1) := by decide +kernel
theorem D169_53 : pgDecT 169 53 = some (.iaload, 1) := by decide +kernel
theorem D169_54 : pgDecT 169 54 = some (.iadd, 1) := by decide +kernel
theorem D169_55 : pgDecT 169 55 = some (.ireturn, 1) := by decide +kernel
theorem D169_37 : pgDecT 169 37 = some (.iload 7, 2) := by decide +kernel
theorem D169_39 : pgDecT 169 39 = some (.goto 15, 3) := by decide +kernel
/-! 169_50: DictionaryHouse$Plans.actual (II[II)I -/
def f169_50 (M : Mm) (x1 : Int) (x2 : Int) (x4 : Int) : Option Int := if 0 ≤ ((x1 * 8) + x2) ∧ ((x1 * 8) + x2) < 35520 then (if 0 ≤ (M 23 (Int.toNat ((x1 * 8) + x2))) ∧ (M 23 (Int.toNat ((x1 * 8) + x2))) < 2147483648 then (if rg ((M 23 (Int.toNat ((x1 * 8) + x2))) % 16) then (if 4 ≤ ((M 23 (Int.toNat ((x1 * 8) + x2))) % 16) then (if 0 ≤ (((x4 * 8) + ((M 23 (Int.toNat ((x1 * 8) + x2))) % 16)) - 4) ∧ (((x4 * 8) + ((M 23 (Int.toNat ((x1 * 8) + x2))) % 16)) - 4) < 2416 then (if rg ((((M 23 (Int.toNat ((x1 * 8) + x2))) / 16) * 4) + (M 50 (Int.toNat (((x4 * 8) + ((M 23 (Int.toNat ((x1 * 8) + x2))) % 16)) - 4)))) then (some ((((M 23 (Int.toNat ((x1 * 8) + x2))) / 16) * 4) + (M 50 (Int.toNat (((x4 * 8) + ((M 23 (Int.toNat ((x1 * 8) + x2))) % 16)) - 4))))) else none) else none) else (if rg ((((M 23 (Int.toNat ((x1 * 8) + x2))) / 16) * 4) + ((M 23 (Int.toNat ((x1 * 8) + x2))) % 16)) then (some ((((M 23 (Int.toNat ((x1 * 8) + x2))) / 16) * 4) + ((M 23 (Int.toNat ((x1 * 8) + x2))) % 16))) else none)) else none) else none) else none
theorem c169_50 {L : Nat} {xs : Nat → Int32} {h : mvH} {M : Mm} {x1 x2 x4 : Int} {v : Int} (R : rp h M) (rx1 : rg x1) (rx2 : rg x2) (rx4 : rg x4) (hs : f169_50 M x1 x2 x4 = some v) : evx L xs 1 169 0 [(0, .inr (.inr (.inl (some 22)))), (1, .inl (iz x1)), (2, .inl (iz x2)), (3, .inr (.inr (.inl (some 50)))), (4, .inl (iz x4))] [] h (.inl (some (.inl v)), 0) M := by
  unfold f169_50 at hs
  refine evx_F E169 D169_0 rfl rfl ?_
  refine evx_gfr E169 D169_1 F169_12 H22 rfl R ?_
  refine evx_F E169 D169_4 rfl rfl ?_
  refine evx_k (k := 8) E169 D169_5 rfl (by decide) ?_
  refine evx_mul E169 D169_7 ?_
  refine evx_F E169 D169_8 rfl rfl ?_
  refine evx_add E169 D169_9 ?_
  obtain ⟨k1, hs⟩ := ck hs
  refine evx_ial E169 D169_10 H23 (by decide) R k1 ?_
  refine evx_F E169 D169_11 rfl rfl ?_
  refine evx_F E169 D169_13 rfl rfl ?_
  refine evx_k (k := 16) E169 D169_15 rfl (by decide) ?_
  obtain ⟨k2, hs⟩ := ck hs
  refine evx_div E169 D169_17 k2 (by decide) ?_
  refine evx_F E169 D169_18 rfl rfl ?_
  refine evx_mul E169 D169_19 ?_
  refine evx_F E169 D169_20 rfl rfl ?_
  refine evx_F E169 D169_22 rfl rfl ?_
  refine evx_k (k := 16) E169 D169_24 rfl (by decide) ?_
  refine evx_rem E169 D169_26 k2 (by decide) ?_
  refine evx_F E169 D169_27 rfl rfl ?_
  refine evx_F E169 D169_29 rfl rfl ?_
  refine evx_F E169 D169_31 rfl rfl ?_
  refine evx_F E169 D169_33 rfl rfl ?_
  obtain ⟨k3, hs⟩ := ck hs
  by_cases cb4 : 4 ≤ ((M 23 (Int.toNat ((x1 * 8) + x2))) % 16)
  · rw [if_pos cb4] at hs
    refine evx_F E169 D169_34 rfl (ifT (c2_ge_T k3 (by decide) cb4)) ?_
    refine evx_F E169 D169_42 rfl rfl ?_
    refine evx_F E169 D169_43 rfl rfl ?_
    refine evx_k (k := 8) E169 D169_45 rfl (by decide) ?_
    refine evx_mul E169 D169_47 ?_
    refine evx_F E169 D169_48 rfl rfl ?_
    refine evx_add E169 D169_50 ?_
    refine evx_F E169 D169_51 rfl rfl ?_
    refine evx_sub E169 D169_52 ?_
    obtain ⟨k5, hs⟩ := ck hs
    refine evx_ial E169 D169_53 H50 (by decide) R k5 ?_
    refine evx_add E169 D169_54 ?_
    obtain ⟨k6, hs⟩ := ck hs
    cases hs
    exact evx_ret E169 D169_55 rfl (fun d => rfl) rfl (show rg _ from k6) R
  · rw [if_neg cb4] at hs
    refine evx_F E169 D169_34 rfl (ifF (c2_ge_F k3 (by decide) (by omega))) ?_
    refine evx_F E169 D169_37 rfl rfl ?_
    refine evx_F E169 D169_39 rfl rfl ?_
    refine evx_add E169 D169_54 ?_
    obtain ⟨k7, hs⟩ := ck hs
    cases hs
    exact evx_ret E169 D169_55 rfl (fun d => rfl) rfl (show rg _ from k7) R
/-! 99_30: java/util/Arrays.fill ([IIII)V -/
def l99_30 : Nat → Nat → Mm → Int → Int → Int → Int → Option (Int × Mm)
  | 0, _, _, _, _, _, _ => none
  | f + 1, 10, M, x1, x2, x3, x4 => if x2 ≤ x4 then (some (0, M)) else (if 0 ≤ x4 ∧ x4 < 2504 then (if rg (x4 + 1) then (l99_30 f 10 (up M 30 (Int.toNat x4) x3) x1 x2 x3 (x4 + 1)) else none) else none)
  | _, _, _, _, _, _, _ => none
theorem d99_30 {L : Nat} {xs : Nat → Int32} (f : Nat) : (∀ (M : Mm) (x1 x2 x3 x4 : Int) (h : mvH) (v : Int) (M' : Mm), l99_30 f 10 M x1 x2 x3 x4 = some (v, M') → rp h M → rg x1 → rg x2 → rg x3 → rg x4 → evx L xs 2 99 10 [(0, .inr (.inr (.inl (some 30)))), (1, .inl (iz x1)), (2, .inl (iz x2)), (3, .inl (iz x3)), (4, .inl (iz x4))] [] h (.inl none, 0) M') := by
  induction f with
  | zero => exact (fun M x1 x2 x3 x4 h v M' hs _ _ _ _ _ => by cases hs)
  | succ f ih =>
    intro M x1 x2 x3 x4 h v M' hs R rx1 rx2 rx3 rx4
    rw [l99_30] at hs
    refine evx_F E99 D99_10 rfl rfl ?_
    refine evx_F E99 D99_12 rfl rfl ?_
    by_cases cb7 : x2 ≤ x4
    · rw [if_pos cb7] at hs
      refine evx_F E99 D99_13 rfl (ifT (c2_ge_T rx4 rx2 cb7)) ?_
      cases hs
      exact evx_ret E99 D99_27 rfl (fun d => rfl) rfl trivial R
    · rw [if_neg cb7] at hs
      refine evx_F E99 D99_13 rfl (ifF (c2_ge_F rx4 rx2 (by omega))) ?_
      refine evx_F E99 D99_16 rfl rfl ?_
      refine evx_F E99 D99_17 rfl rfl ?_
      refine evx_F E99 D99_19 rfl rfl ?_
      obtain ⟨k8, hs⟩ := ck hs
      refine evx_ias E99 D99_20 H30 (by decide) R k8 rx3 ?_
      intro h9 R10
      refine evx_inc E99 D99_21 (Nat.le_of_ble_eq_true rfl) rfl ?_
      refine evx_F E99 D99_24 rfl rfl ?_
      obtain ⟨k11, hs⟩ := ck hs
      show evx _ _ _ _ _ [(4, .inl (iz (x4 + 1))), (0, .inr (.inr (.inl (some 30)))), (1, .inl (iz x1)), (2, .inl (iz x2)), (3, .inl (iz x3))] _ _ _ _
      exact evx_lv (lvLe_mk (fm rfl (fm rfl (fm rfl (fm rfl (fm rfl fn))))) (fm rfl (fm rfl (fm rfl (fm rfl (fm rfl fn))))) (fm rfl (fm rfl (fm rfl (fm rfl (fm rfl fn)))))) (ih _ _ _ _ _ _ _ _ hs R10 rx1 rx2 rx3 k11)
def f99_30 (M : Mm) (x1 : Int) (x2 : Int) (x3 : Int) : Option (Int × Mm) := (f100 M 2504 x1 x2).bind (fun zq2 => l99_30 FU 10 zq2.2 x1 x2 x3 x1)
theorem c99_30 {L : Nat} {xs : Nat → Int32} {h : mvH} {M : Mm} {x1 x2 x3 : Int} {v : Int} {M' : Mm} (R : rp h M) (rx1 : rg x1) (rx2 : rg x2) (rx3 : rg x3) (hs : f99_30 M x1 x2 x3 = some (v, M')) : evx L xs 2 99 0 [(0, .inr (.inr (.inl (some 30)))), (1, .inl (iz x1)), (2, .inl (iz x2)), (3, .inl (iz x3))] [] h (.inl none, 0) M' := by
  unfold f99_30 at hs
  refine evx_F E99 D99_0 rfl rfl ?_
  refine evx_len E99 D99_1 H30 (by decide) R ?_
  refine evx_F E99 D99_2 rfl rfl ?_
  refine evx_F E99 D99_3 rfl rfl ?_
  obtain ⟨⟨q2, M6⟩, e1, hs⟩ := Option.bind_eq_some_iff.mp hs
  dsimp only at hs
  refine evx_cs (D := 1) E99 D99_4 I99_13 rfl rfl (Nat.le_of_ble_eq_true rfl) ⟨rfl, Nat.le_of_ble_eq_true rfl⟩ rfl (evx_up (Nat.le_of_ble_eq_true rfl) (c100 R (by decide) rx1 rx2 e1)) ?_
  intro h3 R4 w5
  refine evx_F E99 D99_7 rfl rfl ?_
  refine evx_F E99 D99_8 rfl rfl ?_
  show evx _ _ _ _ _ [(4, .inl (iz x1)), (0, .inr (.inr (.inl (some 30)))), (1, .inl (iz x1)), (2, .inl (iz x2)), (3, .inl (iz x3))] _ _ _ _
  exact evx_lv (lvLe_mk (fm rfl (fm rfl (fm rfl (fm rfl (fm rfl fn))))) (fm rfl (fm rfl (fm rfl (fm rfl (fm rfl fn))))) (fm rfl (fm rfl (fm rfl (fm rfl (fm rfl fn)))))) ((d99_30 FU) _ _ _ _ _ _ _ _ hs R4 rx1 rx2 rx3 rx1)
set_option maxRecDepth 20000 in
theorem E15 : pgMm 15 = some (⟨"DictionaryHouseLaw", "list", "(LDictionaryHouse;I[J)I"⟩, method_3_code, 4, (some .int), [(0, 9, 12, 13), (0, 9, 15, 15)]) := rfl
theorem D15_0 : pgDecT 15 0 = some (.aload_n 2, 1) := by decide +kernel
theorem D15_1 : pgDecT 15 1 = some (.iconst 0, 1) := by decide +kernel
theorem D15_2 : pgDecT 15 2 = some (.aload_n 0, 1) := by decide +kernel
theorem D15_3 : pgDecT 15 3 = some (.iload_n 1, 1) := by decide +kernel
theorem D15_4 : pgDecT 15 4 = some (.invokevirtual 7, 3) := by decide +kernel
theorem I15_7 : pgIi 15 7 = some (16, 1, 11) := by decide +kernel
theorem D15_7 : pgDecT 15 7 = some (.i2l, 1) := by decide +kernel
theorem D15_8 : pgDecT 15 8 = some (.lastore, 1) := by decide +kernel
theorem D15_9 : pgDecT 15 9 = some (.goto 9, 3) := by decide +kernel
theorem D15_18 : pgDecT 15 18 = some (.iconst 0, 1) := by decide +kernel
theorem D15_19 : pgDecT 15 19 = some (.ireturn, 1) := by decide +kernel
theorem D15_13 : pgDecT 15 13 = some (.iconst 1, 1) := by decide +kernel
theorem D15_14 : pgDecT 15 14 = some (.ireturn, 1) := by decide +kernel
theorem D15_16 : pgDecT 15 16 = some (.iconst 2, 1) := by decide +kernel
theorem D15_17 : pgDecT 15 17 = some (.ireturn, 1) := by decide +kernel
/-! 15_0_109: DictionaryHouseLaw.list (LDictionaryHouse;I[J)I -/
def f15_0_109 (M : Mm) (x1 : Int) : Option (Int × Mm) := (f16 M x1).bind (fun zq2 => if zq2.1 = 0 then (some (0, (up zq2.2.2 109 (Int.toNat 0) zq2.2.1))) else if zq2.1 = 1 then (some (1, zq2.2.2)) else (some (2, zq2.2.2)))
theorem c15_0_109 {L : Nat} {xs : Nat → Int32} {h : mvH} {M : Mm} {x1 : Int} {v : Int} {M' : Mm} (R : rp h M) (rx1 : rg x1) (hs : f15_0_109 M x1 = some (v, M')) : evx L xs 11 15 0 [(0, .inr (.inr (.inl (some 0)))), (1, .inl (iz x1)), (2, .inr (.inr (.inl (some 109))))] [] h (ow v) M' := by
  unfold f15_0_109 at hs
  refine evx_F E15 D15_0 rfl rfl ?_
  refine evx_F E15 D15_1 rfl rfl ?_
  refine evx_F E15 D15_2 rfl rfl ?_
  refine evx_F E15 D15_3 rfl rfl ?_
  obtain ⟨⟨kq7, q2, M6⟩, e1, hs⟩ := Option.bind_eq_some_iff.mp hs
  dsimp only at hs
  have ge1 := c16 (L := L) (xs := xs) R rx1 e1
  by_cases cb8 : kq7 = 0
  · rw [if_pos cb8] at hs
    subst cb8
    refine evx_cv (D := 10) E15 D15_4 I15_7 rfl rfl H0 ⟨Nat.le_of_ble_eq_true rfl, Nat.le_of_ble_eq_true rfl⟩ ⟨rfl, Nat.le_of_ble_eq_true rfl⟩ rfl R (evx_up (Nat.le_of_ble_eq_true rfl) ge1) ?_
    intro h3 R4 w5
    have w5 : rg q2 := w5
    show evx _ _ _ _ _ _ (.inl (iz q2) :: _) _ _ _
    refine evx_F E15 D15_7 rfl rfl ?_
    refine evx_las E15 D15_8 H109 (by decide) R4 (by decide) w5 ?_
    intro h9 R10
    refine evx_F E15 D15_9 rfl rfl ?_
    refine evx_F E15 D15_18 rfl rfl ?_
    cases hs
    exact evx_ret E15 D15_19 rfl (fun d => rfl) rfl (show rg _ from (by decide)) R10
  · rw [if_neg cb8] at hs
    by_cases cb11 : kq7 = 1
    · rw [if_pos cb11] at hs
      rw [cb11, ot_1] at ge1
      cases hs
      show evx _ _ _ _ _ _ _ _ (.inl (some (.inl 1)), 1 + 0) _
      refine evx_cat (n1 := 1) (n2 := 0) (D := 10) E15 D15_4 I15_7 rfl rfl H0 ⟨Nat.le_of_ble_eq_true rfl, Nat.le_of_ble_eq_true rfl⟩ ⟨rfl, Nat.le_of_ble_eq_true rfl⟩ rfl rfl R (evx_up (Nat.le_of_ble_eq_true rfl) ge1) ?_
      intro h12 R13
      show evx _ _ _ _ _ [(0, .inr (.inr (.inl (some 0)))), (1, .inl (iz x1)), (2, .inr (.inr (.inl (some 109))))] _ _ _ _
      refine evx_F E15 D15_13 rfl rfl ?_
      exact evx_ret E15 D15_14 rfl (fun d => rfl) rfl (show rg _ from (by decide)) R13
    · rw [if_neg cb11] at hs
      rw [ot_2 cb8 cb11] at ge1
      cases hs
      show evx _ _ _ _ _ _ _ _ (.inl (some (.inl 2)), 1 + 0) _
      refine evx_cat (n1 := 1) (n2 := 0) (D := 10) E15 D15_4 I15_7 rfl rfl H0 ⟨Nat.le_of_ble_eq_true rfl, Nat.le_of_ble_eq_true rfl⟩ ⟨rfl, Nat.le_of_ble_eq_true rfl⟩ rfl rfl R (evx_up (Nat.le_of_ble_eq_true rfl) ge1) ?_
      intro h14 R15
      show evx _ _ _ _ _ [(0, .inr (.inr (.inl (some 0)))), (1, .inl (iz x1)), (2, .inr (.inr (.inl (some 109))))] _ _ _ _
      refine evx_F E15 D15_16 rfl rfl ?_
      exact evx_ret E15 D15_17 rfl (fun d => rfl) rfl (show rg _ from (by decide)) R15
set_option maxRecDepth 20000 in
theorem E30 : pgMm 30 = some (⟨"DictionaryHouse", "method", "(II)I"⟩, prog_1_method_5_code, 3, (some .int), []) := rfl
theorem D30_0 : pgDecT 30 0 = some (.aload_n 0, 1) := by decide +kernel
theorem D30_1 : pgDecT 30 1 = some (.getfield 19, 3) := by decide +kernel
theorem F30_19 : pgFf 30 19 = some (11, 1, 3) := by decide +kernel
theorem D30_4 : pgDecT 30 4 = some (.iload_n 1, 1) := by decide +kernel
theorem D30_5 : pgDecT 30 5 = some (.invokevirtual 79, 3) := by decide +kernel
theorem I30_79 : pgIi 30 79 = some (26, 1, 1) := by decide +kernel
theorem D30_8 : pgDecT 30 8 = some (.ifCond .eq 29, 3) := by decide +kernel
theorem D30_37 : pgDecT 30 37 = some (.iconst 0, 1) := by decide +kernel
theorem D30_38 : pgDecT 30 38 = some (.invokestatic 67, 3) := by decide +kernel
theorem I30_67 : pgIi 30 67 = some (18, 1, 100) := by decide +kernel
theorem D30_11 : pgDecT 30 11 = some (.aload_n 0, 1) := by decide +kernel
theorem D30_12 : pgDecT 30 12 = some (.getfield 12, 3) := by decide +kernel
theorem F30_12 : pgFf 30 12 = some (11, 0, 3) := by decide +kernel
theorem D30_15 : pgDecT 30 15 = some (.iload_n 2, 1) := by decide +kernel
theorem D30_16 : pgDecT 30 16 = some (.invokevirtual 63, 3) := by decide +kernel
theorem I30_63 : pgIi 30 63 = some (17, 1, 9) := by decide +kernel
theorem D30_19 : pgDecT 30 19 = some (.ifCond .eq 18, 3) := by decide +kernel
theorem D30_22 : pgDecT 30 22 = some (.aload_n 0, 1) := by decide +kernel
theorem D30_23 : pgDecT 30 23 = some (.getfield 12, 3) := by decide +kernel
theorem D30_26 : pgDecT 30 26 = some (.iload_n 2, 1) := by decide +kernel
theorem D30_27 : pgDecT 30 27 = some (.invokevirtual 90, 3) := by decide +kernel
theorem I30_90 : pgIi 30 90 = some (31, 1, 9) := by decide +kernel
theorem D30_30 : pgDecT 30 30 = some (.ifCond .eq 7, 3) := by decide +kernel
theorem D30_33 : pgDecT 30 33 = some (.iconst 1, 1) := by decide +kernel
theorem D30_34 : pgDecT 30 34 = some (.goto 4, 3) := by decide +kernel
theorem D30_41 : pgDecT 30 41 = some (.aload_n 0, 1) := by decide +kernel
theorem D30_42 : pgDecT 30 42 = some (.getfield 19, 3) := by decide +kernel
theorem D30_45 : pgDecT 30 45 = some (.iload_n 1, 1) := by decide +kernel
theorem D30_46 : pgDecT 30 46 = some (.invokevirtual 93, 3) := by decide +kernel
theorem I30_93 : pgIi 30 93 = some (32, 1, 1) := by decide +kernel
theorem D30_49 : pgDecT 30 49 = some (.iconst 3, 1) := by decide +kernel
theorem D30_50 : pgDecT 30 50 = some (.if_icmp .ge 18, 3) := by decide +kernel
theorem D30_68 : pgDecT 30 68 = some (.iconst 0, 1) := by decide +kernel
theorem D30_69 : pgDecT 30 69 = some (.invokestatic 84, 3) := by decide +kernel
theorem I30_84 : pgIi 30 84 = some (21, 1, 100) := by decide +kernel
theorem D30_53 : pgDecT 30 53 = some (.aload_n 0, 1) := by decide +kernel
theorem D30_54 : pgDecT 30 54 = some (.getfield 19, 3) := by decide +kernel
theorem D30_57 : pgDecT 30 57 = some (.iload_n 1, 1) := by decide +kernel
theorem D30_58 : pgDecT 30 58 = some (.invokevirtual 96, 3) := by decide +kernel
theorem I30_96 : pgIi 30 96 = some (33, 1, 1) := by decide +kernel
theorem D30_61 : pgDecT 30 61 = some (.ifCond .ne 7, 3) := by decide +kernel
theorem D30_64 : pgDecT 30 64 = some (.iconst 1, 1) := by decide +kernel
theorem D30_65 : pgDecT 30 65 = some (.goto 4, 3) := by decide +kernel
theorem D30_72 : pgDecT 30 72 = some (.aload_n 0, 1) := by decide +kernel
theorem D30_73 : pgDecT 30 73 = some (.getfield 19, 3) := by decide +kernel
theorem D30_76 : pgDecT 30 76 = some (.iload_n 1, 1) := by decide +kernel
theorem D30_77 : pgDecT 30 77 = some (.iload_n 2, 1) := by decide +kernel
theorem D30_78 : pgDecT 30 78 = some (.invokevirtual 99, 3) := by decide +kernel
theorem I30_99 : pgIi 30 99 = some (35, 2, 1) := by decide +kernel
theorem D30_81 : pgDecT 30 81 = some (.ireturn, 1) := by decide +kernel
/-! 30: DictionaryHouse.method (II)I -/
def f30 (M : Mm) (x1 : Int) (x2 : Int) : Option (Int × Int × Mm) := (f26 M x1).bind (fun q2 => if q2 = 0 then (some (1, 0, M)) else (f17 M x2).bind (fun q9 => if q9 = 0 then (some (1, 0, M)) else (f31 M x2).bind (fun q16 => if q16 = 0 then (some (1, 0, M)) else (f32 M x1).bind (fun q24 => if 3 ≤ q24 then (some (2, 0, M)) else (f33 M x1).bind (fun q31 => if ¬ q31 = 0 then (some (2, 0, M)) else (f35 M x1 x2).bind (fun zq39 => some (0, zq39.1, zq39.2)))))))
theorem c30 {L : Nat} {xs : Nat → Int32} {h : mvH} {M : Mm} {x1 x2 : Int} {k v : Int} {M' : Mm} (R : rp h M) (rx1 : rg x1) (rx2 : rg x2) (hs : f30 M x1 x2 = some (k, v, M')) : evx L xs 9 30 0 [(0, .inr (.inr (.inl (some 0)))), (1, .inl (iz x1)), (2, .inl (iz x2))] [] h (ot k v) M' := by
  unfold f30 at hs
  refine evx_F E30 D30_0 rfl rfl ?_
  refine evx_gfr E30 D30_1 F30_19 H0 rfl R ?_
  refine evx_F E30 D30_4 rfl rfl ?_
  obtain ⟨q2, e1, hs⟩ := Option.bind_eq_some_iff.mp hs
  refine evx_cv (D := 8) E30 D30_5 I30_79 rfl rfl H5 ⟨Nat.le_of_ble_eq_true rfl, Nat.le_of_ble_eq_true rfl⟩ ⟨rfl, Nat.le_of_ble_eq_true rfl⟩ rfl R (evx_up (Nat.le_of_ble_eq_true rfl) (c26 R rx1 e1)) ?_
  intro h3 R4 w5
  have w5 : rg q2 := w5
  show evx _ _ _ _ _ _ (.inl (iz q2) :: _) _ _ _
  by_cases cb6 : q2 = 0
  · rw [if_pos cb6] at hs
    refine evx_F E30 D30_8 rfl (ifT (c1_eq_T w5 cb6)) ?_
    refine evx_F E30 D30_37 rfl rfl ?_
    cases hs
    exact evx_rqF (b := true) E30 D30_38 I30_67 (Nat.le_of_ble_eq_true rfl) rfl (Nat.le_of_ble_eq_true rfl) rfl rfl rfl R4
  · rw [if_neg cb6] at hs
    refine evx_F E30 D30_8 rfl (ifF (c1_eq_F w5 (by omega))) ?_
    refine evx_F E30 D30_11 rfl rfl ?_
    refine evx_gfr E30 D30_12 F30_12 H0 rfl R4 ?_
    refine evx_F E30 D30_15 rfl rfl ?_
    obtain ⟨q9, e8, hs⟩ := Option.bind_eq_some_iff.mp hs
    refine evx_cv (D := 8) E30 D30_16 I30_63 rfl rfl H1 ⟨Nat.le_of_ble_eq_true rfl, Nat.le_of_ble_eq_true rfl⟩ ⟨rfl, Nat.le_of_ble_eq_true rfl⟩ rfl R4 (evx_up (Nat.le_of_ble_eq_true rfl) (c17 R4 rx2 e8)) ?_
    intro h10 R11 w12
    have w12 : rg q9 := w12
    show evx _ _ _ _ _ _ (.inl (iz q9) :: _) _ _ _
    by_cases cb13 : q9 = 0
    · rw [if_pos cb13] at hs
      refine evx_F E30 D30_19 rfl (ifT (c1_eq_T w12 cb13)) ?_
      refine evx_F E30 D30_37 rfl rfl ?_
      cases hs
      exact evx_rqF (b := true) E30 D30_38 I30_67 (Nat.le_of_ble_eq_true rfl) rfl (Nat.le_of_ble_eq_true rfl) rfl rfl rfl R11
    · rw [if_neg cb13] at hs
      refine evx_F E30 D30_19 rfl (ifF (c1_eq_F w12 (by omega))) ?_
      refine evx_F E30 D30_22 rfl rfl ?_
      refine evx_gfr E30 D30_23 F30_12 H0 rfl R11 ?_
      refine evx_F E30 D30_26 rfl rfl ?_
      obtain ⟨q16, e15, hs⟩ := Option.bind_eq_some_iff.mp hs
      refine evx_cv (D := 8) E30 D30_27 I30_90 rfl rfl H1 ⟨Nat.le_of_ble_eq_true rfl, Nat.le_of_ble_eq_true rfl⟩ ⟨rfl, Nat.le_of_ble_eq_true rfl⟩ rfl R11 (evx_up (Nat.le_of_ble_eq_true rfl) (c31 R11 rx2 e15)) ?_
      intro h17 R18 w19
      have w19 : rg q16 := w19
      show evx _ _ _ _ _ _ (.inl (iz q16) :: _) _ _ _
      by_cases cb20 : q16 = 0
      · rw [if_pos cb20] at hs
        refine evx_F E30 D30_30 rfl (ifT (c1_eq_T w19 cb20)) ?_
        refine evx_F E30 D30_37 rfl rfl ?_
        cases hs
        exact evx_rqF (b := true) E30 D30_38 I30_67 (Nat.le_of_ble_eq_true rfl) rfl (Nat.le_of_ble_eq_true rfl) rfl rfl rfl R18
      · rw [if_neg cb20] at hs
        refine evx_F E30 D30_30 rfl (ifF (c1_eq_F w19 (by omega))) ?_
        refine evx_F E30 D30_33 rfl rfl ?_
        refine evx_F E30 D30_34 rfl rfl ?_
        refine evx_rqT (b := true) E30 D30_38 I30_67 (Nat.le_of_ble_eq_true rfl) rfl (Nat.le_of_ble_eq_true rfl) (by decide) (by decide) ?_
        refine evx_F E30 D30_41 rfl rfl ?_
        refine evx_gfr E30 D30_42 F30_19 H0 rfl R18 ?_
        refine evx_F E30 D30_45 rfl rfl ?_
        obtain ⟨q24, e23, hs⟩ := Option.bind_eq_some_iff.mp hs
        refine evx_cv (D := 8) E30 D30_46 I30_93 rfl rfl H5 ⟨Nat.le_of_ble_eq_true rfl, Nat.le_of_ble_eq_true rfl⟩ ⟨rfl, Nat.le_of_ble_eq_true rfl⟩ rfl R18 (evx_up (Nat.le_of_ble_eq_true rfl) (c32 R18 rx1 e23)) ?_
        intro h25 R26 w27
        have w27 : rg q24 := w27
        show evx _ _ _ _ _ _ (.inl (iz q24) :: _) _ _ _
        refine evx_F E30 D30_49 rfl rfl ?_
        by_cases cb28 : 3 ≤ q24
        · rw [if_pos cb28] at hs
          refine evx_F E30 D30_50 rfl (ifT (c2_ge_T w27 (by decide) cb28)) ?_
          refine evx_F E30 D30_68 rfl rfl ?_
          cases hs
          exact evx_rqF (b := false) E30 D30_69 I30_84 (Nat.le_of_ble_eq_true rfl) rfl (Nat.le_of_ble_eq_true rfl) rfl rfl rfl R26
        · rw [if_neg cb28] at hs
          refine evx_F E30 D30_50 rfl (ifF (c2_ge_F w27 (by decide) (by omega))) ?_
          refine evx_F E30 D30_53 rfl rfl ?_
          refine evx_gfr E30 D30_54 F30_19 H0 rfl R26 ?_
          refine evx_F E30 D30_57 rfl rfl ?_
          obtain ⟨q31, e30, hs⟩ := Option.bind_eq_some_iff.mp hs
          refine evx_cv (D := 8) E30 D30_58 I30_96 rfl rfl H5 ⟨Nat.le_of_ble_eq_true rfl, Nat.le_of_ble_eq_true rfl⟩ ⟨rfl, Nat.le_of_ble_eq_true rfl⟩ rfl R26 (evx_up (Nat.le_of_ble_eq_true rfl) (c33 R26 rx1 e30)) ?_
          intro h32 R33 w34
          have w34 : rg q31 := w34
          show evx _ _ _ _ _ _ (.inl (iz q31) :: _) _ _ _
          by_cases cb35 : ¬ q31 = 0
          · rw [if_pos cb35] at hs
            refine evx_F E30 D30_61 rfl (ifT (c1_ne_T w34 cb35)) ?_
            refine evx_F E30 D30_68 rfl rfl ?_
            cases hs
            exact evx_rqF (b := false) E30 D30_69 I30_84 (Nat.le_of_ble_eq_true rfl) rfl (Nat.le_of_ble_eq_true rfl) rfl rfl rfl R33
          · rw [if_neg cb35] at hs
            refine evx_F E30 D30_61 rfl (ifF (c1_ne_F w34 (by omega))) ?_
            refine evx_F E30 D30_64 rfl rfl ?_
            refine evx_F E30 D30_65 rfl rfl ?_
            refine evx_rqT (b := false) E30 D30_69 I30_84 (Nat.le_of_ble_eq_true rfl) rfl (Nat.le_of_ble_eq_true rfl) (by decide) (by decide) ?_
            refine evx_F E30 D30_72 rfl rfl ?_
            refine evx_gfr E30 D30_73 F30_19 H0 rfl R33 ?_
            refine evx_F E30 D30_76 rfl rfl ?_
            refine evx_F E30 D30_77 rfl rfl ?_
            obtain ⟨⟨q39, M43⟩, e38, hs⟩ := Option.bind_eq_some_iff.mp hs
            dsimp only at hs
            refine evx_cv (D := 8) E30 D30_78 I30_99 rfl rfl H5 ⟨Nat.le_of_ble_eq_true rfl, Nat.le_of_ble_eq_true rfl⟩ ⟨rfl, Nat.le_of_ble_eq_true rfl⟩ rfl R33 (evx_up (Nat.le_of_ble_eq_true rfl) (c35 R33 rx1 rx2 e38)) ?_
            intro h40 R41 w42
            have w42 : rg q39 := w42
            show evx _ _ _ _ _ _ (.inl (iz q39) :: _) _ _ _
            cases hs
            exact evx_ret E30 D30_81 rfl (fun d => rfl) rfl (show rg _ from w42) R41
set_option maxRecDepth 20000 in
theorem E38 : pgMm 38 = some (⟨"DictionaryHouse", "added", "(III)I"⟩, prog_1_method_22_code, 4, (some .int), []) := rfl
theorem D38_0 : pgDecT 38 0 = some (.aload_n 0, 1) := by decide +kernel
theorem D38_1 : pgDecT 38 1 = some (.getfield 26, 3) := by decide +kernel
theorem F38_26 : pgFf 38 26 = some (11, 2, 3) := by decide +kernel
theorem D38_4 : pgDecT 38 4 = some (.iload_n 1, 1) := by decide +kernel
theorem D38_5 : pgDecT 38 5 = some (.iload_n 2, 1) := by decide +kernel
theorem D38_6 : pgDecT 38 6 = some (.iload_n 3, 1) := by decide +kernel
theorem D38_7 : pgDecT 38 7 = some (.invokevirtual 172, 3) := by decide +kernel
theorem I38_172 : pgIi 38 172 = some (39, 3, 4) := by decide +kernel
theorem D38_10 : pgDecT 38 10 = some (.invokestatic 84, 3) := by decide +kernel
theorem I38_84 : pgIi 38 84 = some (21, 1, 100) := by decide +kernel
theorem D38_13 : pgDecT 38 13 = some (.aload_n 0, 1) := by decide +kernel
theorem D38_14 : pgDecT 38 14 = some (.getfield 26, 3) := by decide +kernel
theorem D38_17 : pgDecT 38 17 = some (.iload_n 1, 1) := by decide +kernel
theorem D38_18 : pgDecT 38 18 = some (.iload_n 2, 1) := by decide +kernel
theorem D38_19 : pgDecT 38 19 = some (.iload_n 3, 1) := by decide +kernel
theorem D38_20 : pgDecT 38 20 = some (.invokevirtual 175, 3) := by decide +kernel
theorem I38_175 : pgIi 38 175 = some (41, 3, 4) := by decide +kernel
theorem D38_23 : pgDecT 38 23 = some (.ireturn, 1) := by decide +kernel
/-! 38: DictionaryHouse.added (III)I -/
def f38 (M : Mm) (x1 : Int) (x2 : Int) (x3 : Int) : Option (Int × Int × Mm) := (f39 M x1 x2 x3).bind (fun q2 => if q2 = 0 then some (2, 0, M) else (f41 M x1 x2 x3).bind (fun zq8 => some (0, zq8.1, zq8.2)))
theorem c38 {L : Nat} {xs : Nat → Int32} {h : mvH} {M : Mm} {x1 x2 x3 : Int} {k v : Int} {M' : Mm} (R : rp h M) (rx1 : rg x1) (rx2 : rg x2) (rx3 : rg x3) (hs : f38 M x1 x2 x3 = some (k, v, M')) : evx L xs 9 38 0 [(0, .inr (.inr (.inl (some 0)))), (1, .inl (iz x1)), (2, .inl (iz x2)), (3, .inl (iz x3))] [] h (ot k v) M' := by
  unfold f38 at hs
  refine evx_F E38 D38_0 rfl rfl ?_
  refine evx_gfr E38 D38_1 F38_26 H0 rfl R ?_
  refine evx_F E38 D38_4 rfl rfl ?_
  refine evx_F E38 D38_5 rfl rfl ?_
  refine evx_F E38 D38_6 rfl rfl ?_
  obtain ⟨q2, e1, hs⟩ := Option.bind_eq_some_iff.mp hs
  refine evx_cv (D := 8) E38 D38_7 I38_172 rfl rfl H12 ⟨Nat.le_of_ble_eq_true rfl, Nat.le_of_ble_eq_true rfl⟩ ⟨rfl, Nat.le_of_ble_eq_true rfl⟩ rfl R (evx_up (Nat.le_of_ble_eq_true rfl) (c39 R rx1 rx2 rx3 e1)) ?_
  intro h3 R4 w5
  have w5 : rg q2 := w5
  show evx _ _ _ _ _ _ (.inl (iz q2) :: _) _ _ _
  by_cases cb6 : q2 = 0
  · rw [if_pos cb6] at hs
    cases hs
    exact evx_rqF (b := false) E38 D38_10 I38_84 (Nat.le_of_ble_eq_true rfl) rfl (Nat.le_of_ble_eq_true rfl) cb6 rfl rfl R4
  · rw [if_neg cb6] at hs
    refine evx_rqT (b := false) E38 D38_10 I38_84 (Nat.le_of_ble_eq_true rfl) rfl (Nat.le_of_ble_eq_true rfl) w5 cb6 ?_
    refine evx_F E38 D38_13 rfl rfl ?_
    refine evx_gfr E38 D38_14 F38_26 H0 rfl R4 ?_
    refine evx_F E38 D38_17 rfl rfl ?_
    refine evx_F E38 D38_18 rfl rfl ?_
    refine evx_F E38 D38_19 rfl rfl ?_
    obtain ⟨⟨q8, M12⟩, e7, hs⟩ := Option.bind_eq_some_iff.mp hs
    dsimp only at hs
    refine evx_cv (D := 8) E38 D38_20 I38_175 rfl rfl H12 ⟨Nat.le_of_ble_eq_true rfl, Nat.le_of_ble_eq_true rfl⟩ ⟨rfl, Nat.le_of_ble_eq_true rfl⟩ rfl R4 (evx_up (Nat.le_of_ble_eq_true rfl) (c41 R4 rx1 rx2 rx3 e7)) ?_
    intro h9 R10 w11
    have w11 : rg q8 := w11
    show evx _ _ _ _ _ _ (.inl (iz q8) :: _) _ _ _
    cases hs
    exact evx_ret E38 D38_23 rfl (fun d => rfl) rfl (show rg _ from w11) R10
set_option maxRecDepth 20000 in
theorem E43 : pgMm 43 = some (⟨"DictionaryHouse", "primitive", "(I)I"⟩, prog_1_method_7_code, 2, (some .int), []) := rfl
theorem D43_0 : pgDecT 43 0 = some (.iload_n 1, 1) := by decide +kernel
theorem D43_1 : pgDecT 43 1 = some (.ifCond .lt 15, 3) := by decide +kernel
theorem D43_16 : pgDecT 43 16 = some (.iconst 0, 1) := by decide +kernel
theorem D43_17 : pgDecT 43 17 = some (.invokestatic 67, 3) := by decide +kernel
theorem I43_67 : pgIi 43 67 = some (18, 1, 100) := by decide +kernel
theorem D43_4 : pgDecT 43 4 = some (.iload_n 1, 1) := by decide +kernel
theorem D43_5 : pgDecT 43 5 = some (.getstatic 106, 3) := by decide +kernel
theorem D43_8 : pgDecT 43 8 = some (.arraylength, 1) := by decide +kernel
theorem D43_9 : pgDecT 43 9 = some (.if_icmp .ge 7, 3) := by decide +kernel
theorem D43_12 : pgDecT 43 12 = some (.iconst 1, 1) := by decide +kernel
theorem D43_13 : pgDecT 43 13 = some (.goto 4, 3) := by decide +kernel
theorem D43_20 : pgDecT 43 20 = some (.aload_n 0, 1) := by decide +kernel
theorem D43_21 : pgDecT 43 21 = some (.iconst 1, 1) := by decide +kernel
theorem D43_22 : pgDecT 43 22 = some (.iload_n 1, 1) := by decide +kernel
theorem D43_23 : pgDecT 43 23 = some (.iconst (-1), 1) := by decide +kernel
theorem D43_24 : pgDecT 43 24 = some (.invokevirtual 102, 3) := by decide +kernel
theorem I43_102 : pgIi 43 102 = some (38, 3, 11) := by decide +kernel
theorem D43_27 : pgDecT 43 27 = some (.ireturn, 1) := by decide +kernel
/-! 43: DictionaryHouse.primitive (I)I -/
def f43 (M : Mm) (x1 : Int) : Option (Int × Int × Mm) := if x1 < 0 then (some (1, 0, M)) else (if 8 ≤ x1 then (some (1, 0, M)) else (f38 M 1 x1 (-1)).bind (fun zq7 => if zq7.1 = 0 then (some (0, zq7.2.1, zq7.2.2)) else some (zq7.1, 0, zq7.2.2)))
theorem c43 {L : Nat} {xs : Nat → Int32} {h : mvH} {M : Mm} {x1 : Int} {k v : Int} {M' : Mm} (R : rp h M) (rx1 : rg x1) (hs : f43 M x1 = some (k, v, M')) : evx L xs 10 43 0 [(0, .inr (.inr (.inl (some 0)))), (1, .inl (iz x1))] [] h (ot k v) M' := by
  unfold f43 at hs
  refine evx_F E43 D43_0 rfl rfl ?_
  by_cases cb1 : x1 < 0
  · rw [if_pos cb1] at hs
    refine evx_F E43 D43_1 rfl (ifT (c1_lt_T rx1 cb1)) ?_
    refine evx_F E43 D43_16 rfl rfl ?_
    cases hs
    exact evx_rqF (b := true) E43 D43_17 I43_67 (Nat.le_of_ble_eq_true rfl) rfl (Nat.le_of_ble_eq_true rfl) rfl rfl rfl R
  · rw [if_neg cb1] at hs
    refine evx_F E43 D43_1 rfl (ifF (c1_lt_F rx1 (by omega))) ?_
    refine evx_F E43 D43_4 rfl rfl ?_
    refine evx_G E43 D43_5 rfl (fun d _ => rfl) ?_
    refine evx_G E43 D43_8 rfl (fun d _ => rfl) ?_
    show evx _ _ _ _ _ _ (.inl (iz 8) :: _) _ _ _
    by_cases cb3 : 8 ≤ x1
    · rw [if_pos cb3] at hs
      refine evx_F E43 D43_9 rfl (ifT (c2_ge_T rx1 (by decide) cb3)) ?_
      refine evx_F E43 D43_16 rfl rfl ?_
      cases hs
      exact evx_rqF (b := true) E43 D43_17 I43_67 (Nat.le_of_ble_eq_true rfl) rfl (Nat.le_of_ble_eq_true rfl) rfl rfl rfl R
    · rw [if_neg cb3] at hs
      refine evx_F E43 D43_9 rfl (ifF (c2_ge_F rx1 (by decide) (by omega))) ?_
      refine evx_F E43 D43_12 rfl rfl ?_
      refine evx_F E43 D43_13 rfl rfl ?_
      refine evx_rqT (b := true) E43 D43_17 I43_67 (Nat.le_of_ble_eq_true rfl) rfl (Nat.le_of_ble_eq_true rfl) (by decide) (by decide) ?_
      refine evx_F E43 D43_20 rfl rfl ?_
      refine evx_F E43 D43_21 rfl rfl ?_
      refine evx_F E43 D43_22 rfl rfl ?_
      refine evx_F E43 D43_23 rfl rfl ?_
      obtain ⟨⟨kq12, q7, M11⟩, e6, hs⟩ := Option.bind_eq_some_iff.mp hs
      dsimp only at hs
      have ge6 := c38 (L := L) (xs := xs) R (by decide) rx1 (by decide) e6
      by_cases cb13 : kq12 = 0
      · rw [if_pos cb13] at hs
        subst cb13
        refine evx_cv (D := 9) E43 D43_24 I43_102 rfl rfl H0 ⟨Nat.le_of_ble_eq_true rfl, Nat.le_of_ble_eq_true rfl⟩ ⟨rfl, Nat.le_of_ble_eq_true rfl⟩ rfl R (evx_up (Nat.le_of_ble_eq_true rfl) ge6) ?_
        intro h8 R9 w10
        have w10 : rg q7 := w10
        show evx _ _ _ _ _ _ (.inl (iz q7) :: _) _ _ _
        cases hs
        exact evx_ret E43 D43_27 rfl (fun d => rfl) rfl (show rg _ from w10) R9
      · rw [if_neg cb13] at hs
        cases hs
        rw [ot_ne cb13] at ge6 ⊢
        exact evx_thv (D := 9) E43 D43_24 I43_102 rfl rfl H0 ⟨Nat.le_of_ble_eq_true rfl, Nat.le_of_ble_eq_true rfl⟩ ⟨rfl, Nat.le_of_ble_eq_true rfl⟩ rfl (thb (P := fun b => pgHf 43 24 (exn b) = none) rfl rfl _) rfl R (evx_up (Nat.le_of_ble_eq_true rfl) ge6)
