/-! More methods as functions, printed by a program. -/
set_option maxRecDepth 20000 in
theorem E237 : pgMm 237 = some (⟨"DictionaryHouseModel", "instance", "(IIIIII)I"⟩, prog_14_method_54_code, 13, (some .int), []) := rfl
theorem D237_0 : pgDecT 237 0 = some (.aload_n 0, 1) := by decide +kernel
theorem D237_1 : pgDecT 237 1 = some (.iload_n 1, 1) := by decide +kernel
theorem D237_2 : pgDecT 237 2 = some (.invokevirtual 199, 3) := by decide +kernel
theorem I237_199 : pgIi 237 199 = some (195, 1, 12) := by decide +kernel
theorem D237_5 : pgDecT 237 5 = some (.ifCond .eq 34, 3) := by decide +kernel
theorem D237_39 : pgDecT 237 39 = some (.iconst 0, 1) := by decide +kernel
theorem D237_40 : pgDecT 237 40 = some (.istore 7, 2) := by decide +kernel
theorem D237_42 : pgDecT 237 42 = some (.iconst 0, 1) := by decide +kernel
theorem D237_43 : pgDecT 237 43 = some (.istore 8, 2) := by decide +kernel
theorem D237_45 : pgDecT 237 45 = some (.iload 7, 2) := by decide +kernel
theorem D237_8 : pgDecT 237 8 = some (.iload_n 2, 1) := by decide +kernel
theorem D237_9 : pgDecT 237 9 = some (.ifCond .lt 30, 3) := by decide +kernel
theorem D237_12 : pgDecT 237 12 = some (.iload_n 2, 1) := by decide +kernel
theorem D237_13 : pgDecT 237 13 = some (.iconst 3, 1) := by decide +kernel
theorem D237_14 : pgDecT 237 14 = some (.if_icmp .ge 25, 3) := by decide +kernel
theorem D237_17 : pgDecT 237 17 = some (.iload_n 3, 1) := by decide +kernel
theorem D237_18 : pgDecT 237 18 = some (.iconst (-1), 1) := by decide +kernel
theorem D237_19 : pgDecT 237 19 = some (.if_icmp .eq 16, 3) := by decide +kernel
theorem D237_35 : pgDecT 237 35 = some (.iconst 1, 1) := by decide +kernel
theorem D237_36 : pgDecT 237 36 = some (.goto 4, 3) := by decide +kernel
theorem D237_22 : pgDecT 237 22 = some (.iload_n 2, 1) := by decide +kernel
theorem D237_23 : pgDecT 237 23 = some (.iconst 2, 1) := by decide +kernel
theorem D237_24 : pgDecT 237 24 = some (.if_icmp .ne 15, 3) := by decide +kernel
theorem D237_27 : pgDecT 237 27 = some (.aload_n 0, 1) := by decide +kernel
theorem D237_28 : pgDecT 237 28 = some (.iload_n 3, 1) := by decide +kernel
theorem D237_29 : pgDecT 237 29 = some (.invokevirtual 199, 3) := by decide +kernel
theorem D237_32 : pgDecT 237 32 = some (.ifCond .eq 7, 3) := by decide +kernel
theorem D237_47 : pgDecT 237 47 = some (.ifCond .eq 49, 3) := by decide +kernel
theorem D237_96 : pgDecT 237 96 = some (.aload_n 0, 1) := by decide +kernel
theorem D237_97 : pgDecT 237 97 = some (.iload 7, 2) := by decide +kernel
theorem D237_99 : pgDecT 237 99 = some (.ifCond .ne 7, 3) := by decide +kernel
theorem D237_106 : pgDecT 237 106 = some (.aload_n 0, 1) := by decide +kernel
theorem D237_107 : pgDecT 237 107 = some (.getfield 28, 3) := by decide +kernel
theorem F237_28 : pgFf 237 28 = some (12, 9, 3) := by decide +kernel
theorem D237_110 : pgDecT 237 110 = some (.iconst 3, 1) := by decide +kernel
theorem D237_111 : pgDecT 237 111 = some (.iload_n 1, 1) := by decide +kernel
theorem D237_112 : pgDecT 237 112 = some (.imul, 1) := by decide +kernel
theorem D237_113 : pgDecT 237 113 = some (.iload_n 2, 1) := by decide +kernel
theorem D237_114 : pgDecT 237 114 = some (.iadd, 1) := by decide +kernel
theorem D237_115 : pgDecT 237 115 = some (.baload, 1) := by decide +kernel
theorem D237_116 : pgDecT 237 116 = some (.ifCond .eq 7, 3) := by decide +kernel
theorem D237_123 : pgDecT 237 123 = some (.iconst 0, 1) := by decide +kernel
theorem D237_124 : pgDecT 237 124 = some (.putfield 182, 3) := by decide +kernel
theorem F237_182 : pgFf 237 182 = some (12, 0, 0) := by decide +kernel
theorem D237_127 : pgDecT 237 127 = some (.aload_n 0, 1) := by decide +kernel
theorem D237_128 : pgDecT 237 128 = some (.getfield 182, 3) := by decide +kernel
theorem D237_131 : pgDecT 237 131 = some (.ifCond .eq 5, 3) := by decide +kernel
theorem D237_136 : pgDecT 237 136 = some (.aload_n 0, 1) := by decide +kernel
theorem D237_137 : pgDecT 237 137 = some (.iload_n 1, 1) := by decide +kernel
theorem D237_138 : pgDecT 237 138 = some (.iload_n 2, 1) := by decide +kernel
theorem D237_139 : pgDecT 237 139 = some (.iload_n 3, 1) := by decide +kernel
theorem D237_140 : pgDecT 237 140 = some (.invokevirtual 338, 3) := by decide +kernel
theorem I237_338 : pgIi 237 338 = some (238, 3, 12) := by decide +kernel
theorem D237_143 : pgDecT 237 143 = some (.ifCond .ne 6, 3) := by decide +kernel
theorem D237_149 : pgDecT 237 149 = some (.iconst 3, 1) := by decide +kernel
theorem D237_150 : pgDecT 237 150 = some (.iload_n 1, 1) := by decide +kernel
theorem D237_151 : pgDecT 237 151 = some (.imul, 1) := by decide +kernel
theorem D237_152 : pgDecT 237 152 = some (.iload_n 2, 1) := by decide +kernel
theorem D237_153 : pgDecT 237 153 = some (.iadd, 1) := by decide +kernel
theorem D237_154 : pgDecT 237 154 = some (.istore 8, 2) := by decide +kernel
theorem D237_156 : pgDecT 237 156 = some (.aload_n 0, 1) := by decide +kernel
theorem D237_157 : pgDecT 237 157 = some (.getfield 28, 3) := by decide +kernel
theorem D237_160 : pgDecT 237 160 = some (.iload 8, 2) := by decide +kernel
theorem D237_162 : pgDecT 237 162 = some (.iconst 1, 1) := by decide +kernel
theorem D237_163 : pgDecT 237 163 = some (.bastore, 1) := by decide +kernel
theorem D237_164 : pgDecT 237 164 = some (.aload_n 0, 1) := by decide +kernel
theorem D237_165 : pgDecT 237 165 = some (.getfield 32, 3) := by decide +kernel
theorem F237_32 : pgFf 237 32 = some (12, 10, 3) := by decide +kernel
theorem D237_168 : pgDecT 237 168 = some (.iload 8, 2) := by decide +kernel
theorem D237_170 : pgDecT 237 170 = some (.iload_n 3, 1) := by decide +kernel
theorem D237_171 : pgDecT 237 171 = some (.iastore, 1) := by decide +kernel
theorem D237_172 : pgDecT 237 172 = some (.aload_n 0, 1) := by decide +kernel
theorem D237_173 : pgDecT 237 173 = some (.iload_n 3, 1) := by decide +kernel
theorem D237_174 : pgDecT 237 174 = some (.putfield 292, 3) := by decide +kernel
theorem F237_292 : pgFf 237 292 = some (12, 53, 0) := by decide +kernel
theorem D237_177 : pgDecT 237 177 = some (.aload_n 0, 1) := by decide +kernel
theorem D237_178 : pgDecT 237 178 = some (.getfield 304, 3) := by decide +kernel
theorem F237_304 : pgFf 237 304 = some (12, 24, 0) := by decide +kernel
theorem D237_181 : pgDecT 237 181 = some (.istore 9, 2) := by decide +kernel
theorem D237_183 : pgDecT 237 183 = some (.iconst 0, 1) := by decide +kernel
theorem D237_184 : pgDecT 237 184 = some (.istore 10, 2) := by decide +kernel
theorem D237_186 : pgDecT 237 186 = some (.iconst 0, 1) := by decide +kernel
theorem D237_187 : pgDecT 237 187 = some (.istore 11, 2) := by decide +kernel
theorem D237_189 : pgDecT 237 189 = some (.iload 11, 2) := by decide +kernel
theorem D237_146 : pgDecT 237 146 = some (.bipush (-5), 2) := by decide +kernel
theorem D237_148 : pgDecT 237 148 = some (.ireturn, 1) := by decide +kernel
theorem D237_119 : pgDecT 237 119 = some (.iconst 2, 1) := by decide +kernel
theorem D237_120 : pgDecT 237 120 = some (.goto 4, 3) := by decide +kernel
theorem D237_134 : pgDecT 237 134 = some (.iconst 0, 1) := by decide +kernel
theorem D237_135 : pgDecT 237 135 = some (.ireturn, 1) := by decide +kernel
theorem D237_102 : pgDecT 237 102 = some (.iconst 1, 1) := by decide +kernel
theorem D237_103 : pgDecT 237 103 = some (.goto 21, 3) := by decide +kernel
theorem D237_50 : pgDecT 237 50 = some (.iload 8, 2) := by decide +kernel
theorem D237_52 : pgDecT 237 52 = some (.aload_n 0, 1) := by decide +kernel
theorem D237_53 : pgDecT 237 53 = some (.getfield 22, 3) := by decide +kernel
theorem F237_22 : pgFf 237 22 = some (12, 7, 3) := by decide +kernel
theorem D237_56 : pgDecT 237 56 = some (.iload_n 1, 1) := by decide +kernel
theorem D237_57 : pgDecT 237 57 = some (.iaload, 1) := by decide +kernel
theorem D237_58 : pgDecT 237 58 = some (.if_icmp .ge 38, 3) := by decide +kernel
theorem D237_61 : pgDecT 237 61 = some (.aload_n 0, 1) := by decide +kernel
theorem D237_62 : pgDecT 237 62 = some (.iload 8, 2) := by decide +kernel
theorem D237_64 : pgDecT 237 64 = some (.ifCond .ne 8, 3) := by decide +kernel
theorem D237_72 : pgDecT 237 72 = some (.iload 8, 2) := by decide +kernel
theorem D237_74 : pgDecT 237 74 = some (.iconst 1, 1) := by decide +kernel
theorem D237_75 : pgDecT 237 75 = some (.if_icmp .ne 8, 3) := by decide +kernel
theorem D237_83 : pgDecT 237 83 = some (.iload 6, 2) := by decide +kernel
theorem D237_85 : pgDecT 237 85 = some (.invokevirtual 220, 3) := by decide +kernel
theorem I237_220 : pgIi 237 220 = some (206, 1, 12) := by decide +kernel
theorem D237_88 : pgDecT 237 88 = some (.istore 7, 2) := by decide +kernel
theorem D237_90 : pgDecT 237 90 = some (.iinc 8 1, 3) := by decide +kernel
theorem D237_93 : pgDecT 237 93 = some (.goto (-48), 3) := by decide +kernel
theorem D237_78 : pgDecT 237 78 = some (.iload 5, 2) := by decide +kernel
theorem D237_80 : pgDecT 237 80 = some (.goto 5, 3) := by decide +kernel
theorem D237_67 : pgDecT 237 67 = some (.iload 4, 2) := by decide +kernel
theorem D237_69 : pgDecT 237 69 = some (.goto 16, 3) := by decide +kernel
theorem D237_191 : pgDecT 237 191 = some (.aload_n 0, 1) := by decide +kernel
theorem D237_192 : pgDecT 237 192 = some (.getfield 22, 3) := by decide +kernel
theorem D237_195 : pgDecT 237 195 = some (.iload_n 1, 1) := by decide +kernel
theorem D237_196 : pgDecT 237 196 = some (.iaload, 1) := by decide +kernel
theorem D237_197 : pgDecT 237 197 = some (.if_icmp .ge 65, 3) := by decide +kernel
theorem D237_262 : pgDecT 237 262 = some (.iload 10, 2) := by decide +kernel
theorem D237_264 : pgDecT 237 264 = some (.ifCond .eq 17, 3) := by decide +kernel
theorem D237_281 : pgDecT 237 281 = some (.iload 10, 2) := by decide +kernel
theorem D237_283 : pgDecT 237 283 = some (.ireturn, 1) := by decide +kernel
theorem D237_267 : pgDecT 237 267 = some (.aload_n 0, 1) := by decide +kernel
theorem D237_268 : pgDecT 237 268 = some (.getfield 28, 3) := by decide +kernel
theorem D237_271 : pgDecT 237 271 = some (.iload 8, 2) := by decide +kernel
theorem D237_273 : pgDecT 237 273 = some (.iconst 0, 1) := by decide +kernel
theorem D237_274 : pgDecT 237 274 = some (.bastore, 1) := by decide +kernel
theorem D237_275 : pgDecT 237 275 = some (.aload_n 0, 1) := by decide +kernel
theorem D237_276 : pgDecT 237 276 = some (.iload 9, 2) := by decide +kernel
theorem D237_278 : pgDecT 237 278 = some (.putfield 304, 3) := by decide +kernel
theorem D237_200 : pgDecT 237 200 = some (.iload 10, 2) := by decide +kernel
theorem D237_202 : pgDecT 237 202 = some (.ifCond .ne 60, 3) := by decide +kernel
theorem D237_205 : pgDecT 237 205 = some (.iload 11, 2) := by decide +kernel
theorem D237_207 : pgDecT 237 207 = some (.ifCond .ne 8, 3) := by decide +kernel
theorem D237_215 : pgDecT 237 215 = some (.iload 11, 2) := by decide +kernel
theorem D237_217 : pgDecT 237 217 = some (.iconst 1, 1) := by decide +kernel
theorem D237_218 : pgDecT 237 218 = some (.if_icmp .ne 8, 3) := by decide +kernel
theorem D237_226 : pgDecT 237 226 = some (.iload 6, 2) := by decide +kernel
theorem D237_228 : pgDecT 237 228 = some (.istore 12, 2) := by decide +kernel
theorem D237_230 : pgDecT 237 230 = some (.aload_n 0, 1) := by decide +kernel
theorem D237_231 : pgDecT 237 231 = some (.getfield 35, 3) := by decide +kernel
theorem F237_35 : pgFf 237 35 = some (12, 11, 3) := by decide +kernel
theorem D237_234 : pgDecT 237 234 = some (.iconst 3, 1) := by decide +kernel
theorem D237_235 : pgDecT 237 235 = some (.iload 8, 2) := by decide +kernel
theorem D237_237 : pgDecT 237 237 = some (.imul, 1) := by decide +kernel
theorem D237_238 : pgDecT 237 238 = some (.iload 11, 2) := by decide +kernel
theorem D237_240 : pgDecT 237 240 = some (.iadd, 1) := by decide +kernel
theorem D237_241 : pgDecT 237 241 = some (.iload 12, 2) := by decide +kernel
theorem D237_243 : pgDecT 237 243 = some (.iastore, 1) := by decide +kernel
theorem D237_244 : pgDecT 237 244 = some (.aload_n 0, 1) := by decide +kernel
theorem D237_245 : pgDecT 237 245 = some (.iload_n 1, 1) := by decide +kernel
theorem D237_246 : pgDecT 237 246 = some (.iload_n 2, 1) := by decide +kernel
theorem D237_247 : pgDecT 237 247 = some (.iload 11, 2) := by decide +kernel
theorem D237_249 : pgDecT 237 249 = some (.iload 12, 2) := by decide +kernel
theorem D237_251 : pgDecT 237 251 = some (.invokevirtual 342, 3) := by decide +kernel
theorem I237_342 : pgIi 237 342 = some (239, 4, 12) := by decide +kernel
theorem D237_254 : pgDecT 237 254 = some (.istore 10, 2) := by decide +kernel
theorem D237_256 : pgDecT 237 256 = some (.iinc 11 1, 3) := by decide +kernel
theorem D237_259 : pgDecT 237 259 = some (.goto (-70), 3) := by decide +kernel
theorem D237_221 : pgDecT 237 221 = some (.iload 5, 2) := by decide +kernel
theorem D237_223 : pgDecT 237 223 = some (.goto 5, 3) := by decide +kernel
theorem D237_210 : pgDecT 237 210 = some (.iload 4, 2) := by decide +kernel
theorem D237_212 : pgDecT 237 212 = some (.goto 16, 3) := by decide +kernel
/-! 237: DictionaryHouseModel.instance (IIIIII)I -/
def l237 : Nat → Nat → Mm → Int → Int → Int → Int → Int → Int → Int → Int → Int → Int → Int → Int → Option (Int × Mm)
  | 0, _, _, _, _, _, _, _, _, _, _, _, _, _, _ => none
  | f + 1, 39, M, x1, x2, x3, x4, x5, x6, _, _, _, _, _, _ => l237 f 42 M x1 x2 x3 x4 x5 x6 0 0 0 0 0 0
  | f + 1, 35, M, x1, x2, x3, x4, x5, x6, _, _, _, _, _, _ => l237 f 42 M x1 x2 x3 x4 x5 x6 1 0 0 0 0 0
  | f + 1, 42, M, x1, x2, x3, x4, x5, x6, x7, _, _, _, _, _ => l237 f 45 M x1 x2 x3 x4 x5 x6 x7 0 0 0 0 0
  | f + 1, 45, M, x1, x2, x3, x4, x5, x6, x7, x8, _, _, _, _ => if x7 = 0 then (l237 f 96 M x1 x2 x3 x4 x5 x6 x7 x8 0 0 0 0) else (if 0 ≤ x1 ∧ x1 < 6 then (if (M 58 (Int.toNat x1)) ≤ x8 then (l237 f 96 M x1 x2 x3 x4 x5 x6 x7 x8 0 0 0 0) else (if ¬ x8 = 0 then (if ¬ x8 = 1 then (f206 M x6).bind (fun q23 => l237 f 90 M x1 x2 x3 x4 x5 x6 q23 x8 0 0 0 0) else (f206 M x5).bind (fun q28 => l237 f 90 M x1 x2 x3 x4 x5 x6 q28 x8 0 0 0 0)) else (f206 M x4).bind (fun q33 => l237 f 90 M x1 x2 x3 x4 x5 x6 q33 x8 0 0 0 0))) else none)
  | f + 1, 96, M, x1, x2, x3, x4, x5, x6, x7, x8, _, _, _, _ => if ¬ x7 = 0 then (if 0 ≤ (((3 : Int) * x1) + x2) ∧ (((3 : Int) * x1) + x2) < 18 then (if (M 60 (Int.toNat (((3 : Int) * x1) + x2))) = 0 then (l237 f 127 (up M 53 0 0) x1 x2 x3 x4 x5 x6 x7 x8 0 0 0 0) else (l237 f 127 (up M 53 0 2) x1 x2 x3 x4 x5 x6 x7 x8 0 0 0 0)) else none) else (l237 f 127 (up M 53 0 1) x1 x2 x3 x4 x5 x6 x7 x8 0 0 0 0)
  | f + 1, 90, M, x1, x2, x3, x4, x5, x6, x7, x8, _, _, _, _ => if rg (x8 + 1) then (l237 f 45 M x1 x2 x3 x4 x5 x6 x7 (x8 + 1) 0 0 0 0) else none
  | f + 1, 127, M, x1, x2, x3, x4, x5, x6, x7, x8, _, _, _, _ => if (M 53 0) = 0 then (f238 M x1 x2 x3).bind (fun q49 => if ¬ q49 = 0 then (if 0 ≤ (((3 : Int) * x1) + x2) ∧ (((3 : Int) * x1) + x2) < 18 then (if rg (((3 : Int) * x1) + x2) then (l237 f 189 (up (up (up M 60 (Int.toNat (((3 : Int) * x1) + x2)) 1) 61 (Int.toNat (((3 : Int) * x1) + x2)) x3) 53 53 x3) x1 x2 x3 x4 x5 x6 x7 (((3 : Int) * x1) + x2) (M 53 24) 0 0 0) else none) else none) else (some ((-5), M))) else (some (0, M))
  | f + 1, 189, M, x1, x2, x3, x4, x5, x6, x7, x8, x9, x10, x11, _ => if 0 ≤ x1 ∧ x1 < 6 then (if (M 58 (Int.toNat x1)) ≤ x11 then (l237 f 262 M x1 x2 x3 x4 x5 x6 x7 x8 x9 x10 x11 0) else (if ¬ x10 = 0 then (l237 f 262 M x1 x2 x3 x4 x5 x6 x7 x8 x9 x10 x11 0) else (if ¬ x11 = 0 then (if ¬ x11 = 1 then (l237 f 230 M x1 x2 x3 x4 x5 x6 x7 x8 x9 x10 x11 x6) else (l237 f 230 M x1 x2 x3 x4 x5 x6 x7 x8 x9 x10 x11 x5)) else (l237 f 230 M x1 x2 x3 x4 x5 x6 x7 x8 x9 x10 x11 x4)))) else none
  | f + 1, 262, M, x1, x2, x3, x4, x5, x6, x7, x8, x9, x10, x11, _ => if x10 = 0 then (l237 f 281 M x1 x2 x3 x4 x5 x6 x7 x8 x9 x10 x11 0) else (if 0 ≤ x8 ∧ x8 < 18 then (l237 f 281 (up (up M 60 (Int.toNat x8) 0) 53 24 x9) x1 x2 x3 x4 x5 x6 x7 x8 x9 x10 x11 0) else none)
  | f + 1, 230, M, x1, x2, x3, x4, x5, x6, x7, x8, x9, x10, x11, x12 => if 0 ≤ (((3 : Int) * x8) + x11) ∧ (((3 : Int) * x8) + x11) < 54 then (f239 (up M 62 (Int.toNat (((3 : Int) * x8) + x11)) x12) x1 x2 x11 x12).bind (fun zq77 => if rg (x11 + 1) then (l237 f 189 zq77.2 x1 x2 x3 x4 x5 x6 x7 x8 x9 zq77.1 (x11 + 1) 0) else none) else none
  | f + 1, 281, M, x1, x2, x3, x4, x5, x6, x7, x8, x9, x10, x11, _ => some (x10, M)
  | _, _, _, _, _, _, _, _, _, _, _, _, _, _, _ => none
theorem d237 {L : Nat} {xs : Nat → Int32} (f : Nat) : (∀ (M : Mm) (x1 x2 x3 x4 x5 x6 : Int) (h : mvH) (v : Int) (M' : Mm), l237 f 39 M x1 x2 x3 x4 x5 x6 0 0 0 0 0 0 = some (v, M') → rp h M → rg x1 → rg x2 → rg x3 → rg x4 → rg x5 → rg x6 → evx L xs 8 237 39 [(0, .inr (.inr (.inl (some 53)))), (1, .inl (iz x1)), (2, .inl (iz x2)), (3, .inl (iz x3)), (4, .inl (iz x4)), (5, .inl (iz x5)), (6, .inl (iz x6))] [] h (.inl (some (.inl v)), 0) M') ∧ (∀ (M : Mm) (x1 x2 x3 x4 x5 x6 : Int) (h : mvH) (v : Int) (M' : Mm), l237 f 35 M x1 x2 x3 x4 x5 x6 0 0 0 0 0 0 = some (v, M') → rp h M → rg x1 → rg x2 → rg x3 → rg x4 → rg x5 → rg x6 → evx L xs 8 237 35 [(0, .inr (.inr (.inl (some 53)))), (1, .inl (iz x1)), (2, .inl (iz x2)), (3, .inl (iz x3)), (4, .inl (iz x4)), (5, .inl (iz x5)), (6, .inl (iz x6))] [] h (.inl (some (.inl v)), 0) M') ∧ (∀ (M : Mm) (x1 x2 x3 x4 x5 x6 x7 : Int) (h : mvH) (v : Int) (M' : Mm), l237 f 42 M x1 x2 x3 x4 x5 x6 x7 0 0 0 0 0 = some (v, M') → rp h M → rg x1 → rg x2 → rg x3 → rg x4 → rg x5 → rg x6 → rg x7 → evx L xs 8 237 42 [(0, .inr (.inr (.inl (some 53)))), (1, .inl (iz x1)), (2, .inl (iz x2)), (3, .inl (iz x3)), (4, .inl (iz x4)), (5, .inl (iz x5)), (6, .inl (iz x6)), (7, .inl (iz x7))] [] h (.inl (some (.inl v)), 0) M') ∧ (∀ (M : Mm) (x1 x2 x3 x4 x5 x6 x7 x8 : Int) (h : mvH) (v : Int) (M' : Mm), l237 f 45 M x1 x2 x3 x4 x5 x6 x7 x8 0 0 0 0 = some (v, M') → rp h M → rg x1 → rg x2 → rg x3 → rg x4 → rg x5 → rg x6 → rg x7 → rg x8 → evx L xs 8 237 45 [(0, .inr (.inr (.inl (some 53)))), (1, .inl (iz x1)), (2, .inl (iz x2)), (3, .inl (iz x3)), (4, .inl (iz x4)), (5, .inl (iz x5)), (6, .inl (iz x6)), (7, .inl (iz x7)), (8, .inl (iz x8))] [] h (.inl (some (.inl v)), 0) M') ∧ (∀ (M : Mm) (x1 x2 x3 x4 x5 x6 x7 x8 : Int) (h : mvH) (v : Int) (M' : Mm), l237 f 96 M x1 x2 x3 x4 x5 x6 x7 x8 0 0 0 0 = some (v, M') → rp h M → rg x1 → rg x2 → rg x3 → rg x4 → rg x5 → rg x6 → rg x7 → rg x8 → evx L xs 8 237 96 [(0, .inr (.inr (.inl (some 53)))), (1, .inl (iz x1)), (2, .inl (iz x2)), (3, .inl (iz x3)), (4, .inl (iz x4)), (5, .inl (iz x5)), (6, .inl (iz x6)), (7, .inl (iz x7)), (8, .inl (iz x8))] [] h (.inl (some (.inl v)), 0) M') ∧ (∀ (M : Mm) (x1 x2 x3 x4 x5 x6 x7 x8 : Int) (h : mvH) (v : Int) (M' : Mm), l237 f 90 M x1 x2 x3 x4 x5 x6 x7 x8 0 0 0 0 = some (v, M') → rp h M → rg x1 → rg x2 → rg x3 → rg x4 → rg x5 → rg x6 → rg x7 → rg x8 → evx L xs 8 237 90 [(0, .inr (.inr (.inl (some 53)))), (1, .inl (iz x1)), (2, .inl (iz x2)), (3, .inl (iz x3)), (4, .inl (iz x4)), (5, .inl (iz x5)), (6, .inl (iz x6)), (7, .inl (iz x7)), (8, .inl (iz x8))] [] h (.inl (some (.inl v)), 0) M') ∧ (∀ (M : Mm) (x1 x2 x3 x4 x5 x6 x7 x8 : Int) (h : mvH) (v : Int) (M' : Mm), l237 f 127 M x1 x2 x3 x4 x5 x6 x7 x8 0 0 0 0 = some (v, M') → rp h M → rg x1 → rg x2 → rg x3 → rg x4 → rg x5 → rg x6 → rg x7 → rg x8 → evx L xs 8 237 127 [(0, .inr (.inr (.inl (some 53)))), (1, .inl (iz x1)), (2, .inl (iz x2)), (3, .inl (iz x3)), (4, .inl (iz x4)), (5, .inl (iz x5)), (6, .inl (iz x6)), (7, .inl (iz x7)), (8, .inl (iz x8))] [] h (.inl (some (.inl v)), 0) M') ∧ (∀ (M : Mm) (x1 x2 x3 x4 x5 x6 x7 x8 x9 x10 x11 : Int) (h : mvH) (v : Int) (M' : Mm), l237 f 189 M x1 x2 x3 x4 x5 x6 x7 x8 x9 x10 x11 0 = some (v, M') → rp h M → rg x1 → rg x2 → rg x3 → rg x4 → rg x5 → rg x6 → rg x7 → rg x8 → rg x9 → rg x10 → rg x11 → evx L xs 8 237 189 [(0, .inr (.inr (.inl (some 53)))), (1, .inl (iz x1)), (2, .inl (iz x2)), (3, .inl (iz x3)), (4, .inl (iz x4)), (5, .inl (iz x5)), (6, .inl (iz x6)), (7, .inl (iz x7)), (8, .inl (iz x8)), (9, .inl (iz x9)), (10, .inl (iz x10)), (11, .inl (iz x11))] [] h (.inl (some (.inl v)), 0) M') ∧ (∀ (M : Mm) (x1 x2 x3 x4 x5 x6 x7 x8 x9 x10 x11 : Int) (h : mvH) (v : Int) (M' : Mm), l237 f 262 M x1 x2 x3 x4 x5 x6 x7 x8 x9 x10 x11 0 = some (v, M') → rp h M → rg x1 → rg x2 → rg x3 → rg x4 → rg x5 → rg x6 → rg x7 → rg x8 → rg x9 → rg x10 → rg x11 → evx L xs 8 237 262 [(0, .inr (.inr (.inl (some 53)))), (1, .inl (iz x1)), (2, .inl (iz x2)), (3, .inl (iz x3)), (4, .inl (iz x4)), (5, .inl (iz x5)), (6, .inl (iz x6)), (7, .inl (iz x7)), (8, .inl (iz x8)), (9, .inl (iz x9)), (10, .inl (iz x10)), (11, .inl (iz x11))] [] h (.inl (some (.inl v)), 0) M') ∧ (∀ (M : Mm) (x1 x2 x3 x4 x5 x6 x7 x8 x9 x10 x11 x12 : Int) (h : mvH) (v : Int) (M' : Mm), l237 f 230 M x1 x2 x3 x4 x5 x6 x7 x8 x9 x10 x11 x12 = some (v, M') → rp h M → rg x1 → rg x2 → rg x3 → rg x4 → rg x5 → rg x6 → rg x7 → rg x8 → rg x9 → rg x10 → rg x11 → rg x12 → evx L xs 8 237 230 [(0, .inr (.inr (.inl (some 53)))), (1, .inl (iz x1)), (2, .inl (iz x2)), (3, .inl (iz x3)), (4, .inl (iz x4)), (5, .inl (iz x5)), (6, .inl (iz x6)), (7, .inl (iz x7)), (8, .inl (iz x8)), (9, .inl (iz x9)), (10, .inl (iz x10)), (11, .inl (iz x11)), (12, .inl (iz x12))] [] h (.inl (some (.inl v)), 0) M') ∧ (∀ (M : Mm) (x1 x2 x3 x4 x5 x6 x7 x8 x9 x10 x11 : Int) (h : mvH) (v : Int) (M' : Mm), l237 f 281 M x1 x2 x3 x4 x5 x6 x7 x8 x9 x10 x11 0 = some (v, M') → rp h M → rg x1 → rg x2 → rg x3 → rg x4 → rg x5 → rg x6 → rg x7 → rg x8 → rg x9 → rg x10 → rg x11 → evx L xs 8 237 281 [(0, .inr (.inr (.inl (some 53)))), (1, .inl (iz x1)), (2, .inl (iz x2)), (3, .inl (iz x3)), (4, .inl (iz x4)), (5, .inl (iz x5)), (6, .inl (iz x6)), (7, .inl (iz x7)), (8, .inl (iz x8)), (9, .inl (iz x9)), (10, .inl (iz x10)), (11, .inl (iz x11))] [] h (.inl (some (.inl v)), 0) M') := by
  induction f with
  | zero => exact ⟨(fun M x1 x2 x3 x4 x5 x6 h v M' hs _ _ _ _ _ _ _ => by cases hs), (fun M x1 x2 x3 x4 x5 x6 h v M' hs _ _ _ _ _ _ _ => by cases hs), (fun M x1 x2 x3 x4 x5 x6 x7 h v M' hs _ _ _ _ _ _ _ _ => by cases hs), (fun M x1 x2 x3 x4 x5 x6 x7 x8 h v M' hs _ _ _ _ _ _ _ _ _ => by cases hs), (fun M x1 x2 x3 x4 x5 x6 x7 x8 h v M' hs _ _ _ _ _ _ _ _ _ => by cases hs), (fun M x1 x2 x3 x4 x5 x6 x7 x8 h v M' hs _ _ _ _ _ _ _ _ _ => by cases hs), (fun M x1 x2 x3 x4 x5 x6 x7 x8 h v M' hs _ _ _ _ _ _ _ _ _ => by cases hs), (fun M x1 x2 x3 x4 x5 x6 x7 x8 x9 x10 x11 h v M' hs _ _ _ _ _ _ _ _ _ _ _ _ => by cases hs), (fun M x1 x2 x3 x4 x5 x6 x7 x8 x9 x10 x11 h v M' hs _ _ _ _ _ _ _ _ _ _ _ _ => by cases hs), (fun M x1 x2 x3 x4 x5 x6 x7 x8 x9 x10 x11 x12 h v M' hs _ _ _ _ _ _ _ _ _ _ _ _ _ => by cases hs), (fun M x1 x2 x3 x4 x5 x6 x7 x8 x9 x10 x11 h v M' hs _ _ _ _ _ _ _ _ _ _ _ _ => by cases hs)⟩
  | succ f ih =>
    refine ⟨?_, ?_, ?_, ?_, ?_, ?_, ?_, ?_, ?_, ?_, ?_⟩
    · intro M x1 x2 x3 x4 x5 x6 h v M' hs R rx1 rx2 rx3 rx4 rx5 rx6
      rw [l237] at hs
      refine evx_F E237 D237_39 rfl rfl ?_
      refine evx_F E237 D237_40 rfl rfl ?_
      show evx _ _ _ _ _ [(7, .inl (iz 0)), (0, .inr (.inr (.inl (some 53)))), (1, .inl (iz x1)), (2, .inl (iz x2)), (3, .inl (iz x3)), (4, .inl (iz x4)), (5, .inl (iz x5)), (6, .inl (iz x6))] _ _ _ _
      exact evx_lv (lvLe_mk (fm rfl (fm rfl (fm rfl (fm rfl (fm rfl (fm rfl (fm rfl (fm rfl fn)))))))) (fm rfl (fm rfl (fm rfl (fm rfl (fm rfl (fm rfl (fm rfl (fm rfl fn)))))))) (fm rfl (fm rfl (fm rfl (fm rfl (fm rfl (fm rfl (fm rfl (fm rfl fn))))))))) (ih.2.2.1 _ _ _ _ _ _ _ _ _ _ _ hs R rx1 rx2 rx3 rx4 rx5 rx6 (by decide))
    · intro M x1 x2 x3 x4 x5 x6 h v M' hs R rx1 rx2 rx3 rx4 rx5 rx6
      rw [l237] at hs
      refine evx_F E237 D237_35 rfl rfl ?_
      refine evx_F E237 D237_36 rfl rfl ?_
      refine evx_F E237 D237_40 rfl rfl ?_
      show evx _ _ _ _ _ [(7, .inl (iz 1)), (0, .inr (.inr (.inl (some 53)))), (1, .inl (iz x1)), (2, .inl (iz x2)), (3, .inl (iz x3)), (4, .inl (iz x4)), (5, .inl (iz x5)), (6, .inl (iz x6))] _ _ _ _
      exact evx_lv (lvLe_mk (fm rfl (fm rfl (fm rfl (fm rfl (fm rfl (fm rfl (fm rfl (fm rfl fn)))))))) (fm rfl (fm rfl (fm rfl (fm rfl (fm rfl (fm rfl (fm rfl (fm rfl fn)))))))) (fm rfl (fm rfl (fm rfl (fm rfl (fm rfl (fm rfl (fm rfl (fm rfl fn))))))))) (ih.2.2.1 _ _ _ _ _ _ _ _ _ _ _ hs R rx1 rx2 rx3 rx4 rx5 rx6 (by decide))
    · intro M x1 x2 x3 x4 x5 x6 x7 h v M' hs R rx1 rx2 rx3 rx4 rx5 rx6 rx7
      rw [l237] at hs
      refine evx_F E237 D237_42 rfl rfl ?_
      refine evx_F E237 D237_43 rfl rfl ?_
      show evx _ _ _ _ _ [(8, .inl (iz 0)), (0, .inr (.inr (.inl (some 53)))), (1, .inl (iz x1)), (2, .inl (iz x2)), (3, .inl (iz x3)), (4, .inl (iz x4)), (5, .inl (iz x5)), (6, .inl (iz x6)), (7, .inl (iz x7))] _ _ _ _
      exact evx_lv (lvLe_mk (fm rfl (fm rfl (fm rfl (fm rfl (fm rfl (fm rfl (fm rfl (fm rfl (fm rfl fn))))))))) (fm rfl (fm rfl (fm rfl (fm rfl (fm rfl (fm rfl (fm rfl (fm rfl (fm rfl fn))))))))) (fm rfl (fm rfl (fm rfl (fm rfl (fm rfl (fm rfl (fm rfl (fm rfl (fm rfl fn)))))))))) (ih.2.2.2.1 _ _ _ _ _ _ _ _ _ _ _ _ hs R rx1 rx2 rx3 rx4 rx5 rx6 rx7 (by decide))
    · intro M x1 x2 x3 x4 x5 x6 x7 x8 h v M' hs R rx1 rx2 rx3 rx4 rx5 rx6 rx7 rx8
      rw [l237] at hs
      refine evx_F E237 D237_45 rfl rfl ?_
      by_cases cb17 : x7 = 0
      · rw [if_pos cb17] at hs
        refine evx_F E237 D237_47 rfl (ifT (c1_eq_T rx7 cb17)) ?_
        show evx _ _ _ _ _ [(0, .inr (.inr (.inl (some 53)))), (1, .inl (iz x1)), (2, .inl (iz x2)), (3, .inl (iz x3)), (4, .inl (iz x4)), (5, .inl (iz x5)), (6, .inl (iz x6)), (7, .inl (iz x7)), (8, .inl (iz x8))] _ _ _ _
        exact evx_lv (lvLe_mk (fm rfl (fm rfl (fm rfl (fm rfl (fm rfl (fm rfl (fm rfl (fm rfl (fm rfl fn))))))))) (fm rfl (fm rfl (fm rfl (fm rfl (fm rfl (fm rfl (fm rfl (fm rfl (fm rfl fn))))))))) (fm rfl (fm rfl (fm rfl (fm rfl (fm rfl (fm rfl (fm rfl (fm rfl (fm rfl fn)))))))))) (ih.2.2.2.2.1 _ _ _ _ _ _ _ _ _ _ _ _ hs R rx1 rx2 rx3 rx4 rx5 rx6 rx7 rx8)
      · rw [if_neg cb17] at hs
        refine evx_F E237 D237_47 rfl (ifF (c1_eq_F rx7 (by omega))) ?_
        refine evx_F E237 D237_50 rfl rfl ?_
        refine evx_F E237 D237_52 rfl rfl ?_
        refine evx_gfr E237 D237_53 F237_22 H53 rfl R ?_
        refine evx_F E237 D237_56 rfl rfl ?_
        obtain ⟨k18, hs⟩ := ck hs
        refine evx_ial E237 D237_57 H58 (by decide) R k18 ?_
        by_cases cb19 : (M 58 (Int.toNat x1)) ≤ x8
        · rw [if_pos cb19] at hs
          refine evx_F E237 D237_58 rfl (ifT (c2_ge_T rx8 (R.1 58 (Int.toNat x1)) cb19)) ?_
          show evx _ _ _ _ _ [(0, .inr (.inr (.inl (some 53)))), (1, .inl (iz x1)), (2, .inl (iz x2)), (3, .inl (iz x3)), (4, .inl (iz x4)), (5, .inl (iz x5)), (6, .inl (iz x6)), (7, .inl (iz x7)), (8, .inl (iz x8))] _ _ _ _
          exact evx_lv (lvLe_mk (fm rfl (fm rfl (fm rfl (fm rfl (fm rfl (fm rfl (fm rfl (fm rfl (fm rfl fn))))))))) (fm rfl (fm rfl (fm rfl (fm rfl (fm rfl (fm rfl (fm rfl (fm rfl (fm rfl fn))))))))) (fm rfl (fm rfl (fm rfl (fm rfl (fm rfl (fm rfl (fm rfl (fm rfl (fm rfl fn)))))))))) (ih.2.2.2.2.1 _ _ _ _ _ _ _ _ _ _ _ _ hs R rx1 rx2 rx3 rx4 rx5 rx6 rx7 rx8)
        · rw [if_neg cb19] at hs
          refine evx_F E237 D237_58 rfl (ifF (c2_ge_F rx8 (R.1 58 (Int.toNat x1)) (by omega))) ?_
          refine evx_F E237 D237_61 rfl rfl ?_
          refine evx_F E237 D237_62 rfl rfl ?_
          by_cases cb20 : ¬ x8 = 0
          · rw [if_pos cb20] at hs
            refine evx_F E237 D237_64 rfl (ifT (c1_ne_T rx8 cb20)) ?_
            refine evx_F E237 D237_72 rfl rfl ?_
            refine evx_F E237 D237_74 rfl rfl ?_
            by_cases cb21 : ¬ x8 = 1
            · rw [if_pos cb21] at hs
              refine evx_F E237 D237_75 rfl (ifT (c2_ne_T rx8 (by decide) cb21)) ?_
              refine evx_F E237 D237_83 rfl rfl ?_
              obtain ⟨q23, e22, hs⟩ := Option.bind_eq_some_iff.mp hs
              refine evx_cv (D := 7) E237 D237_85 I237_220 rfl rfl H53 ⟨Nat.le_of_ble_eq_true rfl, Nat.le_of_ble_eq_true rfl⟩ ⟨rfl, Nat.le_of_ble_eq_true rfl⟩ rfl R (evx_up (Nat.le_of_ble_eq_true rfl) (c206 R rx6 e22)) ?_
              intro h24 R25 w26
              have w26 : rg q23 := w26
              show evx _ _ _ _ _ _ (.inl (iz q23) :: _) _ _ _
              refine evx_F E237 D237_88 rfl rfl ?_
              show evx _ _ _ _ _ [(7, .inl (iz q23)), (0, .inr (.inr (.inl (some 53)))), (1, .inl (iz x1)), (2, .inl (iz x2)), (3, .inl (iz x3)), (4, .inl (iz x4)), (5, .inl (iz x5)), (6, .inl (iz x6)), (8, .inl (iz x8))] _ _ _ _
              exact evx_lv (lvLe_mk (fm rfl (fm rfl (fm rfl (fm rfl (fm rfl (fm rfl (fm rfl (fm rfl (fm rfl fn))))))))) (fm rfl (fm rfl (fm rfl (fm rfl (fm rfl (fm rfl (fm rfl (fm rfl (fm rfl fn))))))))) (fm rfl (fm rfl (fm rfl (fm rfl (fm rfl (fm rfl (fm rfl (fm rfl (fm rfl fn)))))))))) (ih.2.2.2.2.2.1 _ _ _ _ _ _ _ _ _ _ _ _ hs R25 rx1 rx2 rx3 rx4 rx5 rx6 w26 rx8)
            · rw [if_neg cb21] at hs
              refine evx_F E237 D237_75 rfl (ifF (c2_ne_F rx8 (by decide) (by omega))) ?_
              refine evx_F E237 D237_78 rfl rfl ?_
              refine evx_F E237 D237_80 rfl rfl ?_
              obtain ⟨q28, e27, hs⟩ := Option.bind_eq_some_iff.mp hs
              refine evx_cv (D := 7) E237 D237_85 I237_220 rfl rfl H53 ⟨Nat.le_of_ble_eq_true rfl, Nat.le_of_ble_eq_true rfl⟩ ⟨rfl, Nat.le_of_ble_eq_true rfl⟩ rfl R (evx_up (Nat.le_of_ble_eq_true rfl) (c206 R rx5 e27)) ?_
              intro h29 R30 w31
              have w31 : rg q28 := w31
              show evx _ _ _ _ _ _ (.inl (iz q28) :: _) _ _ _
              refine evx_F E237 D237_88 rfl rfl ?_
              show evx _ _ _ _ _ [(7, .inl (iz q28)), (0, .inr (.inr (.inl (some 53)))), (1, .inl (iz x1)), (2, .inl (iz x2)), (3, .inl (iz x3)), (4, .inl (iz x4)), (5, .inl (iz x5)), (6, .inl (iz x6)), (8, .inl (iz x8))] _ _ _ _
              exact evx_lv (lvLe_mk (fm rfl (fm rfl (fm rfl (fm rfl (fm rfl (fm rfl (fm rfl (fm rfl (fm rfl fn))))))))) (fm rfl (fm rfl (fm rfl (fm rfl (fm rfl (fm rfl (fm rfl (fm rfl (fm rfl fn))))))))) (fm rfl (fm rfl (fm rfl (fm rfl (fm rfl (fm rfl (fm rfl (fm rfl (fm rfl fn)))))))))) (ih.2.2.2.2.2.1 _ _ _ _ _ _ _ _ _ _ _ _ hs R30 rx1 rx2 rx3 rx4 rx5 rx6 w31 rx8)
          · rw [if_neg cb20] at hs
            refine evx_F E237 D237_64 rfl (ifF (c1_ne_F rx8 (by omega))) ?_
            refine evx_F E237 D237_67 rfl rfl ?_
            refine evx_F E237 D237_69 rfl rfl ?_
            obtain ⟨q33, e32, hs⟩ := Option.bind_eq_some_iff.mp hs
            refine evx_cv (D := 7) E237 D237_85 I237_220 rfl rfl H53 ⟨Nat.le_of_ble_eq_true rfl, Nat.le_of_ble_eq_true rfl⟩ ⟨rfl, Nat.le_of_ble_eq_true rfl⟩ rfl R (evx_up (Nat.le_of_ble_eq_true rfl) (c206 R rx4 e32)) ?_
            intro h34 R35 w36
            have w36 : rg q33 := w36
            show evx _ _ _ _ _ _ (.inl (iz q33) :: _) _ _ _
            refine evx_F E237 D237_88 rfl rfl ?_
            show evx _ _ _ _ _ [(7, .inl (iz q33)), (0, .inr (.inr (.inl (some 53)))), (1, .inl (iz x1)), (2, .inl (iz x2)), (3, .inl (iz x3)), (4, .inl (iz x4)), (5, .inl (iz x5)), (6, .inl (iz x6)), (8, .inl (iz x8))] _ _ _ _
            exact evx_lv (lvLe_mk (fm rfl (fm rfl (fm rfl (fm rfl (fm rfl (fm rfl (fm rfl (fm rfl (fm rfl fn))))))))) (fm rfl (fm rfl (fm rfl (fm rfl (fm rfl (fm rfl (fm rfl (fm rfl (fm rfl fn))))))))) (fm rfl (fm rfl (fm rfl (fm rfl (fm rfl (fm rfl (fm rfl (fm rfl (fm rfl fn)))))))))) (ih.2.2.2.2.2.1 _ _ _ _ _ _ _ _ _ _ _ _ hs R35 rx1 rx2 rx3 rx4 rx5 rx6 w36 rx8)
    · intro M x1 x2 x3 x4 x5 x6 x7 x8 h v M' hs R rx1 rx2 rx3 rx4 rx5 rx6 rx7 rx8
      rw [l237] at hs
      refine evx_F E237 D237_96 rfl rfl ?_
      refine evx_F E237 D237_97 rfl rfl ?_
      by_cases cb37 : ¬ x7 = 0
      · rw [if_pos cb37] at hs
        refine evx_F E237 D237_99 rfl (ifT (c1_ne_T rx7 cb37)) ?_
        refine evx_F E237 D237_106 rfl rfl ?_
        refine evx_gfr E237 D237_107 F237_28 H53 rfl R ?_
        refine evx_F E237 D237_110 rfl rfl ?_
        refine evx_F E237 D237_111 rfl rfl ?_
        refine evx_mul E237 D237_112 ?_
        refine evx_F E237 D237_113 rfl rfl ?_
        refine evx_add E237 D237_114 ?_
        obtain ⟨k38, hs⟩ := ck hs
        refine evx_bal E237 D237_115 H60 (by decide) R k38 ?_
        by_cases cb39 : (M 60 (Int.toNat (((3 : Int) * x1) + x2))) = 0
        · rw [if_pos cb39] at hs
          refine evx_F E237 D237_116 rfl (ifT (c1_eq_T (R.1 60 (Int.toNat (((3 : Int) * x1) + x2))) cb39)) ?_
          refine evx_F E237 D237_123 rfl rfl ?_
          refine evx_pfi (k := 0) E237 D237_124 F237_182 H53 rfl R (by decide) rfl ?_
          intro h40 R41
          show evx _ _ _ _ _ [(0, .inr (.inr (.inl (some 53)))), (1, .inl (iz x1)), (2, .inl (iz x2)), (3, .inl (iz x3)), (4, .inl (iz x4)), (5, .inl (iz x5)), (6, .inl (iz x6)), (7, .inl (iz x7)), (8, .inl (iz x8))] _ _ _ _
          exact evx_lv (lvLe_mk (fm rfl (fm rfl (fm rfl (fm rfl (fm rfl (fm rfl (fm rfl (fm rfl (fm rfl fn))))))))) (fm rfl (fm rfl (fm rfl (fm rfl (fm rfl (fm rfl (fm rfl (fm rfl (fm rfl fn))))))))) (fm rfl (fm rfl (fm rfl (fm rfl (fm rfl (fm rfl (fm rfl (fm rfl (fm rfl fn)))))))))) (ih.2.2.2.2.2.2.1 _ _ _ _ _ _ _ _ _ _ _ _ hs R41 rx1 rx2 rx3 rx4 rx5 rx6 rx7 rx8)
        · rw [if_neg cb39] at hs
          refine evx_F E237 D237_116 rfl (ifF (c1_eq_F (R.1 60 (Int.toNat (((3 : Int) * x1) + x2))) (by omega))) ?_
          refine evx_F E237 D237_119 rfl rfl ?_
          refine evx_F E237 D237_120 rfl rfl ?_
          refine evx_pfi (k := 0) E237 D237_124 F237_182 H53 rfl R (by decide) rfl ?_
          intro h42 R43
          show evx _ _ _ _ _ [(0, .inr (.inr (.inl (some 53)))), (1, .inl (iz x1)), (2, .inl (iz x2)), (3, .inl (iz x3)), (4, .inl (iz x4)), (5, .inl (iz x5)), (6, .inl (iz x6)), (7, .inl (iz x7)), (8, .inl (iz x8))] _ _ _ _
          exact evx_lv (lvLe_mk (fm rfl (fm rfl (fm rfl (fm rfl (fm rfl (fm rfl (fm rfl (fm rfl (fm rfl fn))))))))) (fm rfl (fm rfl (fm rfl (fm rfl (fm rfl (fm rfl (fm rfl (fm rfl (fm rfl fn))))))))) (fm rfl (fm rfl (fm rfl (fm rfl (fm rfl (fm rfl (fm rfl (fm rfl (fm rfl fn)))))))))) (ih.2.2.2.2.2.2.1 _ _ _ _ _ _ _ _ _ _ _ _ hs R43 rx1 rx2 rx3 rx4 rx5 rx6 rx7 rx8)
      · rw [if_neg cb37] at hs
        refine evx_F E237 D237_99 rfl (ifF (c1_ne_F rx7 (by omega))) ?_
        refine evx_F E237 D237_102 rfl rfl ?_
        refine evx_F E237 D237_103 rfl rfl ?_
        refine evx_pfi (k := 0) E237 D237_124 F237_182 H53 rfl R (by decide) rfl ?_
        intro h44 R45
        show evx _ _ _ _ _ [(0, .inr (.inr (.inl (some 53)))), (1, .inl (iz x1)), (2, .inl (iz x2)), (3, .inl (iz x3)), (4, .inl (iz x4)), (5, .inl (iz x5)), (6, .inl (iz x6)), (7, .inl (iz x7)), (8, .inl (iz x8))] _ _ _ _
        exact evx_lv (lvLe_mk (fm rfl (fm rfl (fm rfl (fm rfl (fm rfl (fm rfl (fm rfl (fm rfl (fm rfl fn))))))))) (fm rfl (fm rfl (fm rfl (fm rfl (fm rfl (fm rfl (fm rfl (fm rfl (fm rfl fn))))))))) (fm rfl (fm rfl (fm rfl (fm rfl (fm rfl (fm rfl (fm rfl (fm rfl (fm rfl fn)))))))))) (ih.2.2.2.2.2.2.1 _ _ _ _ _ _ _ _ _ _ _ _ hs R45 rx1 rx2 rx3 rx4 rx5 rx6 rx7 rx8)
    · intro M x1 x2 x3 x4 x5 x6 x7 x8 h v M' hs R rx1 rx2 rx3 rx4 rx5 rx6 rx7 rx8
      rw [l237] at hs
      refine evx_inc E237 D237_90 (Nat.le_of_ble_eq_true rfl) rfl ?_
      refine evx_F E237 D237_93 rfl rfl ?_
      obtain ⟨k46, hs⟩ := ck hs
      show evx _ _ _ _ _ [(8, .inl (iz (x8 + 1))), (0, .inr (.inr (.inl (some 53)))), (1, .inl (iz x1)), (2, .inl (iz x2)), (3, .inl (iz x3)), (4, .inl (iz x4)), (5, .inl (iz x5)), (6, .inl (iz x6)), (7, .inl (iz x7))] _ _ _ _
      exact evx_lv (lvLe_mk (fm rfl (fm rfl (fm rfl (fm rfl (fm rfl (fm rfl (fm rfl (fm rfl (fm rfl fn))))))))) (fm rfl (fm rfl (fm rfl (fm rfl (fm rfl (fm rfl (fm rfl (fm rfl (fm rfl fn))))))))) (fm rfl (fm rfl (fm rfl (fm rfl (fm rfl (fm rfl (fm rfl (fm rfl (fm rfl fn)))))))))) (ih.2.2.2.1 _ _ _ _ _ _ _ _ _ _ _ _ hs R rx1 rx2 rx3 rx4 rx5 rx6 rx7 k46)
    · intro M x1 x2 x3 x4 x5 x6 x7 x8 h v M' hs R rx1 rx2 rx3 rx4 rx5 rx6 rx7 rx8
      rw [l237] at hs
      refine evx_F E237 D237_127 rfl rfl ?_
      refine evx_gfi (k := 0) E237 D237_128 F237_182 H53 rfl R ?_
      by_cases cb47 : (M 53 0) = 0
      · rw [if_pos cb47] at hs
        refine evx_F E237 D237_131 rfl (ifT (c1_eq_T (R.1 53 0) cb47)) ?_
        refine evx_F E237 D237_136 rfl rfl ?_
        refine evx_F E237 D237_137 rfl rfl ?_
        refine evx_F E237 D237_138 rfl rfl ?_
        refine evx_F E237 D237_139 rfl rfl ?_
        obtain ⟨q49, e48, hs⟩ := Option.bind_eq_some_iff.mp hs
        refine evx_cv (D := 7) E237 D237_140 I237_338 rfl rfl H53 ⟨Nat.le_of_ble_eq_true rfl, Nat.le_of_ble_eq_true rfl⟩ ⟨rfl, Nat.le_of_ble_eq_true rfl⟩ rfl R (evx_up (Nat.le_of_ble_eq_true rfl) (c238 R rx1 rx2 rx3 e48)) ?_
        intro h50 R51 w52
        have w52 : rg q49 := w52
        show evx _ _ _ _ _ _ (.inl (iz q49) :: _) _ _ _
        by_cases cb53 : ¬ q49 = 0
        · rw [if_pos cb53] at hs
          refine evx_F E237 D237_143 rfl (ifT (c1_ne_T w52 cb53)) ?_
          refine evx_F E237 D237_149 rfl rfl ?_
          refine evx_F E237 D237_150 rfl rfl ?_
          refine evx_mul E237 D237_151 ?_
          refine evx_F E237 D237_152 rfl rfl ?_
          refine evx_add E237 D237_153 ?_
          refine evx_F E237 D237_154 rfl rfl ?_
          refine evx_F E237 D237_156 rfl rfl ?_
          refine evx_gfr E237 D237_157 F237_28 H53 rfl R51 ?_
          refine evx_F E237 D237_160 rfl rfl ?_
          refine evx_F E237 D237_162 rfl rfl ?_
          obtain ⟨k54, hs⟩ := ck hs
          refine evx_bas E237 D237_163 H60 (by decide) R51 k54 (by decide) ?_
          intro h55 R56
          refine evx_F E237 D237_164 rfl rfl ?_
          refine evx_gfr E237 D237_165 F237_32 H53 rfl R56 ?_
          refine evx_F E237 D237_168 rfl rfl ?_
          refine evx_F E237 D237_170 rfl rfl ?_
          refine evx_ias E237 D237_171 H61 (by decide) R56 k54 rx3 ?_
          intro h57 R58
          refine evx_F E237 D237_172 rfl rfl ?_
          refine evx_F E237 D237_173 rfl rfl ?_
          refine evx_pfi (k := 53) E237 D237_174 F237_292 H53 rfl R58 rx3 rfl ?_
          intro h59 R60
          refine evx_F E237 D237_177 rfl rfl ?_
          refine evx_gfi (k := 24) E237 D237_178 F237_304 H53 rfl R60 ?_
          show evx _ _ _ _ _ _ (.inl (iz (M 53 24)) :: _) _ _ _
          refine evx_F E237 D237_181 rfl rfl ?_
          refine evx_F E237 D237_183 rfl rfl ?_
          refine evx_F E237 D237_184 rfl rfl ?_
          refine evx_F E237 D237_186 rfl rfl ?_
          refine evx_F E237 D237_187 rfl rfl ?_
          obtain ⟨k61, hs⟩ := ck hs
          show evx _ _ _ _ _ [(11, .inl (iz 0)), (10, .inl (iz 0)), (9, .inl (iz (M 53 24))), (8, .inl (iz (((3 : Int) * x1) + x2))), (0, .inr (.inr (.inl (some 53)))), (1, .inl (iz x1)), (2, .inl (iz x2)), (3, .inl (iz x3)), (4, .inl (iz x4)), (5, .inl (iz x5)), (6, .inl (iz x6)), (7, .inl (iz x7))] _ _ _ _
          exact evx_lv (lvLe_mk (fm rfl (fm rfl (fm rfl (fm rfl (fm rfl (fm rfl (fm rfl (fm rfl (fm rfl (fm rfl (fm rfl (fm rfl fn)))))))))))) (fm rfl (fm rfl (fm rfl (fm rfl (fm rfl (fm rfl (fm rfl (fm rfl (fm rfl (fm rfl (fm rfl (fm rfl fn)))))))))))) (fm rfl (fm rfl (fm rfl (fm rfl (fm rfl (fm rfl (fm rfl (fm rfl (fm rfl (fm rfl (fm rfl (fm rfl fn))))))))))))) (ih.2.2.2.2.2.2.2.1 _ _ _ _ _ _ _ _ _ _ _ _ _ _ _ hs R60 rx1 rx2 rx3 rx4 rx5 rx6 rx7 k61 (R60.1 53 24) (by decide) (by decide))
        · rw [if_neg cb53] at hs
          refine evx_F E237 D237_143 rfl (ifF (c1_ne_F w52 (by omega))) ?_
          refine evx_k (k := -5) E237 D237_146 rfl (by decide) ?_
          cases hs
          exact evx_ret E237 D237_148 rfl (fun d => rfl) rfl (show rg _ from (by decide)) R51
      · rw [if_neg cb47] at hs
        refine evx_F E237 D237_131 rfl (ifF (c1_eq_F (R.1 53 0) (by omega))) ?_
        refine evx_F E237 D237_134 rfl rfl ?_
        cases hs
        exact evx_ret E237 D237_135 rfl (fun d => rfl) rfl (show rg _ from (by decide)) R
    · intro M x1 x2 x3 x4 x5 x6 x7 x8 x9 x10 x11 h v M' hs R rx1 rx2 rx3 rx4 rx5 rx6 rx7 rx8 rx9 rx10 rx11
      rw [l237] at hs
      refine evx_F E237 D237_189 rfl rfl ?_
      refine evx_F E237 D237_191 rfl rfl ?_
      refine evx_gfr E237 D237_192 F237_22 H53 rfl R ?_
      refine evx_F E237 D237_195 rfl rfl ?_
      obtain ⟨k62, hs⟩ := ck hs
      refine evx_ial E237 D237_196 H58 (by decide) R k62 ?_
      by_cases cb63 : (M 58 (Int.toNat x1)) ≤ x11
      · rw [if_pos cb63] at hs
        refine evx_F E237 D237_197 rfl (ifT (c2_ge_T rx11 (R.1 58 (Int.toNat x1)) cb63)) ?_
        show evx _ _ _ _ _ [(0, .inr (.inr (.inl (some 53)))), (1, .inl (iz x1)), (2, .inl (iz x2)), (3, .inl (iz x3)), (4, .inl (iz x4)), (5, .inl (iz x5)), (6, .inl (iz x6)), (7, .inl (iz x7)), (8, .inl (iz x8)), (9, .inl (iz x9)), (10, .inl (iz x10)), (11, .inl (iz x11))] _ _ _ _
        exact evx_lv (lvLe_mk (fm rfl (fm rfl (fm rfl (fm rfl (fm rfl (fm rfl (fm rfl (fm rfl (fm rfl (fm rfl (fm rfl (fm rfl fn)))))))))))) (fm rfl (fm rfl (fm rfl (fm rfl (fm rfl (fm rfl (fm rfl (fm rfl (fm rfl (fm rfl (fm rfl (fm rfl fn)))))))))))) (fm rfl (fm rfl (fm rfl (fm rfl (fm rfl (fm rfl (fm rfl (fm rfl (fm rfl (fm rfl (fm rfl (fm rfl fn))))))))))))) (ih.2.2.2.2.2.2.2.2.1 _ _ _ _ _ _ _ _ _ _ _ _ _ _ _ hs R rx1 rx2 rx3 rx4 rx5 rx6 rx7 rx8 rx9 rx10 rx11)
      · rw [if_neg cb63] at hs
        refine evx_F E237 D237_197 rfl (ifF (c2_ge_F rx11 (R.1 58 (Int.toNat x1)) (by omega))) ?_
        refine evx_F E237 D237_200 rfl rfl ?_
        by_cases cb64 : ¬ x10 = 0
        · rw [if_pos cb64] at hs
          refine evx_F E237 D237_202 rfl (ifT (c1_ne_T rx10 cb64)) ?_
          show evx _ _ _ _ _ [(0, .inr (.inr (.inl (some 53)))), (1, .inl (iz x1)), (2, .inl (iz x2)), (3, .inl (iz x3)), (4, .inl (iz x4)), (5, .inl (iz x5)), (6, .inl (iz x6)), (7, .inl (iz x7)), (8, .inl (iz x8)), (9, .inl (iz x9)), (10, .inl (iz x10)), (11, .inl (iz x11))] _ _ _ _
          exact evx_lv (lvLe_mk (fm rfl (fm rfl (fm rfl (fm rfl (fm rfl (fm rfl (fm rfl (fm rfl (fm rfl (fm rfl (fm rfl (fm rfl fn)))))))))))) (fm rfl (fm rfl (fm rfl (fm rfl (fm rfl (fm rfl (fm rfl (fm rfl (fm rfl (fm rfl (fm rfl (fm rfl fn)))))))))))) (fm rfl (fm rfl (fm rfl (fm rfl (fm rfl (fm rfl (fm rfl (fm rfl (fm rfl (fm rfl (fm rfl (fm rfl fn))))))))))))) (ih.2.2.2.2.2.2.2.2.1 _ _ _ _ _ _ _ _ _ _ _ _ _ _ _ hs R rx1 rx2 rx3 rx4 rx5 rx6 rx7 rx8 rx9 rx10 rx11)
        · rw [if_neg cb64] at hs
          refine evx_F E237 D237_202 rfl (ifF (c1_ne_F rx10 (by omega))) ?_
          refine evx_F E237 D237_205 rfl rfl ?_
          by_cases cb65 : ¬ x11 = 0
          · rw [if_pos cb65] at hs
            refine evx_F E237 D237_207 rfl (ifT (c1_ne_T rx11 cb65)) ?_
            refine evx_F E237 D237_215 rfl rfl ?_
            refine evx_F E237 D237_217 rfl rfl ?_
            by_cases cb66 : ¬ x11 = 1
            · rw [if_pos cb66] at hs
              refine evx_F E237 D237_218 rfl (ifT (c2_ne_T rx11 (by decide) cb66)) ?_
              refine evx_F E237 D237_226 rfl rfl ?_
              refine evx_F E237 D237_228 rfl rfl ?_
              show evx _ _ _ _ _ [(12, .inl (iz x6)), (0, .inr (.inr (.inl (some 53)))), (1, .inl (iz x1)), (2, .inl (iz x2)), (3, .inl (iz x3)), (4, .inl (iz x4)), (5, .inl (iz x5)), (6, .inl (iz x6)), (7, .inl (iz x7)), (8, .inl (iz x8)), (9, .inl (iz x9)), (10, .inl (iz x10)), (11, .inl (iz x11))] _ _ _ _
              exact evx_lv (lvLe_mk (fm rfl (fm rfl (fm rfl (fm rfl (fm rfl (fm rfl (fm rfl (fm rfl (fm rfl (fm rfl (fm rfl (fm rfl (fm rfl fn))))))))))))) (fm rfl (fm rfl (fm rfl (fm rfl (fm rfl (fm rfl (fm rfl (fm rfl (fm rfl (fm rfl (fm rfl (fm rfl (fm rfl fn))))))))))))) (fm rfl (fm rfl (fm rfl (fm rfl (fm rfl (fm rfl (fm rfl (fm rfl (fm rfl (fm rfl (fm rfl (fm rfl (fm rfl fn)))))))))))))) (ih.2.2.2.2.2.2.2.2.2.1 _ _ _ _ _ _ _ _ _ _ _ _ _ _ _ _ hs R rx1 rx2 rx3 rx4 rx5 rx6 rx7 rx8 rx9 rx10 rx11 rx6)
            · rw [if_neg cb66] at hs
              refine evx_F E237 D237_218 rfl (ifF (c2_ne_F rx11 (by decide) (by omega))) ?_
              refine evx_F E237 D237_221 rfl rfl ?_
              refine evx_F E237 D237_223 rfl rfl ?_
              refine evx_F E237 D237_228 rfl rfl ?_
              show evx _ _ _ _ _ [(12, .inl (iz x5)), (0, .inr (.inr (.inl (some 53)))), (1, .inl (iz x1)), (2, .inl (iz x2)), (3, .inl (iz x3)), (4, .inl (iz x4)), (5, .inl (iz x5)), (6, .inl (iz x6)), (7, .inl (iz x7)), (8, .inl (iz x8)), (9, .inl (iz x9)), (10, .inl (iz x10)), (11, .inl (iz x11))] _ _ _ _
              exact evx_lv (lvLe_mk (fm rfl (fm rfl (fm rfl (fm rfl (fm rfl (fm rfl (fm rfl (fm rfl (fm rfl (fm rfl (fm rfl (fm rfl (fm rfl fn))))))))))))) (fm rfl (fm rfl (fm rfl (fm rfl (fm rfl (fm rfl (fm rfl (fm rfl (fm rfl (fm rfl (fm rfl (fm rfl (fm rfl fn))))))))))))) (fm rfl (fm rfl (fm rfl (fm rfl (fm rfl (fm rfl (fm rfl (fm rfl (fm rfl (fm rfl (fm rfl (fm rfl (fm rfl fn)))))))))))))) (ih.2.2.2.2.2.2.2.2.2.1 _ _ _ _ _ _ _ _ _ _ _ _ _ _ _ _ hs R rx1 rx2 rx3 rx4 rx5 rx6 rx7 rx8 rx9 rx10 rx11 rx5)
          · rw [if_neg cb65] at hs
            refine evx_F E237 D237_207 rfl (ifF (c1_ne_F rx11 (by omega))) ?_
            refine evx_F E237 D237_210 rfl rfl ?_
            refine evx_F E237 D237_212 rfl rfl ?_
            refine evx_F E237 D237_228 rfl rfl ?_
            show evx _ _ _ _ _ [(12, .inl (iz x4)), (0, .inr (.inr (.inl (some 53)))), (1, .inl (iz x1)), (2, .inl (iz x2)), (3, .inl (iz x3)), (4, .inl (iz x4)), (5, .inl (iz x5)), (6, .inl (iz x6)), (7, .inl (iz x7)), (8, .inl (iz x8)), (9, .inl (iz x9)), (10, .inl (iz x10)), (11, .inl (iz x11))] _ _ _ _
            exact evx_lv (lvLe_mk (fm rfl (fm rfl (fm rfl (fm rfl (fm rfl (fm rfl (fm rfl (fm rfl (fm rfl (fm rfl (fm rfl (fm rfl (fm rfl fn))))))))))))) (fm rfl (fm rfl (fm rfl (fm rfl (fm rfl (fm rfl (fm rfl (fm rfl (fm rfl (fm rfl (fm rfl (fm rfl (fm rfl fn))))))))))))) (fm rfl (fm rfl (fm rfl (fm rfl (fm rfl (fm rfl (fm rfl (fm rfl (fm rfl (fm rfl (fm rfl (fm rfl (fm rfl fn)))))))))))))) (ih.2.2.2.2.2.2.2.2.2.1 _ _ _ _ _ _ _ _ _ _ _ _ _ _ _ _ hs R rx1 rx2 rx3 rx4 rx5 rx6 rx7 rx8 rx9 rx10 rx11 rx4)
    · intro M x1 x2 x3 x4 x5 x6 x7 x8 x9 x10 x11 h v M' hs R rx1 rx2 rx3 rx4 rx5 rx6 rx7 rx8 rx9 rx10 rx11
      rw [l237] at hs
      refine evx_F E237 D237_262 rfl rfl ?_
      by_cases cb67 : x10 = 0
      · rw [if_pos cb67] at hs
        refine evx_F E237 D237_264 rfl (ifT (c1_eq_T rx10 cb67)) ?_
        show evx _ _ _ _ _ [(0, .inr (.inr (.inl (some 53)))), (1, .inl (iz x1)), (2, .inl (iz x2)), (3, .inl (iz x3)), (4, .inl (iz x4)), (5, .inl (iz x5)), (6, .inl (iz x6)), (7, .inl (iz x7)), (8, .inl (iz x8)), (9, .inl (iz x9)), (10, .inl (iz x10)), (11, .inl (iz x11))] _ _ _ _
        exact evx_lv (lvLe_mk (fm rfl (fm rfl (fm rfl (fm rfl (fm rfl (fm rfl (fm rfl (fm rfl (fm rfl (fm rfl (fm rfl (fm rfl fn)))))))))))) (fm rfl (fm rfl (fm rfl (fm rfl (fm rfl (fm rfl (fm rfl (fm rfl (fm rfl (fm rfl (fm rfl (fm rfl fn)))))))))))) (fm rfl (fm rfl (fm rfl (fm rfl (fm rfl (fm rfl (fm rfl (fm rfl (fm rfl (fm rfl (fm rfl (fm rfl fn))))))))))))) (ih.2.2.2.2.2.2.2.2.2.2 _ _ _ _ _ _ _ _ _ _ _ _ _ _ _ hs R rx1 rx2 rx3 rx4 rx5 rx6 rx7 rx8 rx9 rx10 rx11)
      · rw [if_neg cb67] at hs
        refine evx_F E237 D237_264 rfl (ifF (c1_eq_F rx10 (by omega))) ?_
        refine evx_F E237 D237_267 rfl rfl ?_
        refine evx_gfr E237 D237_268 F237_28 H53 rfl R ?_
        refine evx_F E237 D237_271 rfl rfl ?_
        refine evx_F E237 D237_273 rfl rfl ?_
        obtain ⟨k68, hs⟩ := ck hs
        refine evx_bas E237 D237_274 H60 (by decide) R k68 (by decide) ?_
        intro h69 R70
        refine evx_F E237 D237_275 rfl rfl ?_
        refine evx_F E237 D237_276 rfl rfl ?_
        refine evx_pfi (k := 24) E237 D237_278 F237_304 H53 rfl R70 rx9 rfl ?_
        intro h71 R72
        show evx _ _ _ _ _ [(0, .inr (.inr (.inl (some 53)))), (1, .inl (iz x1)), (2, .inl (iz x2)), (3, .inl (iz x3)), (4, .inl (iz x4)), (5, .inl (iz x5)), (6, .inl (iz x6)), (7, .inl (iz x7)), (8, .inl (iz x8)), (9, .inl (iz x9)), (10, .inl (iz x10)), (11, .inl (iz x11))] _ _ _ _
        exact evx_lv (lvLe_mk (fm rfl (fm rfl (fm rfl (fm rfl (fm rfl (fm rfl (fm rfl (fm rfl (fm rfl (fm rfl (fm rfl (fm rfl fn)))))))))))) (fm rfl (fm rfl (fm rfl (fm rfl (fm rfl (fm rfl (fm rfl (fm rfl (fm rfl (fm rfl (fm rfl (fm rfl fn)))))))))))) (fm rfl (fm rfl (fm rfl (fm rfl (fm rfl (fm rfl (fm rfl (fm rfl (fm rfl (fm rfl (fm rfl (fm rfl fn))))))))))))) (ih.2.2.2.2.2.2.2.2.2.2 _ _ _ _ _ _ _ _ _ _ _ _ _ _ _ hs R72 rx1 rx2 rx3 rx4 rx5 rx6 rx7 rx8 rx9 rx10 rx11)
    · intro M x1 x2 x3 x4 x5 x6 x7 x8 x9 x10 x11 x12 h v M' hs R rx1 rx2 rx3 rx4 rx5 rx6 rx7 rx8 rx9 rx10 rx11 rx12
      rw [l237] at hs
      refine evx_F E237 D237_230 rfl rfl ?_
      refine evx_gfr E237 D237_231 F237_35 H53 rfl R ?_
      refine evx_F E237 D237_234 rfl rfl ?_
      refine evx_F E237 D237_235 rfl rfl ?_
      refine evx_mul E237 D237_237 ?_
      refine evx_F E237 D237_238 rfl rfl ?_
      refine evx_add E237 D237_240 ?_
      refine evx_F E237 D237_241 rfl rfl ?_
      obtain ⟨k73, hs⟩ := ck hs
      refine evx_ias E237 D237_243 H62 (by decide) R k73 rx12 ?_
      intro h74 R75
      refine evx_F E237 D237_244 rfl rfl ?_
      refine evx_F E237 D237_245 rfl rfl ?_
      refine evx_F E237 D237_246 rfl rfl ?_
      refine evx_F E237 D237_247 rfl rfl ?_
      refine evx_F E237 D237_249 rfl rfl ?_
      obtain ⟨⟨q77, M81⟩, e76, hs⟩ := Option.bind_eq_some_iff.mp hs
      dsimp only at hs
      refine evx_cv (D := 7) E237 D237_251 I237_342 rfl rfl H53 ⟨Nat.le_of_ble_eq_true rfl, Nat.le_of_ble_eq_true rfl⟩ ⟨rfl, Nat.le_of_ble_eq_true rfl⟩ rfl R75 (evx_up (Nat.le_of_ble_eq_true rfl) (c239 R75 rx1 rx2 rx11 rx12 e76)) ?_
      intro h78 R79 w80
      have w80 : rg q77 := w80
      show evx _ _ _ _ _ _ (.inl (iz q77) :: _) _ _ _
      refine evx_F E237 D237_254 rfl rfl ?_
      refine evx_inc E237 D237_256 (Nat.le_of_ble_eq_true rfl) rfl ?_
      refine evx_F E237 D237_259 rfl rfl ?_
      obtain ⟨k82, hs⟩ := ck hs
      show evx _ _ _ _ _ [(11, .inl (iz (x11 + 1))), (10, .inl (iz q77)), (0, .inr (.inr (.inl (some 53)))), (1, .inl (iz x1)), (2, .inl (iz x2)), (3, .inl (iz x3)), (4, .inl (iz x4)), (5, .inl (iz x5)), (6, .inl (iz x6)), (7, .inl (iz x7)), (8, .inl (iz x8)), (9, .inl (iz x9)), (12, .inl (iz x12))] _ _ _ _
      exact evx_lv (lvLe_mk (fm rfl (fm rfl (fm rfl (fm rfl (fm rfl (fm rfl (fm rfl (fm rfl (fm rfl (fm rfl (fm rfl (fm rfl fn)))))))))))) (fm rfl (fm rfl (fm rfl (fm rfl (fm rfl (fm rfl (fm rfl (fm rfl (fm rfl (fm rfl (fm rfl (fm rfl (fm rfl fn))))))))))))) (fm rfl (fm rfl (fm rfl (fm rfl (fm rfl (fm rfl (fm rfl (fm rfl (fm rfl (fm rfl (fm rfl (fm rfl fn))))))))))))) (ih.2.2.2.2.2.2.2.1 _ _ _ _ _ _ _ _ _ _ _ _ _ _ _ hs R79 rx1 rx2 rx3 rx4 rx5 rx6 rx7 rx8 rx9 w80 k82)
    · intro M x1 x2 x3 x4 x5 x6 x7 x8 x9 x10 x11 h v M' hs R rx1 rx2 rx3 rx4 rx5 rx6 rx7 rx8 rx9 rx10 rx11
      rw [l237] at hs
      refine evx_F E237 D237_281 rfl rfl ?_
      cases hs
      exact evx_ret E237 D237_283 rfl (fun d => rfl) rfl (show rg _ from rx10) R
def f237 (M : Mm) (x1 : Int) (x2 : Int) (x3 : Int) (x4 : Int) (x5 : Int) (x6 : Int) : Option (Int × Mm) := (f195 M x1).bind (fun q2 => if q2 = 0 then (l237 FU 39 M x1 x2 x3 x4 x5 x6 0 0 0 0 0 0) else (if x2 < 0 then (l237 FU 39 M x1 x2 x3 x4 x5 x6 0 0 0 0 0 0) else (if 3 ≤ x2 then (l237 FU 39 M x1 x2 x3 x4 x5 x6 0 0 0 0 0 0) else (if x3 = (-1) then (l237 FU 35 M x1 x2 x3 x4 x5 x6 0 0 0 0 0 0) else (if ¬ x2 = 2 then (l237 FU 39 M x1 x2 x3 x4 x5 x6 0 0 0 0 0 0) else (f195 M x3).bind (fun q12 => if q12 = 0 then (l237 FU 39 M x1 x2 x3 x4 x5 x6 0 0 0 0 0 0) else (l237 FU 35 M x1 x2 x3 x4 x5 x6 0 0 0 0 0 0)))))))
theorem c237 {L : Nat} {xs : Nat → Int32} {h : mvH} {M : Mm} {x1 x2 x3 x4 x5 x6 : Int} {v : Int} {M' : Mm} (R : rp h M) (rx1 : rg x1) (rx2 : rg x2) (rx3 : rg x3) (rx4 : rg x4) (rx5 : rg x5) (rx6 : rg x6) (hs : f237 M x1 x2 x3 x4 x5 x6 = some (v, M')) : evx L xs 8 237 0 [(0, .inr (.inr (.inl (some 53)))), (1, .inl (iz x1)), (2, .inl (iz x2)), (3, .inl (iz x3)), (4, .inl (iz x4)), (5, .inl (iz x5)), (6, .inl (iz x6))] [] h (.inl (some (.inl v)), 0) M' := by
  unfold f237 at hs
  refine evx_F E237 D237_0 rfl rfl ?_
  refine evx_F E237 D237_1 rfl rfl ?_
  obtain ⟨q2, e1, hs⟩ := Option.bind_eq_some_iff.mp hs
  refine evx_cv (D := 7) E237 D237_2 I237_199 rfl rfl H53 ⟨Nat.le_of_ble_eq_true rfl, Nat.le_of_ble_eq_true rfl⟩ ⟨rfl, Nat.le_of_ble_eq_true rfl⟩ rfl R (evx_up (Nat.le_of_ble_eq_true rfl) (c195 R rx1 e1)) ?_
  intro h3 R4 w5
  have w5 : rg q2 := w5
  show evx _ _ _ _ _ _ (.inl (iz q2) :: _) _ _ _
  by_cases cb6 : q2 = 0
  · rw [if_pos cb6] at hs
    refine evx_F E237 D237_5 rfl (ifT (c1_eq_T w5 cb6)) ?_
    show evx _ _ _ _ _ [(0, .inr (.inr (.inl (some 53)))), (1, .inl (iz x1)), (2, .inl (iz x2)), (3, .inl (iz x3)), (4, .inl (iz x4)), (5, .inl (iz x5)), (6, .inl (iz x6))] _ _ _ _
    exact evx_lv (lvLe_mk (fm rfl (fm rfl (fm rfl (fm rfl (fm rfl (fm rfl (fm rfl fn))))))) (fm rfl (fm rfl (fm rfl (fm rfl (fm rfl (fm rfl (fm rfl fn))))))) (fm rfl (fm rfl (fm rfl (fm rfl (fm rfl (fm rfl (fm rfl fn)))))))) ((d237 FU).1 _ _ _ _ _ _ _ _ _ _ hs R4 rx1 rx2 rx3 rx4 rx5 rx6)
  · rw [if_neg cb6] at hs
    refine evx_F E237 D237_5 rfl (ifF (c1_eq_F w5 (by omega))) ?_
    refine evx_F E237 D237_8 rfl rfl ?_
    by_cases cb7 : x2 < 0
    · rw [if_pos cb7] at hs
      refine evx_F E237 D237_9 rfl (ifT (c1_lt_T rx2 cb7)) ?_
      show evx _ _ _ _ _ [(0, .inr (.inr (.inl (some 53)))), (1, .inl (iz x1)), (2, .inl (iz x2)), (3, .inl (iz x3)), (4, .inl (iz x4)), (5, .inl (iz x5)), (6, .inl (iz x6))] _ _ _ _
      exact evx_lv (lvLe_mk (fm rfl (fm rfl (fm rfl (fm rfl (fm rfl (fm rfl (fm rfl fn))))))) (fm rfl (fm rfl (fm rfl (fm rfl (fm rfl (fm rfl (fm rfl fn))))))) (fm rfl (fm rfl (fm rfl (fm rfl (fm rfl (fm rfl (fm rfl fn)))))))) ((d237 FU).1 _ _ _ _ _ _ _ _ _ _ hs R4 rx1 rx2 rx3 rx4 rx5 rx6)
    · rw [if_neg cb7] at hs
      refine evx_F E237 D237_9 rfl (ifF (c1_lt_F rx2 (by omega))) ?_
      refine evx_F E237 D237_12 rfl rfl ?_
      refine evx_F E237 D237_13 rfl rfl ?_
      by_cases cb8 : 3 ≤ x2
      · rw [if_pos cb8] at hs
        refine evx_F E237 D237_14 rfl (ifT (c2_ge_T rx2 (by decide) cb8)) ?_
        show evx _ _ _ _ _ [(0, .inr (.inr (.inl (some 53)))), (1, .inl (iz x1)), (2, .inl (iz x2)), (3, .inl (iz x3)), (4, .inl (iz x4)), (5, .inl (iz x5)), (6, .inl (iz x6))] _ _ _ _
        exact evx_lv (lvLe_mk (fm rfl (fm rfl (fm rfl (fm rfl (fm rfl (fm rfl (fm rfl fn))))))) (fm rfl (fm rfl (fm rfl (fm rfl (fm rfl (fm rfl (fm rfl fn))))))) (fm rfl (fm rfl (fm rfl (fm rfl (fm rfl (fm rfl (fm rfl fn)))))))) ((d237 FU).1 _ _ _ _ _ _ _ _ _ _ hs R4 rx1 rx2 rx3 rx4 rx5 rx6)
      · rw [if_neg cb8] at hs
        refine evx_F E237 D237_14 rfl (ifF (c2_ge_F rx2 (by decide) (by omega))) ?_
        refine evx_F E237 D237_17 rfl rfl ?_
        refine evx_F E237 D237_18 rfl rfl ?_
        by_cases cb9 : x3 = (-1)
        · rw [if_pos cb9] at hs
          refine evx_F E237 D237_19 rfl (ifT (c2_eq_T rx3 (by decide) cb9)) ?_
          show evx _ _ _ _ _ [(0, .inr (.inr (.inl (some 53)))), (1, .inl (iz x1)), (2, .inl (iz x2)), (3, .inl (iz x3)), (4, .inl (iz x4)), (5, .inl (iz x5)), (6, .inl (iz x6))] _ _ _ _
          exact evx_lv (lvLe_mk (fm rfl (fm rfl (fm rfl (fm rfl (fm rfl (fm rfl (fm rfl fn))))))) (fm rfl (fm rfl (fm rfl (fm rfl (fm rfl (fm rfl (fm rfl fn))))))) (fm rfl (fm rfl (fm rfl (fm rfl (fm rfl (fm rfl (fm rfl fn)))))))) ((d237 FU).2.1 _ _ _ _ _ _ _ _ _ _ hs R4 rx1 rx2 rx3 rx4 rx5 rx6)
        · rw [if_neg cb9] at hs
          refine evx_F E237 D237_19 rfl (ifF (c2_eq_F rx3 (by decide) (by omega))) ?_
          refine evx_F E237 D237_22 rfl rfl ?_
          refine evx_F E237 D237_23 rfl rfl ?_
          by_cases cb10 : ¬ x2 = 2
          · rw [if_pos cb10] at hs
            refine evx_F E237 D237_24 rfl (ifT (c2_ne_T rx2 (by decide) cb10)) ?_
            show evx _ _ _ _ _ [(0, .inr (.inr (.inl (some 53)))), (1, .inl (iz x1)), (2, .inl (iz x2)), (3, .inl (iz x3)), (4, .inl (iz x4)), (5, .inl (iz x5)), (6, .inl (iz x6))] _ _ _ _
            exact evx_lv (lvLe_mk (fm rfl (fm rfl (fm rfl (fm rfl (fm rfl (fm rfl (fm rfl fn))))))) (fm rfl (fm rfl (fm rfl (fm rfl (fm rfl (fm rfl (fm rfl fn))))))) (fm rfl (fm rfl (fm rfl (fm rfl (fm rfl (fm rfl (fm rfl fn)))))))) ((d237 FU).1 _ _ _ _ _ _ _ _ _ _ hs R4 rx1 rx2 rx3 rx4 rx5 rx6)
          · rw [if_neg cb10] at hs
            refine evx_F E237 D237_24 rfl (ifF (c2_ne_F rx2 (by decide) (by omega))) ?_
            refine evx_F E237 D237_27 rfl rfl ?_
            refine evx_F E237 D237_28 rfl rfl ?_
            obtain ⟨q12, e11, hs⟩ := Option.bind_eq_some_iff.mp hs
            refine evx_cv (D := 7) E237 D237_29 I237_199 rfl rfl H53 ⟨Nat.le_of_ble_eq_true rfl, Nat.le_of_ble_eq_true rfl⟩ ⟨rfl, Nat.le_of_ble_eq_true rfl⟩ rfl R4 (evx_up (Nat.le_of_ble_eq_true rfl) (c195 R4 rx3 e11)) ?_
            intro h13 R14 w15
            have w15 : rg q12 := w15
            show evx _ _ _ _ _ _ (.inl (iz q12) :: _) _ _ _
            by_cases cb16 : q12 = 0
            · rw [if_pos cb16] at hs
              refine evx_F E237 D237_32 rfl (ifT (c1_eq_T w15 cb16)) ?_
              show evx _ _ _ _ _ [(0, .inr (.inr (.inl (some 53)))), (1, .inl (iz x1)), (2, .inl (iz x2)), (3, .inl (iz x3)), (4, .inl (iz x4)), (5, .inl (iz x5)), (6, .inl (iz x6))] _ _ _ _
              exact evx_lv (lvLe_mk (fm rfl (fm rfl (fm rfl (fm rfl (fm rfl (fm rfl (fm rfl fn))))))) (fm rfl (fm rfl (fm rfl (fm rfl (fm rfl (fm rfl (fm rfl fn))))))) (fm rfl (fm rfl (fm rfl (fm rfl (fm rfl (fm rfl (fm rfl fn)))))))) ((d237 FU).1 _ _ _ _ _ _ _ _ _ _ hs R14 rx1 rx2 rx3 rx4 rx5 rx6)
            · rw [if_neg cb16] at hs
              refine evx_F E237 D237_32 rfl (ifF (c1_eq_F w15 (by omega))) ?_
              show evx _ _ _ _ _ [(0, .inr (.inr (.inl (some 53)))), (1, .inl (iz x1)), (2, .inl (iz x2)), (3, .inl (iz x3)), (4, .inl (iz x4)), (5, .inl (iz x5)), (6, .inl (iz x6))] _ _ _ _
              exact evx_lv (lvLe_mk (fm rfl (fm rfl (fm rfl (fm rfl (fm rfl (fm rfl (fm rfl fn))))))) (fm rfl (fm rfl (fm rfl (fm rfl (fm rfl (fm rfl (fm rfl fn))))))) (fm rfl (fm rfl (fm rfl (fm rfl (fm rfl (fm rfl (fm rfl fn)))))))) ((d237 FU).2.1 _ _ _ _ _ _ _ _ _ _ hs R14 rx1 rx2 rx3 rx4 rx5 rx6)
/-! 99_46: java/util/Arrays.fill ([IIII)V -/
def l99_46 : Nat → Nat → Mm → Int → Int → Int → Int → Option (Int × Mm)
  | 0, _, _, _, _, _, _ => none
  | f + 1, 10, M, x1, x2, x3, x4 => if x2 ≤ x4 then (some (0, M)) else (if 0 ≤ x4 ∧ x4 < 2504 then (if rg (x4 + 1) then (l99_46 f 10 (up M 46 (Int.toNat x4) x3) x1 x2 x3 (x4 + 1)) else none) else none)
  | _, _, _, _, _, _, _ => none
theorem d99_46 {L : Nat} {xs : Nat → Int32} (f : Nat) : (∀ (M : Mm) (x1 x2 x3 x4 : Int) (h : mvH) (v : Int) (M' : Mm), l99_46 f 10 M x1 x2 x3 x4 = some (v, M') → rp h M → rg x1 → rg x2 → rg x3 → rg x4 → evx L xs 2 99 10 [(0, .inr (.inr (.inl (some 46)))), (1, .inl (iz x1)), (2, .inl (iz x2)), (3, .inl (iz x3)), (4, .inl (iz x4))] [] h (.inl none, 0) M') := by
  induction f with
  | zero => exact (fun M x1 x2 x3 x4 h v M' hs _ _ _ _ _ => by cases hs)
  | succ f ih =>
    intro M x1 x2 x3 x4 h v M' hs R rx1 rx2 rx3 rx4
    rw [l99_46] at hs
    refine evx_F E99 D99_10 rfl rfl ?_
    refine evx_F E99 D99_12 rfl rfl ?_
    by_cases cb7 : x2 ≤ x4
    · rw [if_pos cb7] at hs
      refine evx_F E99 D99_13 rfl (ifT (c2_ge_T rx4 rx2 cb7)) ?_
      cases hs
      exact evx_ret E99 D99_27 rfl (fun d => rfl) rfl trivial R
    · rw [if_neg cb7] at hs
      refine evx_F E99 D99_13 rfl (ifF (c2_ge_F rx4 rx2 (by omega))) ?_
      refine evx_F E99 D99_16 rfl rfl ?_
      refine evx_F E99 D99_17 rfl rfl ?_
      refine evx_F E99 D99_19 rfl rfl ?_
      obtain ⟨k8, hs⟩ := ck hs
      refine evx_ias E99 D99_20 H46 (by decide) R k8 rx3 ?_
      intro h9 R10
      refine evx_inc E99 D99_21 (Nat.le_of_ble_eq_true rfl) rfl ?_
      refine evx_F E99 D99_24 rfl rfl ?_
      obtain ⟨k11, hs⟩ := ck hs
      show evx _ _ _ _ _ [(4, .inl (iz (x4 + 1))), (0, .inr (.inr (.inl (some 46)))), (1, .inl (iz x1)), (2, .inl (iz x2)), (3, .inl (iz x3))] _ _ _ _
      exact evx_lv (lvLe_mk (fm rfl (fm rfl (fm rfl (fm rfl (fm rfl fn))))) (fm rfl (fm rfl (fm rfl (fm rfl (fm rfl fn))))) (fm rfl (fm rfl (fm rfl (fm rfl (fm rfl fn)))))) (ih _ _ _ _ _ _ _ _ hs R10 rx1 rx2 rx3 k11)
def f99_46 (M : Mm) (x1 : Int) (x2 : Int) (x3 : Int) : Option (Int × Mm) := (f100 M 2504 x1 x2).bind (fun zq2 => l99_46 FU 10 zq2.2 x1 x2 x3 x1)
theorem c99_46 {L : Nat} {xs : Nat → Int32} {h : mvH} {M : Mm} {x1 x2 x3 : Int} {v : Int} {M' : Mm} (R : rp h M) (rx1 : rg x1) (rx2 : rg x2) (rx3 : rg x3) (hs : f99_46 M x1 x2 x3 = some (v, M')) : evx L xs 2 99 0 [(0, .inr (.inr (.inl (some 46)))), (1, .inl (iz x1)), (2, .inl (iz x2)), (3, .inl (iz x3))] [] h (.inl none, 0) M' := by
  unfold f99_46 at hs
  refine evx_F E99 D99_0 rfl rfl ?_
  refine evx_len E99 D99_1 H46 (by decide) R ?_
  refine evx_F E99 D99_2 rfl rfl ?_
  refine evx_F E99 D99_3 rfl rfl ?_
  obtain ⟨⟨q2, M6⟩, e1, hs⟩ := Option.bind_eq_some_iff.mp hs
  dsimp only at hs
  refine evx_cs (D := 1) E99 D99_4 I99_13 rfl rfl (Nat.le_of_ble_eq_true rfl) ⟨rfl, Nat.le_of_ble_eq_true rfl⟩ rfl (evx_up (Nat.le_of_ble_eq_true rfl) (c100 R (by decide) rx1 rx2 e1)) ?_
  intro h3 R4 w5
  refine evx_F E99 D99_7 rfl rfl ?_
  refine evx_F E99 D99_8 rfl rfl ?_
  show evx _ _ _ _ _ [(4, .inl (iz x1)), (0, .inr (.inr (.inl (some 46)))), (1, .inl (iz x1)), (2, .inl (iz x2)), (3, .inl (iz x3))] _ _ _ _
  exact evx_lv (lvLe_mk (fm rfl (fm rfl (fm rfl (fm rfl (fm rfl fn))))) (fm rfl (fm rfl (fm rfl (fm rfl (fm rfl fn))))) (fm rfl (fm rfl (fm rfl (fm rfl (fm rfl fn)))))) ((d99_46 FU) _ _ _ _ _ _ _ _ hs R4 rx1 rx2 rx3 rx1)
set_option maxRecDepth 20000 in
theorem E29 : pgMm 29 = some (⟨"DictionaryHouseLaw", "method", "(LDictionaryHouse;II[J)I"⟩, method_6_code, 5, (some .int), [(0, 10, 13, 13), (0, 10, 17, 15)]) := rfl
theorem D29_0 : pgDecT 29 0 = some (.aload_n 3, 1) := by decide +kernel
theorem D29_1 : pgDecT 29 1 = some (.iconst 0, 1) := by decide +kernel
theorem D29_2 : pgDecT 29 2 = some (.aload_n 0, 1) := by decide +kernel
theorem D29_3 : pgDecT 29 3 = some (.iload_n 1, 1) := by decide +kernel
theorem D29_4 : pgDecT 29 4 = some (.iload_n 2, 1) := by decide +kernel
theorem D29_5 : pgDecT 29 5 = some (.invokevirtual 24, 3) := by decide +kernel
theorem I29_24 : pgIi 29 24 = some (30, 2, 11) := by decide +kernel
theorem D29_8 : pgDecT 29 8 = some (.i2l, 1) := by decide +kernel
theorem D29_9 : pgDecT 29 9 = some (.lastore, 1) := by decide +kernel
theorem D29_10 : pgDecT 29 10 = some (.goto 11, 3) := by decide +kernel
theorem D29_21 : pgDecT 29 21 = some (.iconst 0, 1) := by decide +kernel
theorem D29_22 : pgDecT 29 22 = some (.ireturn, 1) := by decide +kernel
theorem D29_15 : pgDecT 29 15 = some (.iconst 1, 1) := by decide +kernel
theorem D29_16 : pgDecT 29 16 = some (.ireturn, 1) := by decide +kernel
theorem D29_19 : pgDecT 29 19 = some (.iconst 2, 1) := by decide +kernel
theorem D29_20 : pgDecT 29 20 = some (.ireturn, 1) := by decide +kernel
/-! 29_0_109: DictionaryHouseLaw.method (LDictionaryHouse;II[J)I -/
def f29_0_109 (M : Mm) (x1 : Int) (x2 : Int) : Option (Int × Mm) := (f30 M x1 x2).bind (fun zq2 => if zq2.1 = 0 then (some (0, (up zq2.2.2 109 (Int.toNat 0) zq2.2.1))) else if zq2.1 = 1 then (some (1, zq2.2.2)) else (some (2, zq2.2.2)))
theorem c29_0_109 {L : Nat} {xs : Nat → Int32} {h : mvH} {M : Mm} {x1 x2 : Int} {v : Int} {M' : Mm} (R : rp h M) (rx1 : rg x1) (rx2 : rg x2) (hs : f29_0_109 M x1 x2 = some (v, M')) : evx L xs 10 29 0 [(0, .inr (.inr (.inl (some 0)))), (1, .inl (iz x1)), (2, .inl (iz x2)), (3, .inr (.inr (.inl (some 109))))] [] h (ow v) M' := by
  unfold f29_0_109 at hs
  refine evx_F E29 D29_0 rfl rfl ?_
  refine evx_F E29 D29_1 rfl rfl ?_
  refine evx_F E29 D29_2 rfl rfl ?_
  refine evx_F E29 D29_3 rfl rfl ?_
  refine evx_F E29 D29_4 rfl rfl ?_
  obtain ⟨⟨kq7, q2, M6⟩, e1, hs⟩ := Option.bind_eq_some_iff.mp hs
  dsimp only at hs
  have ge1 := c30 (L := L) (xs := xs) R rx1 rx2 e1
  by_cases cb8 : kq7 = 0
  · rw [if_pos cb8] at hs
    subst cb8
    refine evx_cv (D := 9) E29 D29_5 I29_24 rfl rfl H0 ⟨Nat.le_of_ble_eq_true rfl, Nat.le_of_ble_eq_true rfl⟩ ⟨rfl, Nat.le_of_ble_eq_true rfl⟩ rfl R (evx_up (Nat.le_of_ble_eq_true rfl) ge1) ?_
    intro h3 R4 w5
    have w5 : rg q2 := w5
    show evx _ _ _ _ _ _ (.inl (iz q2) :: _) _ _ _
    refine evx_F E29 D29_8 rfl rfl ?_
    refine evx_las E29 D29_9 H109 (by decide) R4 (by decide) w5 ?_
    intro h9 R10
    refine evx_F E29 D29_10 rfl rfl ?_
    refine evx_F E29 D29_21 rfl rfl ?_
    cases hs
    exact evx_ret E29 D29_22 rfl (fun d => rfl) rfl (show rg _ from (by decide)) R10
  · rw [if_neg cb8] at hs
    by_cases cb11 : kq7 = 1
    · rw [if_pos cb11] at hs
      rw [cb11, ot_1] at ge1
      cases hs
      show evx _ _ _ _ _ _ _ _ (.inl (some (.inl 1)), 1 + 0) _
      refine evx_cat (n1 := 1) (n2 := 0) (D := 9) E29 D29_5 I29_24 rfl rfl H0 ⟨Nat.le_of_ble_eq_true rfl, Nat.le_of_ble_eq_true rfl⟩ ⟨rfl, Nat.le_of_ble_eq_true rfl⟩ rfl rfl R (evx_up (Nat.le_of_ble_eq_true rfl) ge1) ?_
      intro h12 R13
      show evx _ _ _ _ _ [(0, .inr (.inr (.inl (some 0)))), (1, .inl (iz x1)), (2, .inl (iz x2)), (3, .inr (.inr (.inl (some 109))))] _ _ _ _
      refine evx_F E29 D29_15 rfl rfl ?_
      exact evx_ret E29 D29_16 rfl (fun d => rfl) rfl (show rg _ from (by decide)) R13
    · rw [if_neg cb11] at hs
      rw [ot_2 cb8 cb11] at ge1
      cases hs
      show evx _ _ _ _ _ _ _ _ (.inl (some (.inl 2)), 1 + 0) _
      refine evx_cat (n1 := 1) (n2 := 0) (D := 9) E29 D29_5 I29_24 rfl rfl H0 ⟨Nat.le_of_ble_eq_true rfl, Nat.le_of_ble_eq_true rfl⟩ ⟨rfl, Nat.le_of_ble_eq_true rfl⟩ rfl rfl R (evx_up (Nat.le_of_ble_eq_true rfl) ge1) ?_
      intro h14 R15
      show evx _ _ _ _ _ [(0, .inr (.inr (.inl (some 0)))), (1, .inl (iz x1)), (2, .inl (iz x2)), (3, .inr (.inr (.inl (some 109))))] _ _ _ _
      refine evx_F E29 D29_19 rfl rfl ?_
      exact evx_ret E29 D29_20 rfl (fun d => rfl) rfl (show rg _ from (by decide)) R15
set_option maxRecDepth 20000 in
theorem E65 : pgMm 65 = some (⟨"DictionaryHouse$Typing", "findTypes", "(I)Z"⟩, prog_12_method_9_code, 3, (some .boolean), []) := rfl
theorem D65_0 : pgDecT 65 0 = some (.aload_n 0, 1) := by decide +kernel
theorem D65_1 : pgDecT 65 1 = some (.iload_n 1, 1) := by decide +kernel
theorem D65_2 : pgDecT 65 2 = some (.invokevirtual 73, 3) := by decide +kernel
theorem I65_73 : pgIi 65 73 = some (66, 1, 10) := by decide +kernel
theorem D65_5 : pgDecT 65 5 = some (.aload_n 0, 1) := by decide +kernel
theorem D65_6 : pgDecT 65 6 = some (.getfield 12, 3) := by decide +kernel
theorem F65_12 : pgFf 65 12 = some (10, 4, 3) := by decide +kernel
theorem D65_9 : pgDecT 65 9 = some (.invokevirtual 77, 3) := by decide +kernel
theorem I65_77 : pgIi 65 77 = some (73, 0, 5) := by decide +kernel
theorem D65_12 : pgDecT 65 12 = some (.iconst 0, 1) := by decide +kernel
theorem D65_13 : pgDecT 65 13 = some (.istore_n 2, 1) := by decide +kernel
theorem D65_14 : pgDecT 65 14 = some (.iload_n 2, 1) := by decide +kernel
theorem D65_15 : pgDecT 65 15 = some (.aload_n 0, 1) := by decide +kernel
theorem D65_16 : pgDecT 65 16 = some (.getfield 60, 3) := by decide +kernel
theorem F65_60 : pgFf 65 60 = some (10, 13, 0) := by decide +kernel
theorem D65_19 : pgDecT 65 19 = some (.if_icmp .ge 32, 3) := by decide +kernel
theorem D65_51 : pgDecT 65 51 = some (.iconst 0, 1) := by decide +kernel
theorem D65_52 : pgDecT 65 52 = some (.istore_n 2, 1) := by decide +kernel
theorem D65_53 : pgDecT 65 53 = some (.iload_n 2, 1) := by decide +kernel
theorem D65_22 : pgDecT 65 22 = some (.aload_n 0, 1) := by decide +kernel
theorem D65_23 : pgDecT 65 23 = some (.getfield 25, 3) := by decide +kernel
theorem F65_25 : pgFf 65 25 = some (10, 7, 3) := by decide +kernel
theorem D65_26 : pgDecT 65 26 = some (.iload_n 2, 1) := by decide +kernel
theorem D65_27 : pgDecT 65 27 = some (.aload_n 0, 1) := by decide +kernel
theorem D65_28 : pgDecT 65 28 = some (.getfield 12, 3) := by decide +kernel
theorem D65_31 : pgDecT 65 31 = some (.iconst 2, 1) := by decide +kernel
theorem D65_32 : pgDecT 65 32 = some (.iconst (-1), 1) := by decide +kernel
theorem D65_33 : pgDecT 65 33 = some (.iconst (-1), 1) := by decide +kernel
theorem D65_34 : pgDecT 65 34 = some (.invokevirtual 80, 3) := by decide +kernel
theorem I65_80 : pgIi 65 80 = some (74, 3, 5) := by decide +kernel
theorem D65_37 : pgDecT 65 37 = some (.iastore, 1) := by decide +kernel
theorem D65_38 : pgDecT 65 38 = some (.aload_n 0, 1) := by decide +kernel
theorem D65_39 : pgDecT 65 39 = some (.getfield 34, 3) := by decide +kernel
theorem F65_34 : pgFf 65 34 = some (10, 10, 3) := by decide +kernel
theorem D65_42 : pgDecT 65 42 = some (.iload_n 2, 1) := by decide +kernel
theorem D65_43 : pgDecT 65 43 = some (.iconst 0, 1) := by decide +kernel
theorem D65_44 : pgDecT 65 44 = some (.iastore, 1) := by decide +kernel
theorem D65_45 : pgDecT 65 45 = some (.iinc 2 1, 3) := by decide +kernel
theorem D65_48 : pgDecT 65 48 = some (.goto (-34), 3) := by decide +kernel
theorem D65_54 : pgDecT 65 54 = some (.aload_n 0, 1) := by decide +kernel
theorem D65_55 : pgDecT 65 55 = some (.getfield 60, 3) := by decide +kernel
theorem D65_58 : pgDecT 65 58 = some (.if_icmp .ge 29, 3) := by decide +kernel
theorem D65_87 : pgDecT 65 87 = some (.iconst 1, 1) := by decide +kernel
theorem D65_88 : pgDecT 65 88 = some (.ireturn, 1) := by decide +kernel
theorem D65_61 : pgDecT 65 61 = some (.aload_n 0, 1) := by decide +kernel
theorem D65_62 : pgDecT 65 62 = some (.getfield 12, 3) := by decide +kernel
theorem D65_65 : pgDecT 65 65 = some (.invokevirtual 84, 3) := by decide +kernel
theorem I65_84 : pgIi 65 84 = some (75, 0, 5) := by decide +kernel
theorem D65_68 : pgDecT 65 68 = some (.ifCond .eq 11, 3) := by decide +kernel
theorem D65_79 : pgDecT 65 79 = some (.iconst 0, 1) := by decide +kernel
theorem D65_80 : pgDecT 65 80 = some (.ireturn, 1) := by decide +kernel
theorem D65_71 : pgDecT 65 71 = some (.aload_n 0, 1) := by decide +kernel
theorem D65_72 : pgDecT 65 72 = some (.iload_n 2, 1) := by decide +kernel
theorem D65_73 : pgDecT 65 73 = some (.invokevirtual 88, 3) := by decide +kernel
theorem I65_88 : pgIi 65 88 = some (76, 1, 10) := by decide +kernel
theorem D65_76 : pgDecT 65 76 = some (.ifCond .ne 5, 3) := by decide +kernel
theorem D65_81 : pgDecT 65 81 = some (.iinc 2 1, 3) := by decide +kernel
theorem D65_84 : pgDecT 65 84 = some (.goto (-31), 3) := by decide +kernel
/-! 65: DictionaryHouse$Typing.findTypes (I)Z -/
def l65 : Nat → Nat → Mm → Int → Int → Option (Int × Mm)
  | 0, _, _, _, _ => none
  | f + 1, 14, M, x1, x2 => if (M 24 13) ≤ x2 then (l65 f 53 M x1 0) else (f74 M 2 (-1) (-1)).bind (fun zq15 => if 0 ≤ x2 ∧ x2 < 60 then (if rg (x2 + 1) then (l65 f 14 (up (up zq15.2 36 (Int.toNat x2) zq15.1) 39 (Int.toNat x2) 0) x1 (x2 + 1)) else none) else none)
  | f + 1, 53, M, x1, x2 => if (M 24 13) ≤ x2 then (some (1, M)) else (f75 M).bind (fun q28 => if q28 = 0 then (some (0, M)) else (f76 M x2).bind (fun zq34 => if ¬ zq34.1 = 0 then (if rg (x2 + 1) then (l65 f 53 zq34.2 x1 (x2 + 1)) else none) else (some (0, zq34.2))))
  | _, _, _, _, _ => none
theorem d65 {L : Nat} {xs : Nat → Int32} (f : Nat) : (∀ (M : Mm) (x1 x2 : Int) (h : mvH) (v : Int) (M' : Mm), l65 f 14 M x1 x2 = some (v, M') → rp h M → rg x1 → rg x2 → evx L xs 6 65 14 [(0, .inr (.inr (.inl (some 24)))), (1, .inl (iz x1)), (2, .inl (iz x2))] [] h (.inl (some (.inl v)), 0) M') ∧ (∀ (M : Mm) (x1 x2 : Int) (h : mvH) (v : Int) (M' : Mm), l65 f 53 M x1 x2 = some (v, M') → rp h M → rg x1 → rg x2 → evx L xs 6 65 53 [(0, .inr (.inr (.inl (some 24)))), (1, .inl (iz x1)), (2, .inl (iz x2))] [] h (.inl (some (.inl v)), 0) M') := by
  induction f with
  | zero => exact ⟨(fun M x1 x2 h v M' hs _ _ _ => by cases hs), (fun M x1 x2 h v M' hs _ _ _ => by cases hs)⟩
  | succ f ih =>
    refine ⟨?_, ?_⟩
    · intro M x1 x2 h v M' hs R rx1 rx2
      rw [l65] at hs
      refine evx_F E65 D65_14 rfl rfl ?_
      refine evx_F E65 D65_15 rfl rfl ?_
      refine evx_gfi (k := 13) E65 D65_16 F65_60 H24 rfl R ?_
      by_cases cb13 : (M 24 13) ≤ x2
      · rw [if_pos cb13] at hs
        refine evx_F E65 D65_19 rfl (ifT (c2_ge_T rx2 (R.1 24 13) cb13)) ?_
        refine evx_F E65 D65_51 rfl rfl ?_
        refine evx_F E65 D65_52 rfl rfl ?_
        show evx _ _ _ _ _ [(2, .inl (iz 0)), (0, .inr (.inr (.inl (some 24)))), (1, .inl (iz x1))] _ _ _ _
        exact evx_lv (lvLe_mk (fm rfl (fm rfl (fm rfl fn))) (fm rfl (fm rfl (fm rfl fn))) (fm rfl (fm rfl (fm rfl fn)))) (ih.2 _ _ _ _ _ _ hs R rx1 (by decide))
      · rw [if_neg cb13] at hs
        refine evx_F E65 D65_19 rfl (ifF (c2_ge_F rx2 (R.1 24 13) (by omega))) ?_
        refine evx_F E65 D65_22 rfl rfl ?_
        refine evx_gfr E65 D65_23 F65_25 H24 rfl R ?_
        refine evx_F E65 D65_26 rfl rfl ?_
        refine evx_F E65 D65_27 rfl rfl ?_
        refine evx_gfr E65 D65_28 F65_12 H24 rfl R ?_
        refine evx_F E65 D65_31 rfl rfl ?_
        refine evx_F E65 D65_32 rfl rfl ?_
        refine evx_F E65 D65_33 rfl rfl ?_
        obtain ⟨⟨q15, M19⟩, e14, hs⟩ := Option.bind_eq_some_iff.mp hs
        dsimp only at hs
        refine evx_cv (D := 5) E65 D65_34 I65_80 rfl rfl H25 ⟨Nat.le_of_ble_eq_true rfl, Nat.le_of_ble_eq_true rfl⟩ ⟨rfl, Nat.le_of_ble_eq_true rfl⟩ rfl R (evx_up (Nat.le_of_ble_eq_true rfl) (c74 R (by decide) (by decide) (by decide) e14)) ?_
        intro h16 R17 w18
        have w18 : rg q15 := w18
        show evx _ _ _ _ _ _ (.inl (iz q15) :: _) _ _ _
        obtain ⟨k20, hs⟩ := ck hs
        refine evx_ias E65 D65_37 H36 (by decide) R17 k20 w18 ?_
        intro h21 R22
        refine evx_F E65 D65_38 rfl rfl ?_
        refine evx_gfr E65 D65_39 F65_34 H24 rfl R22 ?_
        refine evx_F E65 D65_42 rfl rfl ?_
        refine evx_F E65 D65_43 rfl rfl ?_
        refine evx_ias E65 D65_44 H39 (by decide) R22 k20 (by decide) ?_
        intro h23 R24
        refine evx_inc E65 D65_45 (Nat.le_of_ble_eq_true rfl) rfl ?_
        refine evx_F E65 D65_48 rfl rfl ?_
        obtain ⟨k25, hs⟩ := ck hs
        show evx _ _ _ _ _ [(2, .inl (iz (x2 + 1))), (0, .inr (.inr (.inl (some 24)))), (1, .inl (iz x1))] _ _ _ _
        exact evx_lv (lvLe_mk (fm rfl (fm rfl (fm rfl fn))) (fm rfl (fm rfl (fm rfl fn))) (fm rfl (fm rfl (fm rfl fn)))) (ih.1 _ _ _ _ _ _ hs R24 rx1 k25)
    · intro M x1 x2 h v M' hs R rx1 rx2
      rw [l65] at hs
      refine evx_F E65 D65_53 rfl rfl ?_
      refine evx_F E65 D65_54 rfl rfl ?_
      refine evx_gfi (k := 13) E65 D65_55 F65_60 H24 rfl R ?_
      by_cases cb26 : (M 24 13) ≤ x2
      · rw [if_pos cb26] at hs
        refine evx_F E65 D65_58 rfl (ifT (c2_ge_T rx2 (R.1 24 13) cb26)) ?_
        refine evx_F E65 D65_87 rfl rfl ?_
        cases hs
        exact evx_ret E65 D65_88 rfl (fun d => rfl) rfl (show rg _ from (by decide)) R
      · rw [if_neg cb26] at hs
        refine evx_F E65 D65_58 rfl (ifF (c2_ge_F rx2 (R.1 24 13) (by omega))) ?_
        refine evx_F E65 D65_61 rfl rfl ?_
        refine evx_gfr E65 D65_62 F65_12 H24 rfl R ?_
        obtain ⟨q28, e27, hs⟩ := Option.bind_eq_some_iff.mp hs
        refine evx_cv (D := 5) E65 D65_65 I65_84 rfl rfl H25 ⟨Nat.le_of_ble_eq_true rfl, Nat.le_of_ble_eq_true rfl⟩ ⟨rfl, Nat.le_of_ble_eq_true rfl⟩ rfl R (evx_up (Nat.le_of_ble_eq_true rfl) (c75 R  e27)) ?_
        intro h29 R30 w31
        have w31 : rg q28 := w31
        show evx _ _ _ _ _ _ (.inl (iz q28) :: _) _ _ _
        by_cases cb32 : q28 = 0
        · rw [if_pos cb32] at hs
          refine evx_F E65 D65_68 rfl (ifT (c1_eq_T w31 cb32)) ?_
          refine evx_F E65 D65_79 rfl rfl ?_
          cases hs
          exact evx_ret E65 D65_80 rfl (fun d => rfl) rfl (show rg _ from (by decide)) R30
        · rw [if_neg cb32] at hs
          refine evx_F E65 D65_68 rfl (ifF (c1_eq_F w31 (by omega))) ?_
          refine evx_F E65 D65_71 rfl rfl ?_
          refine evx_F E65 D65_72 rfl rfl ?_
          obtain ⟨⟨q34, M38⟩, e33, hs⟩ := Option.bind_eq_some_iff.mp hs
          dsimp only at hs
          refine evx_cv (D := 5) E65 D65_73 I65_88 rfl rfl H24 ⟨Nat.le_of_ble_eq_true rfl, Nat.le_of_ble_eq_true rfl⟩ ⟨rfl, Nat.le_of_ble_eq_true rfl⟩ rfl R30 (evx_up (Nat.le_of_ble_eq_true rfl) (c76 R30 rx2 e33)) ?_
          intro h35 R36 w37
          have w37 : rg q34 := w37
          show evx _ _ _ _ _ _ (.inl (iz q34) :: _) _ _ _
          by_cases cb39 : ¬ q34 = 0
          · rw [if_pos cb39] at hs
            refine evx_F E65 D65_76 rfl (ifT (c1_ne_T w37 cb39)) ?_
            refine evx_inc E65 D65_81 (Nat.le_of_ble_eq_true rfl) rfl ?_
            refine evx_F E65 D65_84 rfl rfl ?_
            obtain ⟨k40, hs⟩ := ck hs
            show evx _ _ _ _ _ [(2, .inl (iz (x2 + 1))), (0, .inr (.inr (.inl (some 24)))), (1, .inl (iz x1))] _ _ _ _
            exact evx_lv (lvLe_mk (fm rfl (fm rfl (fm rfl fn))) (fm rfl (fm rfl (fm rfl fn))) (fm rfl (fm rfl (fm rfl fn)))) (ih.2 _ _ _ _ _ _ hs R36 rx1 k40)
          · rw [if_neg cb39] at hs
            refine evx_F E65 D65_76 rfl (ifF (c1_ne_F w37 (by omega))) ?_
            refine evx_F E65 D65_79 rfl rfl ?_
            cases hs
            exact evx_ret E65 D65_80 rfl (fun d => rfl) rfl (show rg _ from (by decide)) R36
def f65 (M : Mm) (x1 : Int) : Option (Int × Mm) := (f66 M x1).bind (fun zq2 => (f73 zq2.2).bind (fun zq8 => l65 FU 14 zq8.2 x1 0))
theorem c65 {L : Nat} {xs : Nat → Int32} {h : mvH} {M : Mm} {x1 : Int} {v : Int} {M' : Mm} (R : rp h M) (rx1 : rg x1) (hs : f65 M x1 = some (v, M')) : evx L xs 6 65 0 [(0, .inr (.inr (.inl (some 24)))), (1, .inl (iz x1))] [] h (.inl (some (.inl v)), 0) M' := by
  unfold f65 at hs
  refine evx_F E65 D65_0 rfl rfl ?_
  refine evx_F E65 D65_1 rfl rfl ?_
  obtain ⟨⟨q2, M6⟩, e1, hs⟩ := Option.bind_eq_some_iff.mp hs
  dsimp only at hs
  refine evx_cv (D := 5) E65 D65_2 I65_73 rfl rfl H24 ⟨Nat.le_of_ble_eq_true rfl, Nat.le_of_ble_eq_true rfl⟩ ⟨rfl, Nat.le_of_ble_eq_true rfl⟩ rfl R (evx_up (Nat.le_of_ble_eq_true rfl) (c66 R rx1 e1)) ?_
  intro h3 R4 w5
  refine evx_F E65 D65_5 rfl rfl ?_
  refine evx_gfr E65 D65_6 F65_12 H24 rfl R4 ?_
  obtain ⟨⟨q8, M12⟩, e7, hs⟩ := Option.bind_eq_some_iff.mp hs
  dsimp only at hs
  refine evx_cv (D := 5) E65 D65_9 I65_77 rfl rfl H25 ⟨Nat.le_of_ble_eq_true rfl, Nat.le_of_ble_eq_true rfl⟩ ⟨rfl, Nat.le_of_ble_eq_true rfl⟩ rfl R4 (evx_up (Nat.le_of_ble_eq_true rfl) (c73 R4  e7)) ?_
  intro h9 R10 w11
  refine evx_F E65 D65_12 rfl rfl ?_
  refine evx_F E65 D65_13 rfl rfl ?_
  show evx _ _ _ _ _ [(2, .inl (iz 0)), (0, .inr (.inr (.inl (some 24)))), (1, .inl (iz x1))] _ _ _ _
  exact evx_lv (lvLe_mk (fm rfl (fm rfl (fm rfl fn))) (fm rfl (fm rfl (fm rfl fn))) (fm rfl (fm rfl (fm rfl fn)))) ((d65 FU).1 _ _ _ _ _ _ hs R10 rx1 (by decide))
set_option maxRecDepth 20000 in
theorem E105 : pgMm 105 = some (⟨"DictionaryHouse$Conditions", "wrongWith", "(I)I"⟩, prog_4_method_2_code, 3, (some .int), []) := rfl
theorem D105_0 : pgDecT 105 0 = some (.aload_n 0, 1) := by decide +kernel
theorem D105_1 : pgDecT 105 1 = some (.getfield 11, 3) := by decide +kernel
theorem F105_11 : pgFf 105 11 = some (2, 4, 3) := by decide +kernel
theorem D105_4 : pgDecT 105 4 = some (.iconst 0, 1) := by decide +kernel
theorem D105_5 : pgDecT 105 5 = some (.aload_n 0, 1) := by decide +kernel
theorem D105_6 : pgDecT 105 6 = some (.getfield 35, 3) := by decide +kernel
theorem F105_35 : pgFf 105 35 = some (2, 3, 3) := by decide +kernel
theorem D105_9 : pgDecT 105 9 = some (.invokevirtual 38, 3) := by decide +kernel
theorem I105_38 : pgIi 105 38 = some (106, 0, 5) := by decide +kernel
theorem D105_12 : pgDecT 105 12 = some (.iconst 0, 1) := by decide +kernel
theorem D105_13 : pgDecT 105 13 = some (.invokestatic 42, 3) := by decide +kernel
theorem I105_42 : pgIi 105 42 = some (99, 4, 100) := by decide +kernel
theorem D105_16 : pgDecT 105 16 = some (.aload_n 0, 1) := by decide +kernel
theorem D105_17 : pgDecT 105 17 = some (.iload_n 1, 1) := by decide +kernel
theorem D105_18 : pgDecT 105 18 = some (.putfield 48, 3) := by decide +kernel
theorem F105_48 : pgFf 105 48 = some (2, 5, 0) := by decide +kernel
theorem D105_21 : pgDecT 105 21 = some (.aload_n 0, 1) := by decide +kernel
theorem D105_22 : pgDecT 105 22 = some (.iconst 0, 1) := by decide +kernel
theorem D105_23 : pgDecT 105 23 = some (.putfield 52, 3) := by decide +kernel
theorem F105_52 : pgFf 105 52 = some (2, 6, 1) := by decide +kernel
theorem D105_26 : pgDecT 105 26 = some (.aload_n 0, 1) := by decide +kernel
theorem D105_27 : pgDecT 105 27 = some (.iconst 0, 1) := by decide +kernel
theorem D105_28 : pgDecT 105 28 = some (.putfield 56, 3) := by decide +kernel
theorem F105_56 : pgFf 105 56 = some (2, 7, 1) := by decide +kernel
theorem D105_31 : pgDecT 105 31 = some (.aload_n 0, 1) := by decide +kernel
theorem D105_32 : pgDecT 105 32 = some (.iconst 0, 1) := by decide +kernel
theorem D105_33 : pgDecT 105 33 = some (.putfield 59, 3) := by decide +kernel
theorem F105_59 : pgFf 105 59 = some (2, 8, 1) := by decide +kernel
theorem D105_36 : pgDecT 105 36 = some (.iconst 0, 1) := by decide +kernel
theorem D105_37 : pgDecT 105 37 = some (.istore_n 2, 1) := by decide +kernel
theorem D105_38 : pgDecT 105 38 = some (.iload_n 2, 1) := by decide +kernel
theorem D105_39 : pgDecT 105 39 = some (.aload_n 0, 1) := by decide +kernel
theorem D105_40 : pgDecT 105 40 = some (.getfield 25, 3) := by decide +kernel
theorem F105_25 : pgFf 105 25 = some (2, 2, 3) := by decide +kernel
theorem D105_43 : pgDecT 105 43 = some (.invokevirtual 62, 3) := by decide +kernel
theorem I105_62 : pgIi 105 62 = some (107, 0, 10) := by decide +kernel
theorem D105_46 : pgDecT 105 46 = some (.if_icmp .ge 14, 3) := by decide +kernel
theorem D105_60 : pgDecT 105 60 = some (.aload_n 0, 1) := by decide +kernel
theorem D105_61 : pgDecT 105 61 = some (.getfield 52, 3) := by decide +kernel
theorem D105_64 : pgDecT 105 64 = some (.ifCond .eq 6, 3) := by decide +kernel
theorem D105_70 : pgDecT 105 70 = some (.aload_n 0, 1) := by decide +kernel
theorem D105_71 : pgDecT 105 71 = some (.getfield 56, 3) := by decide +kernel
theorem D105_74 : pgDecT 105 74 = some (.ifCond .eq 6, 3) := by decide +kernel
theorem D105_80 : pgDecT 105 80 = some (.aload_n 0, 1) := by decide +kernel
theorem D105_81 : pgDecT 105 81 = some (.getfield 59, 3) := by decide +kernel
theorem D105_84 : pgDecT 105 84 = some (.ifCond .eq 8, 3) := by decide +kernel
theorem D105_92 : pgDecT 105 92 = some (.iconst 0, 1) := by decide +kernel
theorem D105_93 : pgDecT 105 93 = some (.ireturn, 1) := by decide +kernel
theorem D105_87 : pgDecT 105 87 = some (.bipush (-4), 2) := by decide +kernel
theorem D105_89 : pgDecT 105 89 = some (.goto 4, 3) := by decide +kernel
theorem D105_77 : pgDecT 105 77 = some (.bipush (-3), 2) := by decide +kernel
theorem D105_79 : pgDecT 105 79 = some (.ireturn, 1) := by decide +kernel
theorem D105_67 : pgDecT 105 67 = some (.bipush (-2), 2) := by decide +kernel
theorem D105_69 : pgDecT 105 69 = some (.ireturn, 1) := by decide +kernel
theorem D105_49 : pgDecT 105 49 = some (.aload_n 0, 1) := by decide +kernel
theorem D105_50 : pgDecT 105 50 = some (.iload_n 2, 1) := by decide +kernel
theorem D105_51 : pgDecT 105 51 = some (.invokevirtual 65, 3) := by decide +kernel
theorem I105_65 : pgIi 105 65 = some (108, 1, 2) := by decide +kernel
theorem D105_54 : pgDecT 105 54 = some (.iinc 2 1, 3) := by decide +kernel
theorem D105_57 : pgDecT 105 57 = some (.goto (-19), 3) := by decide +kernel
/-! 105: DictionaryHouse$Conditions.wrongWith (I)I -/
def l105 : Nat → Nat → Mm → Int → Int → Option (Int × Mm)
  | 0, _, _, _, _ => none
  | f + 1, 38, M, x1, x2 => (f107 M).bind (fun q21 => if q21 ≤ x2 then (if (M 45 6) = 0 then (if (M 45 7) = 0 then (if (M 45 8) = 0 then (some (0, M)) else (some ((-4), M))) else (some ((-3), M))) else (some ((-2), M))) else (f108 M x2).bind (fun zq30 => if rg (x2 + 1) then (l105 f 38 zq30.2 x1 (x2 + 1)) else none))
  | _, _, _, _, _ => none
theorem d105 {L : Nat} {xs : Nat → Int32} (f : Nat) : (∀ (M : Mm) (x1 x2 : Int) (h : mvH) (v : Int) (M' : Mm), l105 f 38 M x1 x2 = some (v, M') → rp h M → rg x1 → rg x2 → evx L xs 6 105 38 [(0, .inr (.inr (.inl (some 45)))), (1, .inl (iz x1)), (2, .inl (iz x2))] [] h (.inl (some (.inl v)), 0) M') := by
  induction f with
  | zero => exact (fun M x1 x2 h v M' hs _ _ _ => by cases hs)
  | succ f ih =>
    intro M x1 x2 h v M' hs R rx1 rx2
    rw [l105] at hs
    refine evx_F E105 D105_38 rfl rfl ?_
    refine evx_F E105 D105_39 rfl rfl ?_
    refine evx_gfr E105 D105_40 F105_25 H45 rfl R ?_
    obtain ⟨q21, e20, hs⟩ := Option.bind_eq_some_iff.mp hs
    refine evx_cv (D := 5) E105 D105_43 I105_62 rfl rfl H24 ⟨Nat.le_of_ble_eq_true rfl, Nat.le_of_ble_eq_true rfl⟩ ⟨rfl, Nat.le_of_ble_eq_true rfl⟩ rfl R (evx_up (Nat.le_of_ble_eq_true rfl) (c107 R  e20)) ?_
    intro h22 R23 w24
    have w24 : rg q21 := w24
    show evx _ _ _ _ _ _ (.inl (iz q21) :: _) _ _ _
    by_cases cb25 : q21 ≤ x2
    · rw [if_pos cb25] at hs
      refine evx_F E105 D105_46 rfl (ifT (c2_ge_T rx2 w24 cb25)) ?_
      refine evx_F E105 D105_60 rfl rfl ?_
      refine evx_gfi (k := 6) E105 D105_61 F105_52 H45 rfl R23 ?_
      by_cases cb26 : (M 45 6) = 0
      · rw [if_pos cb26] at hs
        refine evx_F E105 D105_64 rfl (ifT (c1_eq_T (R23.1 45 6) cb26)) ?_
        refine evx_F E105 D105_70 rfl rfl ?_
        refine evx_gfi (k := 7) E105 D105_71 F105_56 H45 rfl R23 ?_
        by_cases cb27 : (M 45 7) = 0
        · rw [if_pos cb27] at hs
          refine evx_F E105 D105_74 rfl (ifT (c1_eq_T (R23.1 45 7) cb27)) ?_
          refine evx_F E105 D105_80 rfl rfl ?_
          refine evx_gfi (k := 8) E105 D105_81 F105_59 H45 rfl R23 ?_
          by_cases cb28 : (M 45 8) = 0
          · rw [if_pos cb28] at hs
            refine evx_F E105 D105_84 rfl (ifT (c1_eq_T (R23.1 45 8) cb28)) ?_
            refine evx_F E105 D105_92 rfl rfl ?_
            cases hs
            exact evx_ret E105 D105_93 rfl (fun d => rfl) rfl (show rg _ from (by decide)) R23
          · rw [if_neg cb28] at hs
            refine evx_F E105 D105_84 rfl (ifF (c1_eq_F (R23.1 45 8) (by omega))) ?_
            refine evx_k (k := -4) E105 D105_87 rfl (by decide) ?_
            refine evx_F E105 D105_89 rfl rfl ?_
            cases hs
            exact evx_ret E105 D105_93 rfl (fun d => rfl) rfl (show rg _ from (by decide)) R23
        · rw [if_neg cb27] at hs
          refine evx_F E105 D105_74 rfl (ifF (c1_eq_F (R23.1 45 7) (by omega))) ?_
          refine evx_k (k := -3) E105 D105_77 rfl (by decide) ?_
          cases hs
          exact evx_ret E105 D105_79 rfl (fun d => rfl) rfl (show rg _ from (by decide)) R23
      · rw [if_neg cb26] at hs
        refine evx_F E105 D105_64 rfl (ifF (c1_eq_F (R23.1 45 6) (by omega))) ?_
        refine evx_k (k := -2) E105 D105_67 rfl (by decide) ?_
        cases hs
        exact evx_ret E105 D105_69 rfl (fun d => rfl) rfl (show rg _ from (by decide)) R23
    · rw [if_neg cb25] at hs
      refine evx_F E105 D105_46 rfl (ifF (c2_ge_F rx2 w24 (by omega))) ?_
      refine evx_F E105 D105_49 rfl rfl ?_
      refine evx_F E105 D105_50 rfl rfl ?_
      obtain ⟨⟨q30, M34⟩, e29, hs⟩ := Option.bind_eq_some_iff.mp hs
      dsimp only at hs
      refine evx_cv (D := 5) E105 D105_51 I105_65 rfl rfl H45 ⟨Nat.le_of_ble_eq_true rfl, Nat.le_of_ble_eq_true rfl⟩ ⟨rfl, Nat.le_of_ble_eq_true rfl⟩ rfl R23 (evx_up (Nat.le_of_ble_eq_true rfl) (c108 R23 rx2 e29)) ?_
      intro h31 R32 w33
      refine evx_inc E105 D105_54 (Nat.le_of_ble_eq_true rfl) rfl ?_
      refine evx_F E105 D105_57 rfl rfl ?_
      obtain ⟨k35, hs⟩ := ck hs
      show evx _ _ _ _ _ [(2, .inl (iz (x2 + 1))), (0, .inr (.inr (.inl (some 45)))), (1, .inl (iz x1))] _ _ _ _
      exact evx_lv (lvLe_mk (fm rfl (fm rfl (fm rfl fn))) (fm rfl (fm rfl (fm rfl fn))) (fm rfl (fm rfl (fm rfl fn)))) (ih _ _ _ _ _ _ hs R32 rx1 k35)
def f105 (M : Mm) (x1 : Int) : Option (Int × Mm) := (f106 M).bind (fun q2 => (f99_46 M 0 q2 0).bind (fun zq7 => l105 FU 38 (up (up (up (up zq7.2 45 5 x1) 45 6 0) 45 7 0) 45 8 0) x1 0))
theorem c105 {L : Nat} {xs : Nat → Int32} {h : mvH} {M : Mm} {x1 : Int} {v : Int} {M' : Mm} (R : rp h M) (rx1 : rg x1) (hs : f105 M x1 = some (v, M')) : evx L xs 6 105 0 [(0, .inr (.inr (.inl (some 45)))), (1, .inl (iz x1))] [] h (.inl (some (.inl v)), 0) M' := by
  unfold f105 at hs
  refine evx_F E105 D105_0 rfl rfl ?_
  refine evx_gfr E105 D105_1 F105_11 H45 rfl R ?_
  refine evx_F E105 D105_4 rfl rfl ?_
  refine evx_F E105 D105_5 rfl rfl ?_
  refine evx_gfr E105 D105_6 F105_35 H45 rfl R ?_
  obtain ⟨q2, e1, hs⟩ := Option.bind_eq_some_iff.mp hs
  refine evx_cv (D := 5) E105 D105_9 I105_38 rfl rfl H25 ⟨Nat.le_of_ble_eq_true rfl, Nat.le_of_ble_eq_true rfl⟩ ⟨rfl, Nat.le_of_ble_eq_true rfl⟩ rfl R (evx_up (Nat.le_of_ble_eq_true rfl) (c106 R  e1)) ?_
  intro h3 R4 w5
  have w5 : rg q2 := w5
  show evx _ _ _ _ _ _ (.inl (iz q2) :: _) _ _ _
  refine evx_F E105 D105_12 rfl rfl ?_
  obtain ⟨⟨q7, M11⟩, e6, hs⟩ := Option.bind_eq_some_iff.mp hs
  dsimp only at hs
  refine evx_cs (D := 5) E105 D105_13 I105_42 rfl rfl (Nat.le_of_ble_eq_true rfl) ⟨rfl, Nat.le_of_ble_eq_true rfl⟩ rfl (evx_up (Nat.le_of_ble_eq_true rfl) (c99_46 R4 (by decide) w5 (by decide) e6)) ?_
  intro h8 R9 w10
  refine evx_F E105 D105_16 rfl rfl ?_
  refine evx_F E105 D105_17 rfl rfl ?_
  refine evx_pfi (k := 5) E105 D105_18 F105_48 H45 rfl R9 rx1 rfl ?_
  intro h12 R13
  refine evx_F E105 D105_21 rfl rfl ?_
  refine evx_F E105 D105_22 rfl rfl ?_
  refine evx_pfi (k := 6) E105 D105_23 F105_52 H45 rfl R13 (by decide) rfl ?_
  intro h14 R15
  refine evx_F E105 D105_26 rfl rfl ?_
  refine evx_F E105 D105_27 rfl rfl ?_
  refine evx_pfi (k := 7) E105 D105_28 F105_56 H45 rfl R15 (by decide) rfl ?_
  intro h16 R17
  refine evx_F E105 D105_31 rfl rfl ?_
  refine evx_F E105 D105_32 rfl rfl ?_
  refine evx_pfi (k := 8) E105 D105_33 F105_59 H45 rfl R17 (by decide) rfl ?_
  intro h18 R19
  refine evx_F E105 D105_36 rfl rfl ?_
  refine evx_F E105 D105_37 rfl rfl ?_
  show evx _ _ _ _ _ [(2, .inl (iz 0)), (0, .inr (.inr (.inl (some 45)))), (1, .inl (iz x1))] _ _ _ _
  exact evx_lv (lvLe_mk (fm rfl (fm rfl (fm rfl fn))) (fm rfl (fm rfl (fm rfl fn))) (fm rfl (fm rfl (fm rfl fn)))) ((d105 FU) _ _ _ _ _ _ hs R19 rx1 (by decide))
set_option maxRecDepth 20000 in
theorem E151 : pgMm 151 = some (⟨"DictionaryHouse$Machine", "perform", "(II)I"⟩, prog_9_method_4_code, 4, (some .int), []) := rfl
theorem D151_0 : pgDecT 151 0 = some (.aload_n 0, 1) := by decide +kernel
theorem D151_1 : pgDecT 151 1 = some (.getfield 12, 3) := by decide +kernel
theorem F151_12 : pgFf 151 12 = some (7, 4, 3) := by decide +kernel
theorem D151_4 : pgDecT 151 4 = some (.invokevirtual 45, 3) := by decide +kernel
theorem I151_45 : pgIi 151 45 = some (152, 0, 6) := by decide +kernel
theorem D151_7 : pgDecT 151 7 = some (.aload_n 0, 1) := by decide +kernel
theorem D151_8 : pgDecT 151 8 = some (.iconst 0, 1) := by decide +kernel
theorem D151_9 : pgDecT 151 9 = some (.putfield 48, 3) := by decide +kernel
theorem F151_48 : pgFf 151 48 = some (7, 6, 0) := by decide +kernel
theorem D151_12 : pgDecT 151 12 = some (.aload_n 0, 1) := by decide +kernel
theorem D151_13 : pgDecT 151 13 = some (.iconst 0, 1) := by decide +kernel
theorem D151_14 : pgDecT 151 14 = some (.putfield 51, 3) := by decide +kernel
theorem F151_51 : pgFf 151 51 = some (7, 7, 0) := by decide +kernel
theorem D151_17 : pgDecT 151 17 = some (.aload_n 0, 1) := by decide +kernel
theorem D151_18 : pgDecT 151 18 = some (.iload_n 2, 1) := by decide +kernel
theorem D151_19 : pgDecT 151 19 = some (.putfield 54, 3) := by decide +kernel
theorem F151_54 : pgFf 151 54 = some (7, 8, 0) := by decide +kernel
theorem D151_22 : pgDecT 151 22 = some (.aload_n 0, 1) := by decide +kernel
theorem D151_23 : pgDecT 151 23 = some (.iconst 0, 1) := by decide +kernel
theorem D151_24 : pgDecT 151 24 = some (.putfield 57, 3) := by decide +kernel
theorem F151_57 : pgFf 151 57 = some (7, 9, 1) := by decide +kernel
theorem D151_27 : pgDecT 151 27 = some (.aload_n 0, 1) := by decide +kernel
theorem D151_28 : pgDecT 151 28 = some (.aload_n 0, 1) := by decide +kernel
theorem D151_29 : pgDecT 151 29 = some (.getfield 37, 3) := by decide +kernel
theorem F151_37 : pgFf 151 37 = some (7, 2, 3) := by decide +kernel
theorem D151_32 : pgDecT 151 32 = some (.iload_n 1, 1) := by decide +kernel
theorem D151_33 : pgDecT 151 33 = some (.invokevirtual 61, 3) := by decide +kernel
theorem I151_61 : pgIi 151 61 = some (153, 1, 3) := by decide +kernel
theorem D151_36 : pgDecT 151 36 = some (.iload_n 1, 1) := by decide +kernel
theorem D151_37 : pgDecT 151 37 = some (.invokestatic 67, 3) := by decide +kernel
theorem I151_67 : pgIi 151 67 = some (142, 1, 100) := by decide +kernel
theorem D151_40 : pgDecT 151 40 = some (.aload_n 0, 1) := by decide +kernel
theorem D151_41 : pgDecT 151 41 = some (.getfield 12, 3) := by decide +kernel
theorem D151_44 : pgDecT 151 44 = some (.invokevirtual 72, 3) := by decide +kernel
theorem I151_72 : pgIi 151 72 = some (154, 0, 6) := by decide +kernel
theorem D151_47 : pgDecT 151 47 = some (.invokevirtual 76, 3) := by decide +kernel
theorem I151_76 : pgIi 151 76 = some (155, 3, 7) := by decide +kernel
theorem D151_50 : pgDecT 151 50 = some (.iconst 0, 1) := by decide +kernel
theorem D151_51 : pgDecT 151 51 = some (.istore_n 3, 1) := by decide +kernel
theorem D151_52 : pgDecT 151 52 = some (.iload_n 3, 1) := by decide +kernel
theorem D151_53 : pgDecT 151 53 = some (.sipush 1208, 3) := by decide +kernel
theorem D151_56 : pgDecT 151 56 = some (.if_icmp .ge 35, 3) := by decide +kernel
theorem D151_91 : pgDecT 151 91 = some (.aload_n 0, 1) := by decide +kernel
theorem D151_92 : pgDecT 151 92 = some (.getfield 57, 3) := by decide +kernel
theorem D151_95 : pgDecT 151 95 = some (.ifCond .ne 18, 3) := by decide +kernel
theorem D151_113 : pgDecT 151 113 = some (.iconst (-1), 1) := by decide +kernel
theorem D151_114 : pgDecT 151 114 = some (.ireturn, 1) := by decide +kernel
theorem D151_98 : pgDecT 151 98 = some (.aload_n 0, 1) := by decide +kernel
theorem D151_99 : pgDecT 151 99 = some (.getfield 84, 3) := by decide +kernel
theorem F151_84 : pgFf 151 84 = some (7, 10, 0) := by decide +kernel
theorem D151_102 : pgDecT 151 102 = some (.iconst (-1), 1) := by decide +kernel
theorem D151_103 : pgDecT 151 103 = some (.if_icmp .ne 10, 3) := by decide +kernel
theorem D151_106 : pgDecT 151 106 = some (.aload_n 0, 1) := by decide +kernel
theorem D151_107 : pgDecT 151 107 = some (.getfield 48, 3) := by decide +kernel
theorem D151_110 : pgDecT 151 110 = some (.ifCond .le 5, 3) := by decide +kernel
theorem D151_115 : pgDecT 151 115 = some (.aload_n 0, 1) := by decide +kernel
theorem D151_116 : pgDecT 151 116 = some (.invokevirtual 93, 3) := by decide +kernel
theorem I151_93 : pgIi 151 93 = some (182, 0, 7) := by decide +kernel
theorem D151_119 : pgDecT 151 119 = some (.aload_n 0, 1) := by decide +kernel
theorem D151_120 : pgDecT 151 120 = some (.getfield 51, 3) := by decide +kernel
theorem D151_123 : pgDecT 151 123 = some (.ireturn, 1) := by decide +kernel
theorem D151_59 : pgDecT 151 59 = some (.aload_n 0, 1) := by decide +kernel
theorem D151_60 : pgDecT 151 60 = some (.invokevirtual 80, 3) := by decide +kernel
theorem I151_80 : pgIi 151 80 = some (156, 0, 7) := by decide +kernel
theorem D151_63 : pgDecT 151 63 = some (.ifCond .eq 28, 3) := by decide +kernel
theorem D151_66 : pgDecT 151 66 = some (.aload_n 0, 1) := by decide +kernel
theorem D151_67 : pgDecT 151 67 = some (.getfield 84, 3) := by decide +kernel
theorem D151_70 : pgDecT 151 70 = some (.iconst (-1), 1) := by decide +kernel
theorem D151_71 : pgDecT 151 71 = some (.if_icmp .eq 10, 3) := by decide +kernel
theorem D151_81 : pgDecT 151 81 = some (.aload_n 0, 1) := by decide +kernel
theorem D151_82 : pgDecT 151 82 = some (.invokevirtual 90, 3) := by decide +kernel
theorem I151_90 : pgIi 151 90 = some (174, 0, 7) := by decide +kernel
theorem D151_85 : pgDecT 151 85 = some (.iinc 3 1, 3) := by decide +kernel
theorem D151_88 : pgDecT 151 88 = some (.goto (-36), 3) := by decide +kernel
theorem D151_74 : pgDecT 151 74 = some (.aload_n 0, 1) := by decide +kernel
theorem D151_75 : pgDecT 151 75 = some (.invokevirtual 87, 3) := by decide +kernel
theorem I151_87 : pgIi 151 87 = some (158, 0, 7) := by decide +kernel
theorem D151_78 : pgDecT 151 78 = some (.goto 7, 3) := by decide +kernel
/-! 151: DictionaryHouse$Machine.perform (II)I -/
def l151 : Nat → Nat → Mm → Int → Int → Int → Option (Int × Mm)
  | 0, _, _, _, _, _ => none
  | f + 1, 52, M, x1, x2, x3 => if 1208 ≤ x3 then (if ¬ (M 47 9) = 0 then (some ((-1), M)) else (if ¬ (M 47 10) = (-1) then (some ((-1), M)) else (if (M 47 6) ≤ 0 then (f182 M).bind (fun zq42 => some ((zq42.2 47 7), zq42.2)) else (some ((-1), M))))) else (f156 M).bind (fun q48 => if q48 = 0 then (if ¬ (M 47 9) = 0 then (some ((-1), M)) else (if ¬ (M 47 10) = (-1) then (some ((-1), M)) else (if (M 47 6) ≤ 0 then (f182 M).bind (fun zq57 => some ((zq57.2 47 7), zq57.2)) else (some ((-1), M))))) else (if (M 47 10) = (-1) then (f174 M).bind (fun zq64 => if rg (x3 + 1) then (l151 f 52 zq64.2 x1 x2 (x3 + 1)) else none) else (f158 M).bind (fun zq71 => if rg (x3 + 1) then (l151 f 52 zq71.2 x1 x2 (x3 + 1)) else none)))
  | _, _, _, _, _, _ => none
theorem d151 {L : Nat} {xs : Nat → Int32} (f : Nat) : (∀ (M : Mm) (x1 x2 x3 : Int) (h : mvH) (v : Int) (M' : Mm), l151 f 52 M x1 x2 x3 = some (v, M') → rp h M → rg x1 → rg x2 → rg x3 → evx L xs 7 151 52 [(0, .inr (.inr (.inl (some 47)))), (1, .inl (iz x1)), (2, .inl (iz x2)), (3, .inl (iz x3))] [] h (.inl (some (.inl v)), 0) M') := by
  induction f with
  | zero => exact (fun M x1 x2 x3 h v M' hs _ _ _ _ => by cases hs)
  | succ f ih =>
    intro M x1 x2 x3 h v M' hs R rx1 rx2 rx3
    rw [l151] at hs
    refine evx_F E151 D151_52 rfl rfl ?_
    refine evx_k (k := 1208) E151 D151_53 rfl (by decide) ?_
    by_cases cb37 : 1208 ≤ x3
    · rw [if_pos cb37] at hs
      refine evx_F E151 D151_56 rfl (ifT (c2_ge_T rx3 (by decide) cb37)) ?_
      refine evx_F E151 D151_91 rfl rfl ?_
      refine evx_gfi (k := 9) E151 D151_92 F151_57 H47 rfl R ?_
      by_cases cb38 : ¬ (M 47 9) = 0
      · rw [if_pos cb38] at hs
        refine evx_F E151 D151_95 rfl (ifT (c1_ne_T (R.1 47 9) cb38)) ?_
        refine evx_F E151 D151_113 rfl rfl ?_
        cases hs
        exact evx_ret E151 D151_114 rfl (fun d => rfl) rfl (show rg _ from (by decide)) R
      · rw [if_neg cb38] at hs
        refine evx_F E151 D151_95 rfl (ifF (c1_ne_F (R.1 47 9) (by omega))) ?_
        refine evx_F E151 D151_98 rfl rfl ?_
        refine evx_gfi (k := 10) E151 D151_99 F151_84 H47 rfl R ?_
        refine evx_F E151 D151_102 rfl rfl ?_
        by_cases cb39 : ¬ (M 47 10) = (-1)
        · rw [if_pos cb39] at hs
          refine evx_F E151 D151_103 rfl (ifT (c2_ne_T (R.1 47 10) (by decide) cb39)) ?_
          refine evx_F E151 D151_113 rfl rfl ?_
          cases hs
          exact evx_ret E151 D151_114 rfl (fun d => rfl) rfl (show rg _ from (by decide)) R
        · rw [if_neg cb39] at hs
          refine evx_F E151 D151_103 rfl (ifF (c2_ne_F (R.1 47 10) (by decide) (by omega))) ?_
          refine evx_F E151 D151_106 rfl rfl ?_
          refine evx_gfi (k := 6) E151 D151_107 F151_48 H47 rfl R ?_
          by_cases cb40 : (M 47 6) ≤ 0
          · rw [if_pos cb40] at hs
            refine evx_F E151 D151_110 rfl (ifT (c1_le_T (R.1 47 6) cb40)) ?_
            refine evx_F E151 D151_115 rfl rfl ?_
            obtain ⟨⟨q42, M46⟩, e41, hs⟩ := Option.bind_eq_some_iff.mp hs
            dsimp only at hs
            refine evx_cv (D := 6) E151 D151_116 I151_93 rfl rfl H47 ⟨Nat.le_of_ble_eq_true rfl, Nat.le_of_ble_eq_true rfl⟩ ⟨rfl, Nat.le_of_ble_eq_true rfl⟩ rfl R (evx_up (Nat.le_of_ble_eq_true rfl) (c182 R  e41)) ?_
            intro h43 R44 w45
            refine evx_F E151 D151_119 rfl rfl ?_
            refine evx_gfi (k := 7) E151 D151_120 F151_51 H47 rfl R44 ?_
            cases hs
            exact evx_ret E151 D151_123 rfl (fun d => rfl) rfl (show rg _ from (R44.1 47 7)) R44
          · rw [if_neg cb40] at hs
            refine evx_F E151 D151_110 rfl (ifF (c1_le_F (R.1 47 6) (by omega))) ?_
            refine evx_F E151 D151_113 rfl rfl ?_
            cases hs
            exact evx_ret E151 D151_114 rfl (fun d => rfl) rfl (show rg _ from (by decide)) R
    · rw [if_neg cb37] at hs
      refine evx_F E151 D151_56 rfl (ifF (c2_ge_F rx3 (by decide) (by omega))) ?_
      refine evx_F E151 D151_59 rfl rfl ?_
      obtain ⟨q48, e47, hs⟩ := Option.bind_eq_some_iff.mp hs
      refine evx_cv (D := 6) E151 D151_60 I151_80 rfl rfl H47 ⟨Nat.le_of_ble_eq_true rfl, Nat.le_of_ble_eq_true rfl⟩ ⟨rfl, Nat.le_of_ble_eq_true rfl⟩ rfl R (evx_up (Nat.le_of_ble_eq_true rfl) (c156 R  e47)) ?_
      intro h49 R50 w51
      have w51 : rg q48 := w51
      show evx _ _ _ _ _ _ (.inl (iz q48) :: _) _ _ _
      by_cases cb52 : q48 = 0
      · rw [if_pos cb52] at hs
        refine evx_F E151 D151_63 rfl (ifT (c1_eq_T w51 cb52)) ?_
        refine evx_F E151 D151_91 rfl rfl ?_
        refine evx_gfi (k := 9) E151 D151_92 F151_57 H47 rfl R50 ?_
        by_cases cb53 : ¬ (M 47 9) = 0
        · rw [if_pos cb53] at hs
          refine evx_F E151 D151_95 rfl (ifT (c1_ne_T (R50.1 47 9) cb53)) ?_
          refine evx_F E151 D151_113 rfl rfl ?_
          cases hs
          exact evx_ret E151 D151_114 rfl (fun d => rfl) rfl (show rg _ from (by decide)) R50
        · rw [if_neg cb53] at hs
          refine evx_F E151 D151_95 rfl (ifF (c1_ne_F (R50.1 47 9) (by omega))) ?_
          refine evx_F E151 D151_98 rfl rfl ?_
          refine evx_gfi (k := 10) E151 D151_99 F151_84 H47 rfl R50 ?_
          refine evx_F E151 D151_102 rfl rfl ?_
          by_cases cb54 : ¬ (M 47 10) = (-1)
          · rw [if_pos cb54] at hs
            refine evx_F E151 D151_103 rfl (ifT (c2_ne_T (R50.1 47 10) (by decide) cb54)) ?_
            refine evx_F E151 D151_113 rfl rfl ?_
            cases hs
            exact evx_ret E151 D151_114 rfl (fun d => rfl) rfl (show rg _ from (by decide)) R50
          · rw [if_neg cb54] at hs
            refine evx_F E151 D151_103 rfl (ifF (c2_ne_F (R50.1 47 10) (by decide) (by omega))) ?_
            refine evx_F E151 D151_106 rfl rfl ?_
            refine evx_gfi (k := 6) E151 D151_107 F151_48 H47 rfl R50 ?_
            by_cases cb55 : (M 47 6) ≤ 0
            · rw [if_pos cb55] at hs
              refine evx_F E151 D151_110 rfl (ifT (c1_le_T (R50.1 47 6) cb55)) ?_
              refine evx_F E151 D151_115 rfl rfl ?_
              obtain ⟨⟨q57, M61⟩, e56, hs⟩ := Option.bind_eq_some_iff.mp hs
              dsimp only at hs
              refine evx_cv (D := 6) E151 D151_116 I151_93 rfl rfl H47 ⟨Nat.le_of_ble_eq_true rfl, Nat.le_of_ble_eq_true rfl⟩ ⟨rfl, Nat.le_of_ble_eq_true rfl⟩ rfl R50 (evx_up (Nat.le_of_ble_eq_true rfl) (c182 R50  e56)) ?_
              intro h58 R59 w60
              refine evx_F E151 D151_119 rfl rfl ?_
              refine evx_gfi (k := 7) E151 D151_120 F151_51 H47 rfl R59 ?_
              cases hs
              exact evx_ret E151 D151_123 rfl (fun d => rfl) rfl (show rg _ from (R59.1 47 7)) R59
            · rw [if_neg cb55] at hs
              refine evx_F E151 D151_110 rfl (ifF (c1_le_F (R50.1 47 6) (by omega))) ?_
              refine evx_F E151 D151_113 rfl rfl ?_
              cases hs
              exact evx_ret E151 D151_114 rfl (fun d => rfl) rfl (show rg _ from (by decide)) R50
      · rw [if_neg cb52] at hs
        refine evx_F E151 D151_63 rfl (ifF (c1_eq_F w51 (by omega))) ?_
        refine evx_F E151 D151_66 rfl rfl ?_
        refine evx_gfi (k := 10) E151 D151_67 F151_84 H47 rfl R50 ?_
        refine evx_F E151 D151_70 rfl rfl ?_
        by_cases cb62 : (M 47 10) = (-1)
        · rw [if_pos cb62] at hs
          refine evx_F E151 D151_71 rfl (ifT (c2_eq_T (R50.1 47 10) (by decide) cb62)) ?_
          refine evx_F E151 D151_81 rfl rfl ?_
          obtain ⟨⟨q64, M68⟩, e63, hs⟩ := Option.bind_eq_some_iff.mp hs
          dsimp only at hs
          refine evx_cv (D := 6) E151 D151_82 I151_90 rfl rfl H47 ⟨Nat.le_of_ble_eq_true rfl, Nat.le_of_ble_eq_true rfl⟩ ⟨rfl, Nat.le_of_ble_eq_true rfl⟩ rfl R50 (evx_up (Nat.le_of_ble_eq_true rfl) (c174 R50  e63)) ?_
          intro h65 R66 w67
          refine evx_inc E151 D151_85 (Nat.le_of_ble_eq_true rfl) rfl ?_
          refine evx_F E151 D151_88 rfl rfl ?_
          obtain ⟨k69, hs⟩ := ck hs
          show evx _ _ _ _ _ [(3, .inl (iz (x3 + 1))), (0, .inr (.inr (.inl (some 47)))), (1, .inl (iz x1)), (2, .inl (iz x2))] _ _ _ _
          exact evx_lv (lvLe_mk (fm rfl (fm rfl (fm rfl (fm rfl fn)))) (fm rfl (fm rfl (fm rfl (fm rfl fn)))) (fm rfl (fm rfl (fm rfl (fm rfl fn))))) (ih _ _ _ _ _ _ _ hs R66 rx1 rx2 k69)
        · rw [if_neg cb62] at hs
          refine evx_F E151 D151_71 rfl (ifF (c2_eq_F (R50.1 47 10) (by decide) (by omega))) ?_
          refine evx_F E151 D151_74 rfl rfl ?_
          obtain ⟨⟨q71, M75⟩, e70, hs⟩ := Option.bind_eq_some_iff.mp hs
          dsimp only at hs
          refine evx_cv (D := 6) E151 D151_75 I151_87 rfl rfl H47 ⟨Nat.le_of_ble_eq_true rfl, Nat.le_of_ble_eq_true rfl⟩ ⟨rfl, Nat.le_of_ble_eq_true rfl⟩ rfl R50 (evx_up (Nat.le_of_ble_eq_true rfl) (c158 R50  e70)) ?_
          intro h72 R73 w74
          refine evx_F E151 D151_78 rfl rfl ?_
          refine evx_inc E151 D151_85 (Nat.le_of_ble_eq_true rfl) rfl ?_
          refine evx_F E151 D151_88 rfl rfl ?_
          obtain ⟨k76, hs⟩ := ck hs
          show evx _ _ _ _ _ [(3, .inl (iz (x3 + 1))), (0, .inr (.inr (.inl (some 47)))), (1, .inl (iz x1)), (2, .inl (iz x2))] _ _ _ _
          exact evx_lv (lvLe_mk (fm rfl (fm rfl (fm rfl (fm rfl fn)))) (fm rfl (fm rfl (fm rfl (fm rfl fn)))) (fm rfl (fm rfl (fm rfl (fm rfl fn))))) (ih _ _ _ _ _ _ _ hs R73 rx1 rx2 k76)
def f151 (M : Mm) (x1 : Int) (x2 : Int) : Option (Int × Mm) := (f152 M).bind (fun zq2 => (f153 (up (up (up (up zq2.2 47 6 0) 47 7 0) 47 8 x2) 47 9 0) x1).bind (fun q16 => (f142 (up (up (up (up zq2.2 47 6 0) 47 7 0) 47 8 x2) 47 9 0) x1).bind (fun q21 => (f154 (up (up (up (up zq2.2 47 6 0) 47 7 0) 47 8 x2) 47 9 0)).bind (fun zq26 => (f155 zq26.2 q16 q21 zq26.1).bind (fun zq32 => l151 FU 52 zq32.2 x1 x2 0)))))
theorem c151 {L : Nat} {xs : Nat → Int32} {h : mvH} {M : Mm} {x1 x2 : Int} {v : Int} {M' : Mm} (R : rp h M) (rx1 : rg x1) (rx2 : rg x2) (hs : f151 M x1 x2 = some (v, M')) : evx L xs 7 151 0 [(0, .inr (.inr (.inl (some 47)))), (1, .inl (iz x1)), (2, .inl (iz x2))] [] h (.inl (some (.inl v)), 0) M' := by
  unfold f151 at hs
  refine evx_F E151 D151_0 rfl rfl ?_
  refine evx_gfr E151 D151_1 F151_12 H47 rfl R ?_
  obtain ⟨⟨q2, M6⟩, e1, hs⟩ := Option.bind_eq_some_iff.mp hs
  dsimp only at hs
  refine evx_cv (D := 6) E151 D151_4 I151_45 rfl rfl H48 ⟨Nat.le_of_ble_eq_true rfl, Nat.le_of_ble_eq_true rfl⟩ ⟨rfl, Nat.le_of_ble_eq_true rfl⟩ rfl R (evx_up (Nat.le_of_ble_eq_true rfl) (c152 R  e1)) ?_
  intro h3 R4 w5
  refine evx_F E151 D151_7 rfl rfl ?_
  refine evx_F E151 D151_8 rfl rfl ?_
  refine evx_pfi (k := 6) E151 D151_9 F151_48 H47 rfl R4 (by decide) rfl ?_
  intro h7 R8
  refine evx_F E151 D151_12 rfl rfl ?_
  refine evx_F E151 D151_13 rfl rfl ?_
  refine evx_pfi (k := 7) E151 D151_14 F151_51 H47 rfl R8 (by decide) rfl ?_
  intro h9 R10
  refine evx_F E151 D151_17 rfl rfl ?_
  refine evx_F E151 D151_18 rfl rfl ?_
  refine evx_pfi (k := 8) E151 D151_19 F151_54 H47 rfl R10 rx2 rfl ?_
  intro h11 R12
  refine evx_F E151 D151_22 rfl rfl ?_
  refine evx_F E151 D151_23 rfl rfl ?_
  refine evx_pfi (k := 9) E151 D151_24 F151_57 H47 rfl R12 (by decide) rfl ?_
  intro h13 R14
  refine evx_F E151 D151_27 rfl rfl ?_
  refine evx_F E151 D151_28 rfl rfl ?_
  refine evx_gfr E151 D151_29 F151_37 H47 rfl R14 ?_
  refine evx_F E151 D151_32 rfl rfl ?_
  obtain ⟨q16, e15, hs⟩ := Option.bind_eq_some_iff.mp hs
  refine evx_cv (D := 6) E151 D151_33 I151_61 rfl rfl H17 ⟨Nat.le_of_ble_eq_true rfl, Nat.le_of_ble_eq_true rfl⟩ ⟨rfl, Nat.le_of_ble_eq_true rfl⟩ rfl R14 (evx_up (Nat.le_of_ble_eq_true rfl) (c153 R14 rx1 e15)) ?_
  intro h17 R18 w19
  have w19 : rg q16 := w19
  show evx _ _ _ _ _ _ (.inl (iz q16) :: _) _ _ _
  refine evx_F E151 D151_36 rfl rfl ?_
  obtain ⟨q21, e20, hs⟩ := Option.bind_eq_some_iff.mp hs
  refine evx_cs (D := 6) E151 D151_37 I151_67 rfl rfl (Nat.le_of_ble_eq_true rfl) ⟨rfl, Nat.le_of_ble_eq_true rfl⟩ rfl (evx_up (Nat.le_of_ble_eq_true rfl) (c142 R18 rx1 e20)) ?_
  intro h22 R23 w24
  have w24 : rg q21 := w24
  show evx _ _ _ _ _ _ (.inl (iz q21) :: _) _ _ _
  refine evx_F E151 D151_40 rfl rfl ?_
  refine evx_gfr E151 D151_41 F151_12 H47 rfl R23 ?_
  obtain ⟨⟨q26, M30⟩, e25, hs⟩ := Option.bind_eq_some_iff.mp hs
  dsimp only at hs
  refine evx_cv (D := 6) E151 D151_44 I151_72 rfl rfl H48 ⟨Nat.le_of_ble_eq_true rfl, Nat.le_of_ble_eq_true rfl⟩ ⟨rfl, Nat.le_of_ble_eq_true rfl⟩ rfl R23 (evx_up (Nat.le_of_ble_eq_true rfl) (c154 R23  e25)) ?_
  intro h27 R28 w29
  have w29 : rg q26 := w29
  show evx _ _ _ _ _ _ (.inl (iz q26) :: _) _ _ _
  obtain ⟨⟨q32, M36⟩, e31, hs⟩ := Option.bind_eq_some_iff.mp hs
  dsimp only at hs
  refine evx_cv (D := 6) E151 D151_47 I151_76 rfl rfl H47 ⟨Nat.le_of_ble_eq_true rfl, Nat.le_of_ble_eq_true rfl⟩ ⟨rfl, Nat.le_of_ble_eq_true rfl⟩ rfl R28 (evx_up (Nat.le_of_ble_eq_true rfl) (c155 R28 w19 w24 w29 e31)) ?_
  intro h33 R34 w35
  refine evx_F E151 D151_50 rfl rfl ?_
  refine evx_F E151 D151_51 rfl rfl ?_
  show evx _ _ _ _ _ [(3, .inl (iz 0)), (0, .inr (.inr (.inl (some 47)))), (1, .inl (iz x1)), (2, .inl (iz x2))] _ _ _ _
  exact evx_lv (lvLe_mk (fm rfl (fm rfl (fm rfl (fm rfl fn)))) (fm rfl (fm rfl (fm rfl (fm rfl fn)))) (fm rfl (fm rfl (fm rfl (fm rfl fn))))) ((d151 FU) _ _ _ _ _ _ _ hs R34 rx1 rx2 (by decide))
set_option maxRecDepth 20000 in
theorem E141 : pgMm 141 = some (⟨"DictionaryHouse$Definitions", "add", "(II[II)I"⟩, prog_5_method_10_code, 5, (some .int), []) := rfl
theorem D141_0 : pgDecT 141 0 = some (.aload_n 0, 1) := by decide +kernel
theorem D141_1 : pgDecT 141 1 = some (.getfield 9, 3) := by decide +kernel
theorem F141_9 : pgFf 141 9 = some (3, 0, 3) := by decide +kernel
theorem D141_4 : pgDecT 141 4 = some (.aload_n 0, 1) := by decide +kernel
theorem D141_5 : pgDecT 141 5 = some (.getfield 24, 3) := by decide +kernel
theorem F141_24 : pgFf 141 24 = some (3, 4, 0) := by decide +kernel
theorem D141_8 : pgDecT 141 8 = some (.iload_n 1, 1) := by decide +kernel
theorem D141_9 : pgDecT 141 9 = some (.iastore, 1) := by decide +kernel
theorem D141_10 : pgDecT 141 10 = some (.aload_n 0, 1) := by decide +kernel
theorem D141_11 : pgDecT 141 11 = some (.getfield 15, 3) := by decide +kernel
theorem F141_15 : pgFf 141 15 = some (3, 1, 3) := by decide +kernel
theorem D141_14 : pgDecT 141 14 = some (.aload_n 0, 1) := by decide +kernel
theorem D141_15 : pgDecT 141 15 = some (.getfield 24, 3) := by decide +kernel
theorem D141_18 : pgDecT 141 18 = some (.iload_n 2, 1) := by decide +kernel
theorem D141_19 : pgDecT 141 19 = some (.iastore, 1) := by decide +kernel
theorem D141_20 : pgDecT 141 20 = some (.aload_n 0, 1) := by decide +kernel
theorem D141_21 : pgDecT 141 21 = some (.getfield 18, 3) := by decide +kernel
theorem F141_18 : pgFf 141 18 = some (3, 2, 3) := by decide +kernel
theorem D141_24 : pgDecT 141 24 = some (.aload_n 0, 1) := by decide +kernel
theorem D141_25 : pgDecT 141 25 = some (.getfield 24, 3) := by decide +kernel
theorem D141_28 : pgDecT 141 28 = some (.iload 4, 2) := by decide +kernel
theorem D141_30 : pgDecT 141 30 = some (.iastore, 1) := by decide +kernel
theorem D141_31 : pgDecT 141 31 = some (.aload_n 3, 1) := by decide +kernel
theorem D141_32 : pgDecT 141 32 = some (.iconst 0, 1) := by decide +kernel
theorem D141_33 : pgDecT 141 33 = some (.aload_n 0, 1) := by decide +kernel
theorem D141_34 : pgDecT 141 34 = some (.getfield 21, 3) := by decide +kernel
theorem F141_21 : pgFf 141 21 = some (3, 3, 3) := by decide +kernel
theorem D141_37 : pgDecT 141 37 = some (.aload_n 0, 1) := by decide +kernel
theorem D141_38 : pgDecT 141 38 = some (.getfield 24, 3) := by decide +kernel
theorem D141_41 : pgDecT 141 41 = some (.bipush 8, 2) := by decide +kernel
theorem D141_43 : pgDecT 141 43 = some (.imul, 1) := by decide +kernel
theorem D141_44 : pgDecT 141 44 = some (.iload 4, 2) := by decide +kernel
theorem D141_46 : pgDecT 141 46 = some (.invokestatic 31, 3) := by decide +kernel
theorem D141_49 : pgDecT 141 49 = some (.aload_n 0, 1) := by decide +kernel
theorem D141_50 : pgDecT 141 50 = some (.dup, 1) := by decide +kernel
theorem D141_51 : pgDecT 141 51 = some (.getfield 24, 3) := by decide +kernel
theorem D141_54 : pgDecT 141 54 = some (.dup_x1, 1) := by decide +kernel
theorem D141_55 : pgDecT 141 55 = some (.iconst 1, 1) := by decide +kernel
theorem D141_56 : pgDecT 141 56 = some (.iadd, 1) := by decide +kernel
theorem D141_57 : pgDecT 141 57 = some (.putfield 24, 3) := by decide +kernel
theorem D141_60 : pgDecT 141 60 = some (.ireturn, 1) := by decide +kernel
/-! 141_43: DictionaryHouse$Definitions.add (II[II)I -/
def f141_43 (M : Mm) (x1 : Int) (x2 : Int) (x4 : Int) : Option (Int × Mm) := if 0 ≤ (M 17 4) ∧ (M 17 4) < 20 then (if 0 ≤ ((M 17 4) * 8) then (if 0 ≤ x4 then (if 0 + x4 ≤ 8 then (if ((M 17 4) * 8) + x4 ≤ 160 then (if rg (((cpM (up (up (up M 18 (Int.toNat (M 17 4)) x1) 19 (Int.toNat (M 17 4)) x2) 20 (Int.toNat (M 17 4)) x4) 43 21 0 ((M 17 4) * 8) x4) 17 4) + 1) then (some (((cpM (up (up (up M 18 (Int.toNat (M 17 4)) x1) 19 (Int.toNat (M 17 4)) x2) 20 (Int.toNat (M 17 4)) x4) 43 21 0 ((M 17 4) * 8) x4) 17 4), (up (cpM (up (up (up M 18 (Int.toNat (M 17 4)) x1) 19 (Int.toNat (M 17 4)) x2) 20 (Int.toNat (M 17 4)) x4) 43 21 0 ((M 17 4) * 8) x4) 17 4 (((cpM (up (up (up M 18 (Int.toNat (M 17 4)) x1) 19 (Int.toNat (M 17 4)) x2) 20 (Int.toNat (M 17 4)) x4) 43 21 0 ((M 17 4) * 8) x4) 17 4) + 1)))) else none) else none) else none) else none) else none) else none
theorem c141_43 {L : Nat} {xs : Nat → Int32} {h : mvH} {M : Mm} {x1 x2 x4 : Int} {v : Int} {M' : Mm} (R : rp h M) (rx1 : rg x1) (rx2 : rg x2) (rx4 : rg x4) (hs : f141_43 M x1 x2 x4 = some (v, M')) : evx L xs 1 141 0 [(0, .inr (.inr (.inl (some 17)))), (1, .inl (iz x1)), (2, .inl (iz x2)), (3, .inr (.inr (.inl (some 43)))), (4, .inl (iz x4))] [] h (.inl (some (.inl v)), 0) M' := by
  unfold f141_43 at hs
  refine evx_F E141 D141_0 rfl rfl ?_
  refine evx_gfr E141 D141_1 F141_9 H17 rfl R ?_
  refine evx_F E141 D141_4 rfl rfl ?_
  refine evx_gfi (k := 4) E141 D141_5 F141_24 H17 rfl R ?_
  refine evx_F E141 D141_8 rfl rfl ?_
  obtain ⟨k1, hs⟩ := ck hs
  refine evx_ias E141 D141_9 H18 (by decide) R k1 rx1 ?_
  intro h2 R3
  refine evx_F E141 D141_10 rfl rfl ?_
  refine evx_gfr E141 D141_11 F141_15 H17 rfl R3 ?_
  refine evx_F E141 D141_14 rfl rfl ?_
  refine evx_gfi (k := 4) E141 D141_15 F141_24 H17 rfl R3 ?_
  show evx _ _ _ _ _ _ (.inl (iz (M 17 4)) :: _) _ _ _
  refine evx_F E141 D141_18 rfl rfl ?_
  refine evx_ias E141 D141_19 H19 (by decide) R3 k1 rx2 ?_
  intro h4 R5
  refine evx_F E141 D141_20 rfl rfl ?_
  refine evx_gfr E141 D141_21 F141_18 H17 rfl R5 ?_
  refine evx_F E141 D141_24 rfl rfl ?_
  refine evx_gfi (k := 4) E141 D141_25 F141_24 H17 rfl R5 ?_
  show evx _ _ _ _ _ _ (.inl (iz (M 17 4)) :: _) _ _ _
  refine evx_F E141 D141_28 rfl rfl ?_
  refine evx_ias E141 D141_30 H20 (by decide) R5 k1 rx4 ?_
  intro h6 R7
  refine evx_F E141 D141_31 rfl rfl ?_
  refine evx_F E141 D141_32 rfl rfl ?_
  refine evx_F E141 D141_33 rfl rfl ?_
  refine evx_gfr E141 D141_34 F141_21 H17 rfl R7 ?_
  refine evx_F E141 D141_37 rfl rfl ?_
  refine evx_gfi (k := 4) E141 D141_38 F141_24 H17 rfl R7 ?_
  show evx _ _ _ _ _ _ (.inl (iz (M 17 4)) :: _) _ _ _
  refine evx_k (k := 8) E141 D141_41 rfl (by decide) ?_
  refine evx_mul E141 D141_43 ?_
  refine evx_F E141 D141_44 rfl rfl ?_
  obtain ⟨k8, hs⟩ := ck hs
  obtain ⟨k9, hs⟩ := ck hs
  obtain ⟨k10, hs⟩ := ck hs
  obtain ⟨k11, hs⟩ := ck hs
  refine evx_cpy (D := 0) E141 D141_46 rfl rfl rfl rfl H43 H21 ⟨by decide, by decide⟩ (Nat.le_of_ble_eq_true rfl) R7 (by decide) k8 k9 k10 k11 ?_
  intro h12 R13
  refine evx_F E141 D141_49 rfl rfl ?_
  refine evx_F E141 D141_50 rfl rfl ?_
  refine evx_gfi (k := 4) E141 D141_51 F141_24 H17 rfl R13 ?_
  refine evx_F E141 D141_54 rfl rfl ?_
  refine evx_F E141 D141_55 rfl rfl ?_
  refine evx_add E141 D141_56 ?_
  obtain ⟨k14, hs⟩ := ck hs
  refine evx_pfi (k := 4) E141 D141_57 F141_24 H17 rfl R13 k14 rfl ?_
  intro h15 R16
  cases hs
  exact evx_ret E141 D141_60 rfl (fun d => rfl) rfl (show rg _ from (R13.1 17 4)) R16
set_option maxRecDepth 20000 in
theorem E36 : pgMm 36 = some (⟨"DictionaryHouseLaw", "number", "(LDictionaryHouse;I[J)I"⟩, method_7_code, 4, (some .int), [(0, 9, 12, 15)]) := rfl
theorem D36_0 : pgDecT 36 0 = some (.aload_n 2, 1) := by decide +kernel
theorem D36_1 : pgDecT 36 1 = some (.iconst 0, 1) := by decide +kernel
theorem D36_2 : pgDecT 36 2 = some (.aload_n 0, 1) := by decide +kernel
theorem D36_3 : pgDecT 36 3 = some (.iload_n 1, 1) := by decide +kernel
theorem D36_4 : pgDecT 36 4 = some (.invokevirtual 27, 3) := by decide +kernel
theorem I36_27 : pgIi 36 27 = some (37, 1, 11) := by decide +kernel
theorem D36_7 : pgDecT 36 7 = some (.i2l, 1) := by decide +kernel
theorem D36_8 : pgDecT 36 8 = some (.lastore, 1) := by decide +kernel
theorem D36_9 : pgDecT 36 9 = some (.goto 6, 3) := by decide +kernel
theorem D36_15 : pgDecT 36 15 = some (.iconst 0, 1) := by decide +kernel
theorem D36_16 : pgDecT 36 16 = some (.ireturn, 1) := by decide +kernel
theorem D36_13 : pgDecT 36 13 = some (.iconst 1, 1) := by decide +kernel
theorem D36_14 : pgDecT 36 14 = some (.ireturn, 1) := by decide +kernel
/-! 36_0_109: DictionaryHouseLaw.number (LDictionaryHouse;I[J)I -/
def f36_0_109 (M : Mm) (x1 : Int) : Option (Int × Mm) := (f37 M x1).bind (fun zq2 => if zq2.1 = 0 then (some (0, (up zq2.2.2 109 (Int.toNat 0) zq2.2.1))) else if zq2.1 = 1 then none else (some (1, zq2.2.2)))
theorem c36_0_109 {L : Nat} {xs : Nat → Int32} {h : mvH} {M : Mm} {x1 : Int} {v : Int} {M' : Mm} (R : rp h M) (rx1 : rg x1) (hs : f36_0_109 M x1 = some (v, M')) : evx L xs 11 36 0 [(0, .inr (.inr (.inl (some 0)))), (1, .inl (iz x1)), (2, .inr (.inr (.inl (some 109))))] [] h (ow v) M' := by
  unfold f36_0_109 at hs
  refine evx_F E36 D36_0 rfl rfl ?_
  refine evx_F E36 D36_1 rfl rfl ?_
  refine evx_F E36 D36_2 rfl rfl ?_
  refine evx_F E36 D36_3 rfl rfl ?_
  obtain ⟨⟨kq7, q2, M6⟩, e1, hs⟩ := Option.bind_eq_some_iff.mp hs
  dsimp only at hs
  have ge1 := c37 (L := L) (xs := xs) R rx1 e1
  by_cases cb8 : kq7 = 0
  · rw [if_pos cb8] at hs
    subst cb8
    refine evx_cv (D := 10) E36 D36_4 I36_27 rfl rfl H0 ⟨Nat.le_of_ble_eq_true rfl, Nat.le_of_ble_eq_true rfl⟩ ⟨rfl, Nat.le_of_ble_eq_true rfl⟩ rfl R (evx_up (Nat.le_of_ble_eq_true rfl) ge1) ?_
    intro h3 R4 w5
    have w5 : rg q2 := w5
    show evx _ _ _ _ _ _ (.inl (iz q2) :: _) _ _ _
    refine evx_F E36 D36_7 rfl rfl ?_
    refine evx_las E36 D36_8 H109 (by decide) R4 (by decide) w5 ?_
    intro h9 R10
    refine evx_F E36 D36_9 rfl rfl ?_
    refine evx_F E36 D36_15 rfl rfl ?_
    cases hs
    exact evx_ret E36 D36_16 rfl (fun d => rfl) rfl (show rg _ from (by decide)) R10
  · rw [if_neg cb8] at hs
    by_cases cb11 : kq7 = 1
    · rw [if_pos cb11] at hs
      cases hs
    · rw [if_neg cb11] at hs
      rw [ot_2 cb8 cb11] at ge1
      cases hs
      show evx _ _ _ _ _ _ _ _ (.inl (some (.inl 1)), 1 + 0) _
      refine evx_cat (n1 := 1) (n2 := 0) (D := 10) E36 D36_4 I36_27 rfl rfl H0 ⟨Nat.le_of_ble_eq_true rfl, Nat.le_of_ble_eq_true rfl⟩ ⟨rfl, Nat.le_of_ble_eq_true rfl⟩ rfl rfl R (evx_up (Nat.le_of_ble_eq_true rfl) ge1) ?_
      intro h12 R13
      show evx _ _ _ _ _ [(0, .inr (.inr (.inl (some 0)))), (1, .inl (iz x1)), (2, .inr (.inr (.inl (some 109))))] _ _ _ _
      refine evx_F E36 D36_13 rfl rfl ?_
      exact evx_ret E36 D36_14 rfl (fun d => rfl) rfl (show rg _ from (by decide)) R13
set_option maxRecDepth 20000 in
theorem E149 : pgMm 149 = some (⟨"DictionaryHouse", "run", "(II)I"⟩, prog_1_method_17_code, 3, (some .int), []) := rfl
theorem D149_0 : pgDecT 149 0 = some (.aload_n 0, 1) := by decide +kernel
theorem D149_1 : pgDecT 149 1 = some (.getfield 33, 3) := by decide +kernel
theorem F149_33 : pgFf 149 33 = some (11, 3, 3) := by decide +kernel
theorem D149_4 : pgDecT 149 4 = some (.iload_n 1, 1) := by decide +kernel
theorem D149_5 : pgDecT 149 5 = some (.invokevirtual 115, 3) := by decide +kernel
theorem I149_115 : pgIi 149 115 = some (56, 1, 3) := by decide +kernel
theorem D149_8 : pgDecT 149 8 = some (.ifCond .eq 19, 3) := by decide +kernel
theorem D149_27 : pgDecT 149 27 = some (.iconst 0, 1) := by decide +kernel
theorem D149_28 : pgDecT 149 28 = some (.invokestatic 67, 3) := by decide +kernel
theorem I149_67 : pgIi 149 67 = some (18, 1, 100) := by decide +kernel
theorem D149_11 : pgDecT 149 11 = some (.iload_n 2, 1) := by decide +kernel
theorem D149_12 : pgDecT 149 12 = some (.iconst 1, 1) := by decide +kernel
theorem D149_13 : pgDecT 149 13 = some (.if_icmp .lt 14, 3) := by decide +kernel
theorem D149_16 : pgDecT 149 16 = some (.iload_n 2, 1) := by decide +kernel
theorem D149_17 : pgDecT 149 17 = some (.sipush 300, 3) := by decide +kernel
theorem D149_20 : pgDecT 149 20 = some (.if_icmp .gt 7, 3) := by decide +kernel
theorem D149_23 : pgDecT 149 23 = some (.iconst 1, 1) := by decide +kernel
theorem D149_24 : pgDecT 149 24 = some (.goto 4, 3) := by decide +kernel
theorem D149_31 : pgDecT 149 31 = some (.aload_n 0, 1) := by decide +kernel
theorem D149_32 : pgDecT 149 32 = some (.getfield 33, 3) := by decide +kernel
theorem D149_35 : pgDecT 149 35 = some (.iload_n 1, 1) := by decide +kernel
theorem D149_36 : pgDecT 149 36 = some (.invokevirtual 142, 3) := by decide +kernel
theorem I149_142 : pgIi 149 142 = some (115, 1, 3) := by decide +kernel
theorem D149_39 : pgDecT 149 39 = some (.ifCond .ne 22, 3) := by decide +kernel
theorem D149_61 : pgDecT 149 61 = some (.iconst 0, 1) := by decide +kernel
theorem D149_62 : pgDecT 149 62 = some (.invokestatic 84, 3) := by decide +kernel
theorem I149_84 : pgIi 149 84 = some (21, 1, 100) := by decide +kernel
theorem D149_42 : pgDecT 149 42 = some (.aload_n 0, 1) := by decide +kernel
theorem D149_43 : pgDecT 149 43 = some (.aload_n 0, 1) := by decide +kernel
theorem D149_44 : pgDecT 149 44 = some (.getfield 33, 3) := by decide +kernel
theorem D149_47 : pgDecT 149 47 = some (.iload_n 1, 1) := by decide +kernel
theorem D149_48 : pgDecT 149 48 = some (.invokevirtual 145, 3) := by decide +kernel
theorem I149_145 : pgIi 149 145 = some (94, 1, 3) := by decide +kernel
theorem D149_51 : pgDecT 149 51 = some (.invokevirtual 154, 3) := by decide +kernel
theorem I149_154 : pgIi 149 154 = some (150, 1, 11) := by decide +kernel
theorem D149_54 : pgDecT 149 54 = some (.ifCond .eq 7, 3) := by decide +kernel
theorem D149_57 : pgDecT 149 57 = some (.iconst 1, 1) := by decide +kernel
theorem D149_58 : pgDecT 149 58 = some (.goto 4, 3) := by decide +kernel
theorem D149_65 : pgDecT 149 65 = some (.aload_n 0, 1) := by decide +kernel
theorem D149_66 : pgDecT 149 66 = some (.getfield 59, 3) := by decide +kernel
theorem F149_59 : pgFf 149 59 = some (11, 5, 3) := by decide +kernel
theorem D149_69 : pgDecT 149 69 = some (.iload_n 1, 1) := by decide +kernel
theorem D149_70 : pgDecT 149 70 = some (.iload_n 2, 1) := by decide +kernel
theorem D149_71 : pgDecT 149 71 = some (.invokevirtual 157, 3) := by decide +kernel
theorem I149_157 : pgIi 149 157 = some (151, 2, 7) := by decide +kernel
theorem D149_74 : pgDecT 149 74 = some (.ireturn, 1) := by decide +kernel
/-! 149: DictionaryHouse.run (II)I -/
def f149 (M : Mm) (x1 : Int) (x2 : Int) : Option (Int × Int × Mm) := (f56 M x1).bind (fun q2 => if q2 = 0 then (some (1, 0, M)) else (if x2 < 1 then (some (1, 0, M)) else (if 300 < x2 then (some (1, 0, M)) else (f115 M x1).bind (fun q14 => if ¬ q14 = 0 then (some (2, 0, M)) else (f94 M x1).bind (fun q21 => (f150 M q21).bind (fun q26 => if q26 = 0 then (some (2, 0, M)) else (f151 M x1 x2).bind (fun zq34 => some (0, zq34.1, zq34.2))))))))
theorem c149 {L : Nat} {xs : Nat → Int32} {h : mvH} {M : Mm} {x1 x2 : Int} {k v : Int} {M' : Mm} (R : rp h M) (rx1 : rg x1) (rx2 : rg x2) (hs : f149 M x1 x2 = some (k, v, M')) : evx L xs 9 149 0 [(0, .inr (.inr (.inl (some 0)))), (1, .inl (iz x1)), (2, .inl (iz x2))] [] h (ot k v) M' := by
  unfold f149 at hs
  refine evx_F E149 D149_0 rfl rfl ?_
  refine evx_gfr E149 D149_1 F149_33 H0 rfl R ?_
  refine evx_F E149 D149_4 rfl rfl ?_
  obtain ⟨q2, e1, hs⟩ := Option.bind_eq_some_iff.mp hs
  refine evx_cv (D := 8) E149 D149_5 I149_115 rfl rfl H17 ⟨Nat.le_of_ble_eq_true rfl, Nat.le_of_ble_eq_true rfl⟩ ⟨rfl, Nat.le_of_ble_eq_true rfl⟩ rfl R (evx_up (Nat.le_of_ble_eq_true rfl) (c56 R rx1 e1)) ?_
  intro h3 R4 w5
  have w5 : rg q2 := w5
  show evx _ _ _ _ _ _ (.inl (iz q2) :: _) _ _ _
  by_cases cb6 : q2 = 0
  · rw [if_pos cb6] at hs
    refine evx_F E149 D149_8 rfl (ifT (c1_eq_T w5 cb6)) ?_
    refine evx_F E149 D149_27 rfl rfl ?_
    cases hs
    exact evx_rqF (b := true) E149 D149_28 I149_67 (Nat.le_of_ble_eq_true rfl) rfl (Nat.le_of_ble_eq_true rfl) rfl rfl rfl R4
  · rw [if_neg cb6] at hs
    refine evx_F E149 D149_8 rfl (ifF (c1_eq_F w5 (by omega))) ?_
    refine evx_F E149 D149_11 rfl rfl ?_
    refine evx_F E149 D149_12 rfl rfl ?_
    by_cases cb8 : x2 < 1
    · rw [if_pos cb8] at hs
      refine evx_F E149 D149_13 rfl (ifT (c2_lt_T rx2 (by decide) cb8)) ?_
      refine evx_F E149 D149_27 rfl rfl ?_
      cases hs
      exact evx_rqF (b := true) E149 D149_28 I149_67 (Nat.le_of_ble_eq_true rfl) rfl (Nat.le_of_ble_eq_true rfl) rfl rfl rfl R4
    · rw [if_neg cb8] at hs
      refine evx_F E149 D149_13 rfl (ifF (c2_lt_F rx2 (by decide) (by omega))) ?_
      refine evx_F E149 D149_16 rfl rfl ?_
      refine evx_k (k := 300) E149 D149_17 rfl (by decide) ?_
      by_cases cb10 : 300 < x2
      · rw [if_pos cb10] at hs
        refine evx_F E149 D149_20 rfl (ifT (c2_gt_T rx2 (by decide) cb10)) ?_
        refine evx_F E149 D149_27 rfl rfl ?_
        cases hs
        exact evx_rqF (b := true) E149 D149_28 I149_67 (Nat.le_of_ble_eq_true rfl) rfl (Nat.le_of_ble_eq_true rfl) rfl rfl rfl R4
      · rw [if_neg cb10] at hs
        refine evx_F E149 D149_20 rfl (ifF (c2_gt_F rx2 (by decide) (by omega))) ?_
        refine evx_F E149 D149_23 rfl rfl ?_
        refine evx_F E149 D149_24 rfl rfl ?_
        refine evx_rqT (b := true) E149 D149_28 I149_67 (Nat.le_of_ble_eq_true rfl) rfl (Nat.le_of_ble_eq_true rfl) (by decide) (by decide) ?_
        refine evx_F E149 D149_31 rfl rfl ?_
        refine evx_gfr E149 D149_32 F149_33 H0 rfl R4 ?_
        refine evx_F E149 D149_35 rfl rfl ?_
        obtain ⟨q14, e13, hs⟩ := Option.bind_eq_some_iff.mp hs
        refine evx_cv (D := 8) E149 D149_36 I149_142 rfl rfl H17 ⟨Nat.le_of_ble_eq_true rfl, Nat.le_of_ble_eq_true rfl⟩ ⟨rfl, Nat.le_of_ble_eq_true rfl⟩ rfl R4 (evx_up (Nat.le_of_ble_eq_true rfl) (c115 R4 rx1 e13)) ?_
        intro h15 R16 w17
        have w17 : rg q14 := w17
        show evx _ _ _ _ _ _ (.inl (iz q14) :: _) _ _ _
        by_cases cb18 : ¬ q14 = 0
        · rw [if_pos cb18] at hs
          refine evx_F E149 D149_39 rfl (ifT (c1_ne_T w17 cb18)) ?_
          refine evx_F E149 D149_61 rfl rfl ?_
          cases hs
          exact evx_rqF (b := false) E149 D149_62 I149_84 (Nat.le_of_ble_eq_true rfl) rfl (Nat.le_of_ble_eq_true rfl) rfl rfl rfl R16
        · rw [if_neg cb18] at hs
          refine evx_F E149 D149_39 rfl (ifF (c1_ne_F w17 (by omega))) ?_
          refine evx_F E149 D149_42 rfl rfl ?_
          refine evx_F E149 D149_43 rfl rfl ?_
          refine evx_gfr E149 D149_44 F149_33 H0 rfl R16 ?_
          refine evx_F E149 D149_47 rfl rfl ?_
          obtain ⟨q21, e20, hs⟩ := Option.bind_eq_some_iff.mp hs
          refine evx_cv (D := 8) E149 D149_48 I149_145 rfl rfl H17 ⟨Nat.le_of_ble_eq_true rfl, Nat.le_of_ble_eq_true rfl⟩ ⟨rfl, Nat.le_of_ble_eq_true rfl⟩ rfl R16 (evx_up (Nat.le_of_ble_eq_true rfl) (c94 R16 rx1 e20)) ?_
          intro h22 R23 w24
          have w24 : rg q21 := w24
          show evx _ _ _ _ _ _ (.inl (iz q21) :: _) _ _ _
          obtain ⟨q26, e25, hs⟩ := Option.bind_eq_some_iff.mp hs
          refine evx_cv (D := 8) E149 D149_51 I149_154 rfl rfl H0 ⟨Nat.le_of_ble_eq_true rfl, Nat.le_of_ble_eq_true rfl⟩ ⟨rfl, Nat.le_of_ble_eq_true rfl⟩ rfl R23 (evx_up (Nat.le_of_ble_eq_true rfl) (c150 R23 w24 e25)) ?_
          intro h27 R28 w29
          have w29 : rg q26 := w29
          show evx _ _ _ _ _ _ (.inl (iz q26) :: _) _ _ _
          by_cases cb30 : q26 = 0
          · rw [if_pos cb30] at hs
            refine evx_F E149 D149_54 rfl (ifT (c1_eq_T w29 cb30)) ?_
            refine evx_F E149 D149_61 rfl rfl ?_
            cases hs
            exact evx_rqF (b := false) E149 D149_62 I149_84 (Nat.le_of_ble_eq_true rfl) rfl (Nat.le_of_ble_eq_true rfl) rfl rfl rfl R28
          · rw [if_neg cb30] at hs
            refine evx_F E149 D149_54 rfl (ifF (c1_eq_F w29 (by omega))) ?_
            refine evx_F E149 D149_57 rfl rfl ?_
            refine evx_F E149 D149_58 rfl rfl ?_
            refine evx_rqT (b := false) E149 D149_62 I149_84 (Nat.le_of_ble_eq_true rfl) rfl (Nat.le_of_ble_eq_true rfl) (by decide) (by decide) ?_
            refine evx_F E149 D149_65 rfl rfl ?_
            refine evx_gfr E149 D149_66 F149_59 H0 rfl R28 ?_
            refine evx_F E149 D149_69 rfl rfl ?_
            refine evx_F E149 D149_70 rfl rfl ?_
            obtain ⟨⟨q34, M38⟩, e33, hs⟩ := Option.bind_eq_some_iff.mp hs
            dsimp only at hs
            refine evx_cv (D := 8) E149 D149_71 I149_157 rfl rfl H47 ⟨Nat.le_of_ble_eq_true rfl, Nat.le_of_ble_eq_true rfl⟩ ⟨rfl, Nat.le_of_ble_eq_true rfl⟩ rfl R28 (evx_up (Nat.le_of_ble_eq_true rfl) (c151 R28 rx1 rx2 e33)) ?_
            intro h35 R36 w37
            have w37 : rg q34 := w37
            show evx _ _ _ _ _ _ (.inl (iz q34) :: _) _ _ _
            cases hs
            exact evx_ret E149 D149_74 rfl (fun d => rfl) rfl (show rg _ from w37) R36
set_option maxRecDepth 20000 in
theorem E42 : pgMm 42 = some (⟨"DictionaryHouseLaw", "primitive", "(LDictionaryHouse;I[J)I"⟩, method_8_code, 4, (some .int), [(0, 9, 12, 13), (0, 9, 15, 15)]) := rfl
theorem D42_0 : pgDecT 42 0 = some (.aload_n 2, 1) := by decide +kernel
theorem D42_1 : pgDecT 42 1 = some (.iconst 0, 1) := by decide +kernel
theorem D42_2 : pgDecT 42 2 = some (.aload_n 0, 1) := by decide +kernel
theorem D42_3 : pgDecT 42 3 = some (.iload_n 1, 1) := by decide +kernel
theorem D42_4 : pgDecT 42 4 = some (.invokevirtual 30, 3) := by decide +kernel
theorem I42_30 : pgIi 42 30 = some (43, 1, 11) := by decide +kernel
theorem D42_7 : pgDecT 42 7 = some (.i2l, 1) := by decide +kernel
theorem D42_8 : pgDecT 42 8 = some (.lastore, 1) := by decide +kernel
theorem D42_9 : pgDecT 42 9 = some (.goto 9, 3) := by decide +kernel
theorem D42_18 : pgDecT 42 18 = some (.iconst 0, 1) := by decide +kernel
theorem D42_19 : pgDecT 42 19 = some (.ireturn, 1) := by decide +kernel
theorem D42_13 : pgDecT 42 13 = some (.iconst 1, 1) := by decide +kernel
theorem D42_14 : pgDecT 42 14 = some (.ireturn, 1) := by decide +kernel
theorem D42_16 : pgDecT 42 16 = some (.iconst 2, 1) := by decide +kernel
theorem D42_17 : pgDecT 42 17 = some (.ireturn, 1) := by decide +kernel
/-! 42_0_109: DictionaryHouseLaw.primitive (LDictionaryHouse;I[J)I -/
def f42_0_109 (M : Mm) (x1 : Int) : Option (Int × Mm) := (f43 M x1).bind (fun zq2 => if zq2.1 = 0 then (some (0, (up zq2.2.2 109 (Int.toNat 0) zq2.2.1))) else if zq2.1 = 1 then (some (1, zq2.2.2)) else (some (2, zq2.2.2)))
theorem c42_0_109 {L : Nat} {xs : Nat → Int32} {h : mvH} {M : Mm} {x1 : Int} {v : Int} {M' : Mm} (R : rp h M) (rx1 : rg x1) (hs : f42_0_109 M x1 = some (v, M')) : evx L xs 11 42 0 [(0, .inr (.inr (.inl (some 0)))), (1, .inl (iz x1)), (2, .inr (.inr (.inl (some 109))))] [] h (ow v) M' := by
  unfold f42_0_109 at hs
  refine evx_F E42 D42_0 rfl rfl ?_
  refine evx_F E42 D42_1 rfl rfl ?_
  refine evx_F E42 D42_2 rfl rfl ?_
  refine evx_F E42 D42_3 rfl rfl ?_
  obtain ⟨⟨kq7, q2, M6⟩, e1, hs⟩ := Option.bind_eq_some_iff.mp hs
  dsimp only at hs
  have ge1 := c43 (L := L) (xs := xs) R rx1 e1
  by_cases cb8 : kq7 = 0
  · rw [if_pos cb8] at hs
    subst cb8
    refine evx_cv (D := 10) E42 D42_4 I42_30 rfl rfl H0 ⟨Nat.le_of_ble_eq_true rfl, Nat.le_of_ble_eq_true rfl⟩ ⟨rfl, Nat.le_of_ble_eq_true rfl⟩ rfl R (evx_up (Nat.le_of_ble_eq_true rfl) ge1) ?_
    intro h3 R4 w5
    have w5 : rg q2 := w5
    show evx _ _ _ _ _ _ (.inl (iz q2) :: _) _ _ _
    refine evx_F E42 D42_7 rfl rfl ?_
    refine evx_las E42 D42_8 H109 (by decide) R4 (by decide) w5 ?_
    intro h9 R10
    refine evx_F E42 D42_9 rfl rfl ?_
    refine evx_F E42 D42_18 rfl rfl ?_
    cases hs
    exact evx_ret E42 D42_19 rfl (fun d => rfl) rfl (show rg _ from (by decide)) R10
  · rw [if_neg cb8] at hs
    by_cases cb11 : kq7 = 1
    · rw [if_pos cb11] at hs
      rw [cb11, ot_1] at ge1
      cases hs
      show evx _ _ _ _ _ _ _ _ (.inl (some (.inl 1)), 1 + 0) _
      refine evx_cat (n1 := 1) (n2 := 0) (D := 10) E42 D42_4 I42_30 rfl rfl H0 ⟨Nat.le_of_ble_eq_true rfl, Nat.le_of_ble_eq_true rfl⟩ ⟨rfl, Nat.le_of_ble_eq_true rfl⟩ rfl rfl R (evx_up (Nat.le_of_ble_eq_true rfl) ge1) ?_
      intro h12 R13
      show evx _ _ _ _ _ [(0, .inr (.inr (.inl (some 0)))), (1, .inl (iz x1)), (2, .inr (.inr (.inl (some 109))))] _ _ _ _
      refine evx_F E42 D42_13 rfl rfl ?_
      exact evx_ret E42 D42_14 rfl (fun d => rfl) rfl (show rg _ from (by decide)) R13
    · rw [if_neg cb11] at hs
      rw [ot_2 cb8 cb11] at ge1
      cases hs
      show evx _ _ _ _ _ _ _ _ (.inl (some (.inl 2)), 1 + 0) _
      refine evx_cat (n1 := 1) (n2 := 0) (D := 10) E42 D42_4 I42_30 rfl rfl H0 ⟨Nat.le_of_ble_eq_true rfl, Nat.le_of_ble_eq_true rfl⟩ ⟨rfl, Nat.le_of_ble_eq_true rfl⟩ rfl rfl R (evx_up (Nat.le_of_ble_eq_true rfl) ge1) ?_
      intro h14 R15
      show evx _ _ _ _ _ [(0, .inr (.inr (.inl (some 0)))), (1, .inl (iz x1)), (2, .inr (.inr (.inl (some 109))))] _ _ _ _
      refine evx_F E42 D42_16 rfl rfl ?_
      exact evx_ret E42 D42_17 rfl (fun d => rfl) rfl (show rg _ from (by decide)) R15
/-! 99_23: java/util/Arrays.fill ([IIII)V -/
def l99_23 : Nat → Nat → Mm → Int → Int → Int → Int → Option (Int × Mm)
  | 0, _, _, _, _, _, _ => none
  | f + 1, 10, M, x1, x2, x3, x4 => if x2 ≤ x4 then (some (0, M)) else (if 0 ≤ x4 ∧ x4 < 35520 then (if rg (x4 + 1) then (l99_23 f 10 (up M 23 (Int.toNat x4) x3) x1 x2 x3 (x4 + 1)) else none) else none)
  | _, _, _, _, _, _, _ => none
theorem d99_23 {L : Nat} {xs : Nat → Int32} (f : Nat) : (∀ (M : Mm) (x1 x2 x3 x4 : Int) (h : mvH) (v : Int) (M' : Mm), l99_23 f 10 M x1 x2 x3 x4 = some (v, M') → rp h M → rg x1 → rg x2 → rg x3 → rg x4 → evx L xs 2 99 10 [(0, .inr (.inr (.inl (some 23)))), (1, .inl (iz x1)), (2, .inl (iz x2)), (3, .inl (iz x3)), (4, .inl (iz x4))] [] h (.inl none, 0) M') := by
  induction f with
  | zero => exact (fun M x1 x2 x3 x4 h v M' hs _ _ _ _ _ => by cases hs)
  | succ f ih =>
    intro M x1 x2 x3 x4 h v M' hs R rx1 rx2 rx3 rx4
    rw [l99_23] at hs
    refine evx_F E99 D99_10 rfl rfl ?_
    refine evx_F E99 D99_12 rfl rfl ?_
    by_cases cb7 : x2 ≤ x4
    · rw [if_pos cb7] at hs
      refine evx_F E99 D99_13 rfl (ifT (c2_ge_T rx4 rx2 cb7)) ?_
      cases hs
      exact evx_ret E99 D99_27 rfl (fun d => rfl) rfl trivial R
    · rw [if_neg cb7] at hs
      refine evx_F E99 D99_13 rfl (ifF (c2_ge_F rx4 rx2 (by omega))) ?_
      refine evx_F E99 D99_16 rfl rfl ?_
      refine evx_F E99 D99_17 rfl rfl ?_
      refine evx_F E99 D99_19 rfl rfl ?_
      obtain ⟨k8, hs⟩ := ck hs
      refine evx_ias E99 D99_20 H23 (by decide) R k8 rx3 ?_
      intro h9 R10
      refine evx_inc E99 D99_21 (Nat.le_of_ble_eq_true rfl) rfl ?_
      refine evx_F E99 D99_24 rfl rfl ?_
      obtain ⟨k11, hs⟩ := ck hs
      show evx _ _ _ _ _ [(4, .inl (iz (x4 + 1))), (0, .inr (.inr (.inl (some 23)))), (1, .inl (iz x1)), (2, .inl (iz x2)), (3, .inl (iz x3))] _ _ _ _
      exact evx_lv (lvLe_mk (fm rfl (fm rfl (fm rfl (fm rfl (fm rfl fn))))) (fm rfl (fm rfl (fm rfl (fm rfl (fm rfl fn))))) (fm rfl (fm rfl (fm rfl (fm rfl (fm rfl fn)))))) (ih _ _ _ _ _ _ _ _ hs R10 rx1 rx2 rx3 k11)
def f99_23 (M : Mm) (x1 : Int) (x2 : Int) (x3 : Int) : Option (Int × Mm) := (f100 M 35520 x1 x2).bind (fun zq2 => l99_23 FU 10 zq2.2 x1 x2 x3 x1)
theorem c99_23 {L : Nat} {xs : Nat → Int32} {h : mvH} {M : Mm} {x1 x2 x3 : Int} {v : Int} {M' : Mm} (R : rp h M) (rx1 : rg x1) (rx2 : rg x2) (rx3 : rg x3) (hs : f99_23 M x1 x2 x3 = some (v, M')) : evx L xs 2 99 0 [(0, .inr (.inr (.inl (some 23)))), (1, .inl (iz x1)), (2, .inl (iz x2)), (3, .inl (iz x3))] [] h (.inl none, 0) M' := by
  unfold f99_23 at hs
  refine evx_F E99 D99_0 rfl rfl ?_
  refine evx_len E99 D99_1 H23 (by decide) R ?_
  refine evx_F E99 D99_2 rfl rfl ?_
  refine evx_F E99 D99_3 rfl rfl ?_
  obtain ⟨⟨q2, M6⟩, e1, hs⟩ := Option.bind_eq_some_iff.mp hs
  dsimp only at hs
  refine evx_cs (D := 1) E99 D99_4 I99_13 rfl rfl (Nat.le_of_ble_eq_true rfl) ⟨rfl, Nat.le_of_ble_eq_true rfl⟩ rfl (evx_up (Nat.le_of_ble_eq_true rfl) (c100 R (by decide) rx1 rx2 e1)) ?_
  intro h3 R4 w5
  refine evx_F E99 D99_7 rfl rfl ?_
  refine evx_F E99 D99_8 rfl rfl ?_
  show evx _ _ _ _ _ [(4, .inl (iz x1)), (0, .inr (.inr (.inl (some 23)))), (1, .inl (iz x1)), (2, .inl (iz x2)), (3, .inl (iz x3))] _ _ _ _
  exact evx_lv (lvLe_mk (fm rfl (fm rfl (fm rfl (fm rfl (fm rfl fn))))) (fm rfl (fm rfl (fm rfl (fm rfl (fm rfl fn))))) (fm rfl (fm rfl (fm rfl (fm rfl (fm rfl fn)))))) ((d99_23 FU) _ _ _ _ _ _ _ _ hs R4 rx1 rx2 rx3 rx1)
set_option maxRecDepth 20000 in
theorem E44 : pgMm 44 = some (⟨"DictionaryHouseLaw", "local", "(LDictionaryHouse;I[J)I"⟩, method_9_code, 4, (some .int), [(0, 9, 12, 13), (0, 9, 15, 15)]) := rfl
theorem D44_0 : pgDecT 44 0 = some (.aload_n 2, 1) := by decide +kernel
theorem D44_1 : pgDecT 44 1 = some (.iconst 0, 1) := by decide +kernel
theorem D44_2 : pgDecT 44 2 = some (.aload_n 0, 1) := by decide +kernel
theorem D44_3 : pgDecT 44 3 = some (.iload_n 1, 1) := by decide +kernel
theorem D44_4 : pgDecT 44 4 = some (.invokevirtual 33, 3) := by decide +kernel
theorem I44_33 : pgIi 44 33 = some (45, 1, 11) := by decide +kernel
theorem D44_7 : pgDecT 44 7 = some (.i2l, 1) := by decide +kernel
theorem D44_8 : pgDecT 44 8 = some (.lastore, 1) := by decide +kernel
theorem D44_9 : pgDecT 44 9 = some (.goto 9, 3) := by decide +kernel
theorem D44_18 : pgDecT 44 18 = some (.iconst 0, 1) := by decide +kernel
theorem D44_19 : pgDecT 44 19 = some (.ireturn, 1) := by decide +kernel
theorem D44_13 : pgDecT 44 13 = some (.iconst 1, 1) := by decide +kernel
theorem D44_14 : pgDecT 44 14 = some (.ireturn, 1) := by decide +kernel
theorem D44_16 : pgDecT 44 16 = some (.iconst 2, 1) := by decide +kernel
theorem D44_17 : pgDecT 44 17 = some (.ireturn, 1) := by decide +kernel
/-! 44_0_109: DictionaryHouseLaw.local (LDictionaryHouse;I[J)I -/
def f44_0_109 (M : Mm) (x1 : Int) : Option (Int × Mm) := (f45 M x1).bind (fun zq2 => if zq2.1 = 0 then (some (0, (up zq2.2.2 109 (Int.toNat 0) zq2.2.1))) else if zq2.1 = 1 then (some (1, zq2.2.2)) else (some (2, zq2.2.2)))
theorem c44_0_109 {L : Nat} {xs : Nat → Int32} {h : mvH} {M : Mm} {x1 : Int} {v : Int} {M' : Mm} (R : rp h M) (rx1 : rg x1) (hs : f44_0_109 M x1 = some (v, M')) : evx L xs 11 44 0 [(0, .inr (.inr (.inl (some 0)))), (1, .inl (iz x1)), (2, .inr (.inr (.inl (some 109))))] [] h (ow v) M' := by
  unfold f44_0_109 at hs
  refine evx_F E44 D44_0 rfl rfl ?_
  refine evx_F E44 D44_1 rfl rfl ?_
  refine evx_F E44 D44_2 rfl rfl ?_
  refine evx_F E44 D44_3 rfl rfl ?_
  obtain ⟨⟨kq7, q2, M6⟩, e1, hs⟩ := Option.bind_eq_some_iff.mp hs
  dsimp only at hs
  have ge1 := c45 (L := L) (xs := xs) R rx1 e1
  by_cases cb8 : kq7 = 0
  · rw [if_pos cb8] at hs
    subst cb8
    refine evx_cv (D := 10) E44 D44_4 I44_33 rfl rfl H0 ⟨Nat.le_of_ble_eq_true rfl, Nat.le_of_ble_eq_true rfl⟩ ⟨rfl, Nat.le_of_ble_eq_true rfl⟩ rfl R (evx_up (Nat.le_of_ble_eq_true rfl) ge1) ?_
    intro h3 R4 w5
    have w5 : rg q2 := w5
    show evx _ _ _ _ _ _ (.inl (iz q2) :: _) _ _ _
    refine evx_F E44 D44_7 rfl rfl ?_
    refine evx_las E44 D44_8 H109 (by decide) R4 (by decide) w5 ?_
    intro h9 R10
    refine evx_F E44 D44_9 rfl rfl ?_
    refine evx_F E44 D44_18 rfl rfl ?_
    cases hs
    exact evx_ret E44 D44_19 rfl (fun d => rfl) rfl (show rg _ from (by decide)) R10
  · rw [if_neg cb8] at hs
    by_cases cb11 : kq7 = 1
    · rw [if_pos cb11] at hs
      rw [cb11, ot_1] at ge1
      cases hs
      show evx _ _ _ _ _ _ _ _ (.inl (some (.inl 1)), 1 + 0) _
      refine evx_cat (n1 := 1) (n2 := 0) (D := 10) E44 D44_4 I44_33 rfl rfl H0 ⟨Nat.le_of_ble_eq_true rfl, Nat.le_of_ble_eq_true rfl⟩ ⟨rfl, Nat.le_of_ble_eq_true rfl⟩ rfl rfl R (evx_up (Nat.le_of_ble_eq_true rfl) ge1) ?_
      intro h12 R13
      show evx _ _ _ _ _ [(0, .inr (.inr (.inl (some 0)))), (1, .inl (iz x1)), (2, .inr (.inr (.inl (some 109))))] _ _ _ _
      refine evx_F E44 D44_13 rfl rfl ?_
      exact evx_ret E44 D44_14 rfl (fun d => rfl) rfl (show rg _ from (by decide)) R13
    · rw [if_neg cb11] at hs
      rw [ot_2 cb8 cb11] at ge1
      cases hs
      show evx _ _ _ _ _ _ _ _ (.inl (some (.inl 2)), 1 + 0) _
      refine evx_cat (n1 := 1) (n2 := 0) (D := 10) E44 D44_4 I44_33 rfl rfl H0 ⟨Nat.le_of_ble_eq_true rfl, Nat.le_of_ble_eq_true rfl⟩ ⟨rfl, Nat.le_of_ble_eq_true rfl⟩ rfl rfl R (evx_up (Nat.le_of_ble_eq_true rfl) ge1) ?_
      intro h14 R15
      show evx _ _ _ _ _ [(0, .inr (.inr (.inl (some 0)))), (1, .inl (iz x1)), (2, .inr (.inr (.inl (some 109))))] _ _ _ _
      refine evx_F E44 D44_16 rfl rfl ?_
      exact evx_ret E44 D44_17 rfl (fun d => rfl) rfl (show rg _ from (by decide)) R15
set_option maxRecDepth 20000 in
theorem E122 : pgMm 122 = some (⟨"DictionaryHouse$Plans", "planFor", "(LDictionaryHouse$Graph;I)I"⟩, prog_10_method_8_code, 4, (some .int), []) := rfl
theorem D122_0 : pgDecT 122 0 = some (.aload_n 0, 1) := by decide +kernel
theorem D122_1 : pgDecT 122 1 = some (.iload_n 1, 1) := by decide +kernel
theorem D122_2 : pgDecT 122 2 = some (.invokevirtual 44, 3) := by decide +kernel
theorem I122_44 : pgIi 122 44 = some (80, 1, 5) := by decide +kernel
theorem D122_5 : pgDecT 122 5 = some (.istore_n 2, 1) := by decide +kernel
theorem D122_6 : pgDecT 122 6 = some (.iconst 0, 1) := by decide +kernel
theorem D122_7 : pgDecT 122 7 = some (.istore_n 3, 1) := by decide +kernel
theorem D122_8 : pgDecT 122 8 = some (.iload_n 3, 1) := by decide +kernel
theorem D122_9 : pgDecT 122 9 = some (.sipush 2504, 3) := by decide +kernel
theorem D122_12 : pgDecT 122 12 = some (.if_icmp .ge 24, 3) := by decide +kernel
theorem D122_36 : pgDecT 122 36 = some (.iload_n 3, 1) := by decide +kernel
theorem D122_37 : pgDecT 122 37 = some (.bipush 16, 2) := by decide +kernel
theorem D122_39 : pgDecT 122 39 = some (.imul, 1) := by decide +kernel
theorem D122_40 : pgDecT 122 40 = some (.aload_n 0, 1) := by decide +kernel
theorem D122_41 : pgDecT 122 41 = some (.iload_n 2, 1) := by decide +kernel
theorem D122_42 : pgDecT 122 42 = some (.invokevirtual 49, 3) := by decide +kernel
theorem I122_49 : pgIi 122 49 = some (111, 1, 5) := by decide +kernel
theorem D122_45 : pgDecT 122 45 = some (.aload_n 0, 1) := by decide +kernel
theorem D122_46 : pgDecT 122 46 = some (.iload_n 2, 1) := by decide +kernel
theorem D122_47 : pgDecT 122 47 = some (.invokevirtual 55, 3) := by decide +kernel
theorem I122_55 : pgIi 122 55 = some (114, 1, 5) := by decide +kernel
theorem D122_50 : pgDecT 122 50 = some (.invokestatic 58, 3) := by decide +kernel
theorem I122_58 : pgIi 122 58 = some (123, 2, 100) := by decide +kernel
theorem D122_53 : pgDecT 122 53 = some (.iadd, 1) := by decide +kernel
theorem D122_54 : pgDecT 122 54 = some (.ireturn, 1) := by decide +kernel
theorem D122_15 : pgDecT 122 15 = some (.aload_n 0, 1) := by decide +kernel
theorem D122_16 : pgDecT 122 16 = some (.iload_n 2, 1) := by decide +kernel
theorem D122_17 : pgDecT 122 17 = some (.invokevirtual 49, 3) := by decide +kernel
theorem D122_20 : pgDecT 122 20 = some (.iconst 3, 1) := by decide +kernel
theorem D122_21 : pgDecT 122 21 = some (.if_icmp .ne 15, 3) := by decide +kernel
theorem D122_24 : pgDecT 122 24 = some (.aload_n 0, 1) := by decide +kernel
theorem D122_25 : pgDecT 122 25 = some (.iload_n 2, 1) := by decide +kernel
theorem D122_26 : pgDecT 122 26 = some (.invokevirtual 52, 3) := by decide +kernel
theorem I122_52 : pgIi 122 52 = some (112, 1, 5) := by decide +kernel
theorem D122_29 : pgDecT 122 29 = some (.istore_n 2, 1) := by decide +kernel
theorem D122_30 : pgDecT 122 30 = some (.iinc 3 1, 3) := by decide +kernel
theorem D122_33 : pgDecT 122 33 = some (.goto (-25), 3) := by decide +kernel
/-! 122_25: DictionaryHouse$Plans.planFor (LDictionaryHouse$Graph;I)I -/
def l122_25 : Nat → Nat → Mm → Int → Int → Int → Option (Int × Mm)
  | 0, _, _, _, _, _ => none
  | f + 1, 8, M, x1, x2, x3 => if 2504 ≤ x3 then (f111 M x2).bind (fun q9 => (f114 M x2).bind (fun zq14 => (f123 zq14.2 q9 zq14.1).bind (fun q20 => if rg ((x3 * 16) + q20) then (some (((x3 * 16) + q20), zq14.2)) else none))) else (f111 M x2).bind (fun q26 => if ¬ q26 = 3 then (f111 M x2).bind (fun q32 => (f114 M x2).bind (fun zq37 => (f123 zq37.2 q32 zq37.1).bind (fun q43 => if rg ((x3 * 16) + q43) then (some (((x3 * 16) + q43), zq37.2)) else none))) else (f112 M x2).bind (fun zq49 => if rg (x3 + 1) then (l122_25 f 8 zq49.2 x1 zq49.1 (x3 + 1)) else none))
  | _, _, _, _, _, _ => none
theorem d122_25 {L : Nat} {xs : Nat → Int32} (f : Nat) : (∀ (M : Mm) (x1 x2 x3 : Int) (h : mvH) (v : Int) (M' : Mm), l122_25 f 8 M x1 x2 x3 = some (v, M') → rp h M → rg x1 → rg x2 → rg x3 → evx L xs 3 122 8 [(0, .inr (.inr (.inl (some 25)))), (1, .inl (iz x1)), (2, .inl (iz x2)), (3, .inl (iz x3))] [] h (.inl (some (.inl v)), 0) M') := by
  induction f with
  | zero => exact (fun M x1 x2 x3 h v M' hs _ _ _ _ => by cases hs)
  | succ f ih =>
    intro M x1 x2 x3 h v M' hs R rx1 rx2 rx3
    rw [l122_25] at hs
    refine evx_F E122 D122_8 rfl rfl ?_
    refine evx_k (k := 2504) E122 D122_9 rfl (by decide) ?_
    by_cases cb7 : 2504 ≤ x3
    · rw [if_pos cb7] at hs
      refine evx_F E122 D122_12 rfl (ifT (c2_ge_T rx3 (by decide) cb7)) ?_
      refine evx_F E122 D122_36 rfl rfl ?_
      refine evx_k (k := 16) E122 D122_37 rfl (by decide) ?_
      refine evx_mul E122 D122_39 ?_
      refine evx_F E122 D122_40 rfl rfl ?_
      refine evx_F E122 D122_41 rfl rfl ?_
      obtain ⟨q9, e8, hs⟩ := Option.bind_eq_some_iff.mp hs
      refine evx_cv (D := 2) E122 D122_42 I122_49 rfl rfl H25 ⟨Nat.le_of_ble_eq_true rfl, Nat.le_of_ble_eq_true rfl⟩ ⟨rfl, Nat.le_of_ble_eq_true rfl⟩ rfl R (evx_up (Nat.le_of_ble_eq_true rfl) (c111 R rx2 e8)) ?_
      intro h10 R11 w12
      have w12 : rg q9 := w12
      show evx _ _ _ _ _ _ (.inl (iz q9) :: _) _ _ _
      refine evx_F E122 D122_45 rfl rfl ?_
      refine evx_F E122 D122_46 rfl rfl ?_
      obtain ⟨⟨q14, M18⟩, e13, hs⟩ := Option.bind_eq_some_iff.mp hs
      dsimp only at hs
      refine evx_cv (D := 2) E122 D122_47 I122_55 rfl rfl H25 ⟨Nat.le_of_ble_eq_true rfl, Nat.le_of_ble_eq_true rfl⟩ ⟨rfl, Nat.le_of_ble_eq_true rfl⟩ rfl R11 (evx_up (Nat.le_of_ble_eq_true rfl) (c114 R11 rx2 e13)) ?_
      intro h15 R16 w17
      have w17 : rg q14 := w17
      show evx _ _ _ _ _ _ (.inl (iz q14) :: _) _ _ _
      obtain ⟨q20, e19, hs⟩ := Option.bind_eq_some_iff.mp hs
      refine evx_cs (D := 2) E122 D122_50 I122_58 rfl rfl (Nat.le_of_ble_eq_true rfl) ⟨rfl, Nat.le_of_ble_eq_true rfl⟩ rfl (evx_up (Nat.le_of_ble_eq_true rfl) (c123 R16 w12 w17 e19)) ?_
      intro h21 R22 w23
      have w23 : rg q20 := w23
      show evx _ _ _ _ _ _ (.inl (iz q20) :: _) _ _ _
      refine evx_add E122 D122_53 ?_
      obtain ⟨k24, hs⟩ := ck hs
      cases hs
      exact evx_ret E122 D122_54 rfl (fun d => rfl) rfl (show rg _ from k24) R22
    · rw [if_neg cb7] at hs
      refine evx_F E122 D122_12 rfl (ifF (c2_ge_F rx3 (by decide) (by omega))) ?_
      refine evx_F E122 D122_15 rfl rfl ?_
      refine evx_F E122 D122_16 rfl rfl ?_
      obtain ⟨q26, e25, hs⟩ := Option.bind_eq_some_iff.mp hs
      refine evx_cv (D := 2) E122 D122_17 I122_49 rfl rfl H25 ⟨Nat.le_of_ble_eq_true rfl, Nat.le_of_ble_eq_true rfl⟩ ⟨rfl, Nat.le_of_ble_eq_true rfl⟩ rfl R (evx_up (Nat.le_of_ble_eq_true rfl) (c111 R rx2 e25)) ?_
      intro h27 R28 w29
      have w29 : rg q26 := w29
      show evx _ _ _ _ _ _ (.inl (iz q26) :: _) _ _ _
      refine evx_F E122 D122_20 rfl rfl ?_
      by_cases cb30 : ¬ q26 = 3
      · rw [if_pos cb30] at hs
        refine evx_F E122 D122_21 rfl (ifT (c2_ne_T w29 (by decide) cb30)) ?_
        refine evx_F E122 D122_36 rfl rfl ?_
        refine evx_k (k := 16) E122 D122_37 rfl (by decide) ?_
        refine evx_mul E122 D122_39 ?_
        refine evx_F E122 D122_40 rfl rfl ?_
        refine evx_F E122 D122_41 rfl rfl ?_
        obtain ⟨q32, e31, hs⟩ := Option.bind_eq_some_iff.mp hs
        refine evx_cv (D := 2) E122 D122_42 I122_49 rfl rfl H25 ⟨Nat.le_of_ble_eq_true rfl, Nat.le_of_ble_eq_true rfl⟩ ⟨rfl, Nat.le_of_ble_eq_true rfl⟩ rfl R28 (evx_up (Nat.le_of_ble_eq_true rfl) (c111 R28 rx2 e31)) ?_
        intro h33 R34 w35
        have w35 : rg q32 := w35
        show evx _ _ _ _ _ _ (.inl (iz q32) :: _) _ _ _
        refine evx_F E122 D122_45 rfl rfl ?_
        refine evx_F E122 D122_46 rfl rfl ?_
        obtain ⟨⟨q37, M41⟩, e36, hs⟩ := Option.bind_eq_some_iff.mp hs
        dsimp only at hs
        refine evx_cv (D := 2) E122 D122_47 I122_55 rfl rfl H25 ⟨Nat.le_of_ble_eq_true rfl, Nat.le_of_ble_eq_true rfl⟩ ⟨rfl, Nat.le_of_ble_eq_true rfl⟩ rfl R34 (evx_up (Nat.le_of_ble_eq_true rfl) (c114 R34 rx2 e36)) ?_
        intro h38 R39 w40
        have w40 : rg q37 := w40
        show evx _ _ _ _ _ _ (.inl (iz q37) :: _) _ _ _
        obtain ⟨q43, e42, hs⟩ := Option.bind_eq_some_iff.mp hs
        refine evx_cs (D := 2) E122 D122_50 I122_58 rfl rfl (Nat.le_of_ble_eq_true rfl) ⟨rfl, Nat.le_of_ble_eq_true rfl⟩ rfl (evx_up (Nat.le_of_ble_eq_true rfl) (c123 R39 w35 w40 e42)) ?_
        intro h44 R45 w46
        have w46 : rg q43 := w46
        show evx _ _ _ _ _ _ (.inl (iz q43) :: _) _ _ _
        refine evx_add E122 D122_53 ?_
        obtain ⟨k47, hs⟩ := ck hs
        cases hs
        exact evx_ret E122 D122_54 rfl (fun d => rfl) rfl (show rg _ from k47) R45
      · rw [if_neg cb30] at hs
        refine evx_F E122 D122_21 rfl (ifF (c2_ne_F w29 (by decide) (by omega))) ?_
        refine evx_F E122 D122_24 rfl rfl ?_
        refine evx_F E122 D122_25 rfl rfl ?_
        obtain ⟨⟨q49, M53⟩, e48, hs⟩ := Option.bind_eq_some_iff.mp hs
        dsimp only at hs
        refine evx_cv (D := 2) E122 D122_26 I122_52 rfl rfl H25 ⟨Nat.le_of_ble_eq_true rfl, Nat.le_of_ble_eq_true rfl⟩ ⟨rfl, Nat.le_of_ble_eq_true rfl⟩ rfl R28 (evx_up (Nat.le_of_ble_eq_true rfl) (c112 R28 rx2 e48)) ?_
        intro h50 R51 w52
        have w52 : rg q49 := w52
        show evx _ _ _ _ _ _ (.inl (iz q49) :: _) _ _ _
        refine evx_F E122 D122_29 rfl rfl ?_
        refine evx_inc E122 D122_30 (Nat.le_of_ble_eq_true rfl) rfl ?_
        refine evx_F E122 D122_33 rfl rfl ?_
        obtain ⟨k54, hs⟩ := ck hs
        show evx _ _ _ _ _ [(3, .inl (iz (x3 + 1))), (2, .inl (iz q49)), (0, .inr (.inr (.inl (some 25)))), (1, .inl (iz x1))] _ _ _ _
        exact evx_lv (lvLe_mk (fm rfl (fm rfl (fm rfl (fm rfl fn)))) (fm rfl (fm rfl (fm rfl (fm rfl fn)))) (fm rfl (fm rfl (fm rfl (fm rfl fn))))) (ih _ _ _ _ _ _ _ hs R51 rx1 w52 k54)
def f122_25 (M : Mm) (x1 : Int) : Option (Int × Mm) := (f80 M x1).bind (fun zq2 => l122_25 FU 8 zq2.2 x1 zq2.1 0)
theorem c122_25 {L : Nat} {xs : Nat → Int32} {h : mvH} {M : Mm} {x1 : Int} {v : Int} {M' : Mm} (R : rp h M) (rx1 : rg x1) (hs : f122_25 M x1 = some (v, M')) : evx L xs 3 122 0 [(0, .inr (.inr (.inl (some 25)))), (1, .inl (iz x1))] [] h (.inl (some (.inl v)), 0) M' := by
  unfold f122_25 at hs
  refine evx_F E122 D122_0 rfl rfl ?_
  refine evx_F E122 D122_1 rfl rfl ?_
  obtain ⟨⟨q2, M6⟩, e1, hs⟩ := Option.bind_eq_some_iff.mp hs
  dsimp only at hs
  refine evx_cv (D := 2) E122 D122_2 I122_44 rfl rfl H25 ⟨Nat.le_of_ble_eq_true rfl, Nat.le_of_ble_eq_true rfl⟩ ⟨rfl, Nat.le_of_ble_eq_true rfl⟩ rfl R (evx_up (Nat.le_of_ble_eq_true rfl) (c80 R rx1 e1)) ?_
  intro h3 R4 w5
  have w5 : rg q2 := w5
  show evx _ _ _ _ _ _ (.inl (iz q2) :: _) _ _ _
  refine evx_F E122 D122_5 rfl rfl ?_
  refine evx_F E122 D122_6 rfl rfl ?_
  refine evx_F E122 D122_7 rfl rfl ?_
  show evx _ _ _ _ _ [(3, .inl (iz 0)), (2, .inl (iz q2)), (0, .inr (.inr (.inl (some 25)))), (1, .inl (iz x1))] _ _ _ _
  exact evx_lv (lvLe_mk (fm rfl (fm rfl (fm rfl (fm rfl fn)))) (fm rfl (fm rfl (fm rfl (fm rfl fn)))) (fm rfl (fm rfl (fm rfl (fm rfl fn))))) ((d122_25 FU) _ _ _ _ _ _ _ hs R4 rx1 w5 (by decide))
set_option maxRecDepth 20000 in
theorem E46 : pgMm 46 = some (⟨"DictionaryHouseLaw", "lambda", "(LDictionaryHouse;I[J)I"⟩, method_10_code, 4, (some .int), [(0, 9, 12, 13), (0, 9, 15, 15)]) := rfl
theorem D46_0 : pgDecT 46 0 = some (.aload_n 2, 1) := by decide +kernel
theorem D46_1 : pgDecT 46 1 = some (.iconst 0, 1) := by decide +kernel
theorem D46_2 : pgDecT 46 2 = some (.aload_n 0, 1) := by decide +kernel
theorem D46_3 : pgDecT 46 3 = some (.iload_n 1, 1) := by decide +kernel
theorem D46_4 : pgDecT 46 4 = some (.invokevirtual 36, 3) := by decide +kernel
theorem I46_36 : pgIi 46 36 = some (47, 1, 11) := by decide +kernel
theorem D46_7 : pgDecT 46 7 = some (.i2l, 1) := by decide +kernel
theorem D46_8 : pgDecT 46 8 = some (.lastore, 1) := by decide +kernel
theorem D46_9 : pgDecT 46 9 = some (.goto 9, 3) := by decide +kernel
theorem D46_18 : pgDecT 46 18 = some (.iconst 0, 1) := by decide +kernel
theorem D46_19 : pgDecT 46 19 = some (.ireturn, 1) := by decide +kernel
theorem D46_13 : pgDecT 46 13 = some (.iconst 1, 1) := by decide +kernel
theorem D46_14 : pgDecT 46 14 = some (.ireturn, 1) := by decide +kernel
theorem D46_16 : pgDecT 46 16 = some (.iconst 2, 1) := by decide +kernel
theorem D46_17 : pgDecT 46 17 = some (.ireturn, 1) := by decide +kernel
/-! 46_0_109: DictionaryHouseLaw.lambda (LDictionaryHouse;I[J)I -/
def f46_0_109 (M : Mm) (x1 : Int) : Option (Int × Mm) := (f47 M x1).bind (fun zq2 => if zq2.1 = 0 then (some (0, (up zq2.2.2 109 (Int.toNat 0) zq2.2.1))) else if zq2.1 = 1 then (some (1, zq2.2.2)) else (some (2, zq2.2.2)))
theorem c46_0_109 {L : Nat} {xs : Nat → Int32} {h : mvH} {M : Mm} {x1 : Int} {v : Int} {M' : Mm} (R : rp h M) (rx1 : rg x1) (hs : f46_0_109 M x1 = some (v, M')) : evx L xs 11 46 0 [(0, .inr (.inr (.inl (some 0)))), (1, .inl (iz x1)), (2, .inr (.inr (.inl (some 109))))] [] h (ow v) M' := by
  unfold f46_0_109 at hs
  refine evx_F E46 D46_0 rfl rfl ?_
  refine evx_F E46 D46_1 rfl rfl ?_
  refine evx_F E46 D46_2 rfl rfl ?_
  refine evx_F E46 D46_3 rfl rfl ?_
  obtain ⟨⟨kq7, q2, M6⟩, e1, hs⟩ := Option.bind_eq_some_iff.mp hs
  dsimp only at hs
  have ge1 := c47 (L := L) (xs := xs) R rx1 e1
  by_cases cb8 : kq7 = 0
  · rw [if_pos cb8] at hs
    subst cb8
    refine evx_cv (D := 10) E46 D46_4 I46_36 rfl rfl H0 ⟨Nat.le_of_ble_eq_true rfl, Nat.le_of_ble_eq_true rfl⟩ ⟨rfl, Nat.le_of_ble_eq_true rfl⟩ rfl R (evx_up (Nat.le_of_ble_eq_true rfl) ge1) ?_
    intro h3 R4 w5
    have w5 : rg q2 := w5
    show evx _ _ _ _ _ _ (.inl (iz q2) :: _) _ _ _
    refine evx_F E46 D46_7 rfl rfl ?_
    refine evx_las E46 D46_8 H109 (by decide) R4 (by decide) w5 ?_
    intro h9 R10
    refine evx_F E46 D46_9 rfl rfl ?_
    refine evx_F E46 D46_18 rfl rfl ?_
    cases hs
    exact evx_ret E46 D46_19 rfl (fun d => rfl) rfl (show rg _ from (by decide)) R10
  · rw [if_neg cb8] at hs
    by_cases cb11 : kq7 = 1
    · rw [if_pos cb11] at hs
      rw [cb11, ot_1] at ge1
      cases hs
      show evx _ _ _ _ _ _ _ _ (.inl (some (.inl 1)), 1 + 0) _
      refine evx_cat (n1 := 1) (n2 := 0) (D := 10) E46 D46_4 I46_36 rfl rfl H0 ⟨Nat.le_of_ble_eq_true rfl, Nat.le_of_ble_eq_true rfl⟩ ⟨rfl, Nat.le_of_ble_eq_true rfl⟩ rfl rfl R (evx_up (Nat.le_of_ble_eq_true rfl) ge1) ?_
      intro h12 R13
      show evx _ _ _ _ _ [(0, .inr (.inr (.inl (some 0)))), (1, .inl (iz x1)), (2, .inr (.inr (.inl (some 109))))] _ _ _ _
      refine evx_F E46 D46_13 rfl rfl ?_
      exact evx_ret E46 D46_14 rfl (fun d => rfl) rfl (show rg _ from (by decide)) R13
    · rw [if_neg cb11] at hs
      rw [ot_2 cb8 cb11] at ge1
      cases hs
      show evx _ _ _ _ _ _ _ _ (.inl (some (.inl 2)), 1 + 0) _
      refine evx_cat (n1 := 1) (n2 := 0) (D := 10) E46 D46_4 I46_36 rfl rfl H0 ⟨Nat.le_of_ble_eq_true rfl, Nat.le_of_ble_eq_true rfl⟩ ⟨rfl, Nat.le_of_ble_eq_true rfl⟩ rfl rfl R (evx_up (Nat.le_of_ble_eq_true rfl) ge1) ?_
      intro h14 R15
      show evx _ _ _ _ _ [(0, .inr (.inr (.inl (some 0)))), (1, .inl (iz x1)), (2, .inr (.inr (.inl (some 109))))] _ _ _ _
      refine evx_F E46 D46_16 rfl rfl ?_
      exact evx_ret E46 D46_17 rfl (fun d => rfl) rfl (show rg _ from (by decide)) R15
set_option maxRecDepth 20000 in
theorem E120 : pgMm 120 = some (⟨"DictionaryHouse$Plans", "write", "(ILDictionaryHouse$Typing;)V"⟩, prog_10_method_6_code, 7, none, []) := rfl
theorem D120_0 : pgDecT 120 0 = some (.iconst 0, 1) := by decide +kernel
theorem D120_1 : pgDecT 120 1 = some (.istore_n 3, 1) := by decide +kernel
theorem D120_2 : pgDecT 120 2 = some (.iload_n 3, 1) := by decide +kernel
theorem D120_3 : pgDecT 120 3 = some (.aload_n 2, 1) := by decide +kernel
theorem D120_4 : pgDecT 120 4 = some (.invokevirtual 16, 3) := by decide +kernel
theorem I120_16 : pgIi 120 16 = some (107, 0, 10) := by decide +kernel
theorem D120_7 : pgDecT 120 7 = some (.if_icmp .ge 79, 3) := by decide +kernel
theorem D120_86 : pgDecT 120 86 = some (.return_, 1) := by decide +kernel
theorem D120_10 : pgDecT 120 10 = some (.aload_n 2, 1) := by decide +kernel
theorem D120_11 : pgDecT 120 11 = some (.iload_n 3, 1) := by decide +kernel
theorem D120_12 : pgDecT 120 12 = some (.invokevirtual 22, 3) := by decide +kernel
theorem I120_22 : pgIi 120 22 = some (121, 1, 10) := by decide +kernel
theorem D120_15 : pgDecT 120 15 = some (.istore 4, 2) := by decide +kernel
theorem D120_17 : pgDecT 120 17 = some (.iload_n 1, 1) := by decide +kernel
theorem D120_18 : pgDecT 120 18 = some (.iload_n 3, 1) := by decide +kernel
theorem D120_19 : pgDecT 120 19 = some (.iadd, 1) := by decide +kernel
theorem D120_20 : pgDecT 120 20 = some (.bipush 8, 2) := by decide +kernel
theorem D120_22 : pgDecT 120 22 = some (.imul, 1) := by decide +kernel
theorem D120_23 : pgDecT 120 23 = some (.istore 5, 2) := by decide +kernel
theorem D120_25 : pgDecT 120 25 = some (.aload_n 0, 1) := by decide +kernel
theorem D120_26 : pgDecT 120 26 = some (.getfield 12, 3) := by decide +kernel
theorem F120_12 : pgFf 120 12 = some (8, 0, 3) := by decide +kernel
theorem D120_29 : pgDecT 120 29 = some (.iload 5, 2) := by decide +kernel
theorem D120_31 : pgDecT 120 31 = some (.iload 5, 2) := by decide +kernel
theorem D120_33 : pgDecT 120 33 = some (.bipush 8, 2) := by decide +kernel
theorem D120_35 : pgDecT 120 35 = some (.iadd, 1) := by decide +kernel
theorem D120_36 : pgDecT 120 36 = some (.iconst 2, 1) := by decide +kernel
theorem D120_37 : pgDecT 120 37 = some (.invokestatic 26, 3) := by decide +kernel
theorem I120_26 : pgIi 120 26 = some (99, 4, 100) := by decide +kernel
theorem D120_40 : pgDecT 120 40 = some (.iconst 0, 1) := by decide +kernel
theorem D120_41 : pgDecT 120 41 = some (.istore 6, 2) := by decide +kernel
theorem D120_43 : pgDecT 120 43 = some (.iload 6, 2) := by decide +kernel
theorem D120_45 : pgDecT 120 45 = some (.iload 4, 2) := by decide +kernel
theorem D120_47 : pgDecT 120 47 = some (.if_icmp .ge 33, 3) := by decide +kernel
theorem D120_80 : pgDecT 120 80 = some (.iinc 3 1, 3) := by decide +kernel
theorem D120_83 : pgDecT 120 83 = some (.goto (-81), 3) := by decide +kernel
theorem D120_50 : pgDecT 120 50 = some (.aload_n 0, 1) := by decide +kernel
theorem D120_51 : pgDecT 120 51 = some (.getfield 12, 3) := by decide +kernel
theorem D120_54 : pgDecT 120 54 = some (.iload 5, 2) := by decide +kernel
theorem D120_56 : pgDecT 120 56 = some (.iload 6, 2) := by decide +kernel
theorem D120_58 : pgDecT 120 58 = some (.iadd, 1) := by decide +kernel
theorem D120_59 : pgDecT 120 59 = some (.aload_n 2, 1) := by decide +kernel
theorem D120_60 : pgDecT 120 60 = some (.invokevirtual 32, 3) := by decide +kernel
theorem I120_32 : pgIi 120 32 = some (11, 0, 10) := by decide +kernel
theorem D120_63 : pgDecT 120 63 = some (.aload_n 2, 1) := by decide +kernel
theorem D120_64 : pgDecT 120 64 = some (.iload_n 3, 1) := by decide +kernel
theorem D120_65 : pgDecT 120 65 = some (.iload 6, 2) := by decide +kernel
theorem D120_67 : pgDecT 120 67 = some (.invokevirtual 36, 3) := by decide +kernel
theorem I120_36 : pgIi 120 36 = some (109, 2, 10) := by decide +kernel
theorem D120_70 : pgDecT 120 70 = some (.invokestatic 40, 3) := by decide +kernel
theorem I120_40 : pgIi 120 40 = some (122, 2, 100) := by decide +kernel
theorem D120_73 : pgDecT 120 73 = some (.iastore, 1) := by decide +kernel
theorem D120_74 : pgDecT 120 74 = some (.iinc 6 1, 3) := by decide +kernel
theorem D120_77 : pgDecT 120 77 = some (.goto (-34), 3) := by decide +kernel
/-! 120_24: DictionaryHouse$Plans.write (ILDictionaryHouse$Typing;)V -/
def l120_24 : Nat → Nat → Mm → Int → Int → Int → Int → Int → Option (Int × Mm)
  | 0, _, _, _, _, _, _, _ => none
  | f + 1, 2, M, x1, x3, _, _, _ => (f107 M).bind (fun q2 => if q2 ≤ x3 then (some (0, M)) else (f121 M x3).bind (fun q8 => if rg ((x1 + x3) * 8) then (if rg (((x1 + x3) * 8) + 8) then (f99_23 M ((x1 + x3) * 8) (((x1 + x3) * 8) + 8) 2).bind (fun zq15 => l120_24 f 43 zq15.2 x1 x3 q8 ((x1 + x3) * 8) 0) else none) else none))
  | f + 1, 43, M, x1, x3, x4, x5, x6 => if x4 ≤ x6 then (if rg (x3 + 1) then (l120_24 f 2 M x1 (x3 + 1) 0 0 0) else none) else (f11 M).bind (fun q23 => (f109 M x3 x6).bind (fun q28 => (f122_25 M q28).bind (fun zq33 => if 0 ≤ (x5 + x6) ∧ (x5 + x6) < 35520 then (if rg (x6 + 1) then (l120_24 f 43 (up zq33.2 23 (Int.toNat (x5 + x6)) zq33.1) x1 x3 x4 x5 (x6 + 1)) else none) else none)))
  | _, _, _, _, _, _, _, _ => none
theorem d120_24 {L : Nat} {xs : Nat → Int32} (f : Nat) : (∀ (M : Mm) (x1 x3 : Int) (h : mvH) (v : Int) (M' : Mm), l120_24 f 2 M x1 x3 0 0 0 = some (v, M') → rp h M → rg x1 → rg x3 → evx L xs 4 120 2 [(0, .inr (.inr (.inl (some 22)))), (1, .inl (iz x1)), (2, .inr (.inr (.inl (some 24)))), (3, .inl (iz x3))] [] h (.inl none, 0) M') ∧ (∀ (M : Mm) (x1 x3 x4 x5 x6 : Int) (h : mvH) (v : Int) (M' : Mm), l120_24 f 43 M x1 x3 x4 x5 x6 = some (v, M') → rp h M → rg x1 → rg x3 → rg x4 → rg x5 → rg x6 → evx L xs 4 120 43 [(0, .inr (.inr (.inl (some 22)))), (1, .inl (iz x1)), (2, .inr (.inr (.inl (some 24)))), (3, .inl (iz x3)), (4, .inl (iz x4)), (5, .inl (iz x5)), (6, .inl (iz x6))] [] h (.inl none, 0) M') := by
  induction f with
  | zero => exact ⟨(fun M x1 x3 h v M' hs _ _ _ => by cases hs), (fun M x1 x3 x4 x5 x6 h v M' hs _ _ _ _ _ _ => by cases hs)⟩
  | succ f ih =>
    refine ⟨?_, ?_⟩
    · intro M x1 x3 h v M' hs R rx1 rx3
      rw [l120_24] at hs
      refine evx_F E120 D120_2 rfl rfl ?_
      refine evx_F E120 D120_3 rfl rfl ?_
      obtain ⟨q2, e1, hs⟩ := Option.bind_eq_some_iff.mp hs
      refine evx_cv (D := 3) E120 D120_4 I120_16 rfl rfl H24 ⟨Nat.le_of_ble_eq_true rfl, Nat.le_of_ble_eq_true rfl⟩ ⟨rfl, Nat.le_of_ble_eq_true rfl⟩ rfl R (evx_up (Nat.le_of_ble_eq_true rfl) (c107 R  e1)) ?_
      intro h3 R4 w5
      have w5 : rg q2 := w5
      show evx _ _ _ _ _ _ (.inl (iz q2) :: _) _ _ _
      by_cases cb6 : q2 ≤ x3
      · rw [if_pos cb6] at hs
        refine evx_F E120 D120_7 rfl (ifT (c2_ge_T rx3 w5 cb6)) ?_
        cases hs
        exact evx_ret E120 D120_86 rfl (fun d => rfl) rfl trivial R4
      · rw [if_neg cb6] at hs
        refine evx_F E120 D120_7 rfl (ifF (c2_ge_F rx3 w5 (by omega))) ?_
        refine evx_F E120 D120_10 rfl rfl ?_
        refine evx_F E120 D120_11 rfl rfl ?_
        obtain ⟨q8, e7, hs⟩ := Option.bind_eq_some_iff.mp hs
        refine evx_cv (D := 3) E120 D120_12 I120_22 rfl rfl H24 ⟨Nat.le_of_ble_eq_true rfl, Nat.le_of_ble_eq_true rfl⟩ ⟨rfl, Nat.le_of_ble_eq_true rfl⟩ rfl R4 (evx_up (Nat.le_of_ble_eq_true rfl) (c121 R4 rx3 e7)) ?_
        intro h9 R10 w11
        have w11 : rg q8 := w11
        show evx _ _ _ _ _ _ (.inl (iz q8) :: _) _ _ _
        refine evx_F E120 D120_15 rfl rfl ?_
        refine evx_F E120 D120_17 rfl rfl ?_
        refine evx_F E120 D120_18 rfl rfl ?_
        refine evx_add E120 D120_19 ?_
        refine evx_k (k := 8) E120 D120_20 rfl (by decide) ?_
        refine evx_mul E120 D120_22 ?_
        refine evx_F E120 D120_23 rfl rfl ?_
        refine evx_F E120 D120_25 rfl rfl ?_
        refine evx_gfr E120 D120_26 F120_12 H22 rfl R10 ?_
        refine evx_F E120 D120_29 rfl rfl ?_
        refine evx_F E120 D120_31 rfl rfl ?_
        refine evx_k (k := 8) E120 D120_33 rfl (by decide) ?_
        refine evx_add E120 D120_35 ?_
        refine evx_F E120 D120_36 rfl rfl ?_
        obtain ⟨k12, hs⟩ := ck hs
        obtain ⟨k13, hs⟩ := ck hs
        obtain ⟨⟨q15, M19⟩, e14, hs⟩ := Option.bind_eq_some_iff.mp hs
        dsimp only at hs
        refine evx_cs (D := 3) E120 D120_37 I120_26 rfl rfl (Nat.le_of_ble_eq_true rfl) ⟨rfl, Nat.le_of_ble_eq_true rfl⟩ rfl (evx_up (Nat.le_of_ble_eq_true rfl) (c99_23 R10 k12 k13 (by decide) e14)) ?_
        intro h16 R17 w18
        refine evx_F E120 D120_40 rfl rfl ?_
        refine evx_F E120 D120_41 rfl rfl ?_
        show evx _ _ _ _ _ [(6, .inl (iz 0)), (5, .inl (iz ((x1 + x3) * 8))), (4, .inl (iz q8)), (0, .inr (.inr (.inl (some 22)))), (1, .inl (iz x1)), (2, .inr (.inr (.inl (some 24)))), (3, .inl (iz x3))] _ _ _ _
        exact evx_lv (lvLe_mk (fm rfl (fm rfl (fm rfl (fm rfl (fm rfl (fm rfl (fm rfl fn))))))) (fm rfl (fm rfl (fm rfl (fm rfl (fm rfl (fm rfl (fm rfl fn))))))) (fm rfl (fm rfl (fm rfl (fm rfl (fm rfl (fm rfl (fm rfl fn)))))))) (ih.2 _ _ _ _ _ _ _ _ _ hs R17 rx1 rx3 w11 k12 (by decide))
    · intro M x1 x3 x4 x5 x6 h v M' hs R rx1 rx3 rx4 rx5 rx6
      rw [l120_24] at hs
      refine evx_F E120 D120_43 rfl rfl ?_
      refine evx_F E120 D120_45 rfl rfl ?_
      by_cases cb20 : x4 ≤ x6
      · rw [if_pos cb20] at hs
        refine evx_F E120 D120_47 rfl (ifT (c2_ge_T rx6 rx4 cb20)) ?_
        refine evx_inc E120 D120_80 (Nat.le_of_ble_eq_true rfl) rfl ?_
        refine evx_F E120 D120_83 rfl rfl ?_
        obtain ⟨k21, hs⟩ := ck hs
        show evx _ _ _ _ _ [(3, .inl (iz (x3 + 1))), (0, .inr (.inr (.inl (some 22)))), (1, .inl (iz x1)), (2, .inr (.inr (.inl (some 24)))), (4, .inl (iz x4)), (5, .inl (iz x5)), (6, .inl (iz x6))] _ _ _ _
        exact evx_lv (lvLe_mk (fm rfl (fm rfl (fm rfl (fm rfl fn)))) (fm rfl (fm rfl (fm rfl (fm rfl (fm rfl (fm rfl (fm rfl fn))))))) (fm rfl (fm rfl (fm rfl (fm rfl fn))))) (ih.1 _ _ _ _ _ _ hs R rx1 k21)
      · rw [if_neg cb20] at hs
        refine evx_F E120 D120_47 rfl (ifF (c2_ge_F rx6 rx4 (by omega))) ?_
        refine evx_F E120 D120_50 rfl rfl ?_
        refine evx_gfr E120 D120_51 F120_12 H22 rfl R ?_
        refine evx_F E120 D120_54 rfl rfl ?_
        refine evx_F E120 D120_56 rfl rfl ?_
        refine evx_add E120 D120_58 ?_
        refine evx_F E120 D120_59 rfl rfl ?_
        obtain ⟨q23, e22, hs⟩ := Option.bind_eq_some_iff.mp hs
        refine evx_cv (D := 3) E120 D120_60 I120_32 rfl rfl H24 ⟨Nat.le_of_ble_eq_true rfl, Nat.le_of_ble_eq_true rfl⟩ ⟨rfl, Nat.le_of_ble_eq_true rfl⟩ rfl R (evx_up (Nat.le_of_ble_eq_true rfl) (c11 R  e22)) ?_
        intro h24 R25 w26
        show evx _ _ _ _ _ _ (.inr (.inr (.inl (some 25))) :: _) _ _ _
        refine evx_F E120 D120_63 rfl rfl ?_
        refine evx_F E120 D120_64 rfl rfl ?_
        refine evx_F E120 D120_65 rfl rfl ?_
        obtain ⟨q28, e27, hs⟩ := Option.bind_eq_some_iff.mp hs
        refine evx_cv (D := 3) E120 D120_67 I120_36 rfl rfl H24 ⟨Nat.le_of_ble_eq_true rfl, Nat.le_of_ble_eq_true rfl⟩ ⟨rfl, Nat.le_of_ble_eq_true rfl⟩ rfl R25 (evx_up (Nat.le_of_ble_eq_true rfl) (c109 R25 rx3 rx6 e27)) ?_
        intro h29 R30 w31
        have w31 : rg q28 := w31
        show evx _ _ _ _ _ _ (.inl (iz q28) :: _) _ _ _
        obtain ⟨⟨q33, M37⟩, e32, hs⟩ := Option.bind_eq_some_iff.mp hs
        dsimp only at hs
        refine evx_cs (D := 3) E120 D120_70 I120_40 rfl rfl (Nat.le_of_ble_eq_true rfl) ⟨rfl, Nat.le_of_ble_eq_true rfl⟩ rfl (evx_up (Nat.le_of_ble_eq_true rfl) (c122_25 R30 w31 e32)) ?_
        intro h34 R35 w36
        have w36 : rg q33 := w36
        show evx _ _ _ _ _ _ (.inl (iz q33) :: _) _ _ _
        obtain ⟨k38, hs⟩ := ck hs
        refine evx_ias E120 D120_73 H23 (by decide) R35 k38 w36 ?_
        intro h39 R40
        refine evx_inc E120 D120_74 (Nat.le_of_ble_eq_true rfl) rfl ?_
        refine evx_F E120 D120_77 rfl rfl ?_
        obtain ⟨k41, hs⟩ := ck hs
        show evx _ _ _ _ _ [(6, .inl (iz (x6 + 1))), (0, .inr (.inr (.inl (some 22)))), (1, .inl (iz x1)), (2, .inr (.inr (.inl (some 24)))), (3, .inl (iz x3)), (4, .inl (iz x4)), (5, .inl (iz x5))] _ _ _ _
        exact evx_lv (lvLe_mk (fm rfl (fm rfl (fm rfl (fm rfl (fm rfl (fm rfl (fm rfl fn))))))) (fm rfl (fm rfl (fm rfl (fm rfl (fm rfl (fm rfl (fm rfl fn))))))) (fm rfl (fm rfl (fm rfl (fm rfl (fm rfl (fm rfl (fm rfl fn)))))))) (ih.2 _ _ _ _ _ _ _ _ _ hs R40 rx1 rx3 rx4 rx5 k41)
def f120_24 (M : Mm) (x1 : Int) : Option (Int × Mm) := l120_24 FU 2 M x1 0 0 0 0
theorem c120_24 {L : Nat} {xs : Nat → Int32} {h : mvH} {M : Mm} {x1 : Int} {v : Int} {M' : Mm} (R : rp h M) (rx1 : rg x1) (hs : f120_24 M x1 = some (v, M')) : evx L xs 4 120 0 [(0, .inr (.inr (.inl (some 22)))), (1, .inl (iz x1)), (2, .inr (.inr (.inl (some 24))))] [] h (.inl none, 0) M' := by
  unfold f120_24 at hs
  refine evx_F E120 D120_0 rfl rfl ?_
  refine evx_F E120 D120_1 rfl rfl ?_
  show evx _ _ _ _ _ [(3, .inl (iz 0)), (0, .inr (.inr (.inl (some 22)))), (1, .inl (iz x1)), (2, .inr (.inr (.inl (some 24))))] _ _ _ _
  exact evx_lv (lvLe_mk (fm rfl (fm rfl (fm rfl (fm rfl fn)))) (fm rfl (fm rfl (fm rfl (fm rfl fn)))) (fm rfl (fm rfl (fm rfl (fm rfl fn))))) ((d120_24 FU).1 _ _ _ _ _ _ hs R rx1 (by decide))
set_option maxRecDepth 20000 in
theorem E63 : pgMm 63 = some (⟨"DictionaryHouse$Checker", "wrongOfMethod", "(III)I"⟩, prog_2_method_3_code, 5, (some .int), []) := rfl
theorem D63_0 : pgDecT 63 0 = some (.aload_n 0, 1) := by decide +kernel
theorem D63_1 : pgDecT 63 1 = some (.getfield 32, 3) := by decide +kernel
theorem F63_32 : pgFf 63 32 = some (0, 3, 3) := by decide +kernel
theorem D63_4 : pgDecT 63 4 = some (.aload_n 0, 1) := by decide +kernel
theorem D63_5 : pgDecT 63 5 = some (.getfield 24, 3) := by decide +kernel
theorem F63_24 : pgFf 63 24 = some (0, 1, 3) := by decide +kernel
theorem D63_8 : pgDecT 63 8 = some (.iload_n 1, 1) := by decide +kernel
theorem D63_9 : pgDecT 63 9 = some (.iload_n 2, 1) := by decide +kernel
theorem D63_10 : pgDecT 63 10 = some (.iload_n 3, 1) := by decide +kernel
theorem D63_11 : pgDecT 63 11 = some (.invokevirtual 102, 3) := by decide +kernel
theorem I63_102 : pgIi 63 102 = some (64, 3, 1) := by decide +kernel
theorem D63_14 : pgDecT 63 14 = some (.invokevirtual 58, 3) := by decide +kernel
theorem I63_58 : pgIi 63 58 = some (65, 1, 10) := by decide +kernel
theorem D63_17 : pgDecT 63 17 = some (.ifCond .ne 5, 3) := by decide +kernel
theorem D63_22 : pgDecT 63 22 = some (.aload_n 0, 1) := by decide +kernel
theorem D63_23 : pgDecT 63 23 = some (.getfield 32, 3) := by decide +kernel
theorem D63_26 : pgDecT 63 26 = some (.aload_n 0, 1) := by decide +kernel
theorem D63_27 : pgDecT 63 27 = some (.getfield 24, 3) := by decide +kernel
theorem D63_30 : pgDecT 63 30 = some (.iload_n 1, 1) := by decide +kernel
theorem D63_31 : pgDecT 63 31 = some (.iload_n 3, 1) := by decide +kernel
theorem D63_32 : pgDecT 63 32 = some (.invokevirtual 108, 3) := by decide +kernel
theorem I63_108 : pgIi 63 108 = some (85, 2, 1) := by decide +kernel
theorem D63_35 : pgDecT 63 35 = some (.aload_n 0, 1) := by decide +kernel
theorem D63_36 : pgDecT 63 36 = some (.iload_n 2, 1) := by decide +kernel
theorem D63_37 : pgDecT 63 37 = some (.invokevirtual 112, 3) := by decide +kernel
theorem I63_112 : pgIi 63 112 = some (95, 1, 0) := by decide +kernel
theorem D63_40 : pgDecT 63 40 = some (.invokevirtual 115, 3) := by decide +kernel
theorem I63_115 : pgIi 63 115 = some (96, 2, 10) := by decide +kernel
theorem D63_43 : pgDecT 63 43 = some (.ifCond .eq 13, 3) := by decide +kernel
theorem D63_56 : pgDecT 63 56 = some (.iconst (-1), 1) := by decide +kernel
theorem D63_57 : pgDecT 63 57 = some (.ireturn, 1) := by decide +kernel
theorem D63_46 : pgDecT 63 46 = some (.aload_n 0, 1) := by decide +kernel
theorem D63_47 : pgDecT 63 47 = some (.getfield 46, 3) := by decide +kernel
theorem F63_46 : pgFf 63 46 = some (0, 5, 3) := by decide +kernel
theorem D63_50 : pgDecT 63 50 = some (.invokevirtual 62, 3) := by decide +kernel
theorem I63_62 : pgIi 63 62 = some (97, 0, 5) := by decide +kernel
theorem D63_53 : pgDecT 63 53 = some (.ifCond .eq 5, 3) := by decide +kernel
theorem D63_58 : pgDecT 63 58 = some (.aload_n 0, 1) := by decide +kernel
theorem D63_59 : pgDecT 63 59 = some (.getfield 46, 3) := by decide +kernel
theorem D63_62 : pgDecT 63 62 = some (.invokevirtual 119, 3) := by decide +kernel
theorem I63_119 : pgIi 63 119 = some (103, 0, 5) := by decide +kernel
theorem D63_65 : pgDecT 63 65 = some (.aload_n 0, 1) := by decide +kernel
theorem D63_66 : pgDecT 63 66 = some (.getfield 54, 3) := by decide +kernel
theorem F63_54 : pgFf 63 54 = some (0, 6, 3) := by decide +kernel
theorem D63_69 : pgDecT 63 69 = some (.iload_n 2, 1) := by decide +kernel
theorem D63_70 : pgDecT 63 70 = some (.iconst 2, 1) := by decide +kernel
theorem D63_71 : pgDecT 63 71 = some (.if_icmp .ne 14, 3) := by decide +kernel
theorem D63_85 : pgDecT 63 85 = some (.iconst (-1), 1) := by decide +kernel
theorem D63_86 : pgDecT 63 86 = some (.invokevirtual 74, 3) := by decide +kernel
theorem I63_74 : pgIi 63 74 = some (105, 1, 2) := by decide +kernel
theorem D63_89 : pgDecT 63 89 = some (.istore 4, 2) := by decide +kernel
theorem D63_91 : pgDecT 63 91 = some (.iload 4, 2) := by decide +kernel
theorem D63_93 : pgDecT 63 93 = some (.ifCond .ne 20, 3) := by decide +kernel
theorem D63_113 : pgDecT 63 113 = some (.iload 4, 2) := by decide +kernel
theorem D63_115 : pgDecT 63 115 = some (.ireturn, 1) := by decide +kernel
theorem D63_96 : pgDecT 63 96 = some (.aload_n 0, 1) := by decide +kernel
theorem D63_97 : pgDecT 63 97 = some (.getfield 36, 3) := by decide +kernel
theorem F63_36 : pgFf 63 36 = some (0, 4, 3) := by decide +kernel
theorem D63_100 : pgDecT 63 100 = some (.iload_n 1, 1) := by decide +kernel
theorem D63_101 : pgDecT 63 101 = some (.iload_n 2, 1) := by decide +kernel
theorem D63_102 : pgDecT 63 102 = some (.iload_n 3, 1) := by decide +kernel
theorem D63_103 : pgDecT 63 103 = some (.invokestatic 125, 3) := by decide +kernel
theorem I63_125 : pgIi 63 125 = some (119, 3, 100) := by decide +kernel
theorem D63_106 : pgDecT 63 106 = some (.aload_n 0, 1) := by decide +kernel
theorem D63_107 : pgDecT 63 107 = some (.getfield 32, 3) := by decide +kernel
theorem D63_110 : pgDecT 63 110 = some (.invokevirtual 98, 3) := by decide +kernel
theorem I63_98 : pgIi 63 98 = some (120, 2, 8) := by decide +kernel
theorem D63_74 : pgDecT 63 74 = some (.aload_n 0, 1) := by decide +kernel
theorem D63_75 : pgDecT 63 75 = some (.getfield 24, 3) := by decide +kernel
theorem D63_78 : pgDecT 63 78 = some (.iload_n 1, 1) := by decide +kernel
theorem D63_79 : pgDecT 63 79 = some (.invokevirtual 122, 3) := by decide +kernel
theorem I63_122 : pgIi 63 122 = some (104, 1, 1) := by decide +kernel
theorem D63_82 : pgDecT 63 82 = some (.goto 4, 3) := by decide +kernel
theorem D63_20 : pgDecT 63 20 = some (.iconst (-1), 1) := by decide +kernel
theorem D63_21 : pgDecT 63 21 = some (.ireturn, 1) := by decide +kernel
/-! 63: DictionaryHouse$Checker.wrongOfMethod (III)I -/
def f63 (M : Mm) (x1 : Int) (x2 : Int) (x3 : Int) : Option (Int × Mm) := (f64 M x1 x2 x3).bind (fun q2 => (f65 M q2).bind (fun zq7 => if ¬ zq7.1 = 0 then (f85 zq7.2 x1 x3).bind (fun q14 => (f95 zq7.2 x2).bind (fun zq19 => (f96 zq19.2 q14 zq19.1).bind (fun zq25 => if zq25.1 = 0 then (some ((-1), zq25.2)) else (f97 zq25.2).bind (fun zq32 => if zq32.1 = 0 then (f103 zq32.2).bind (fun zq39 => if ¬ x2 = 2 then (f105 zq39.2 (-1)).bind (fun zq46 => if ¬ zq46.1 = 0 then (some (zq46.1, zq46.2)) else (f119 zq46.2 x1 x2 x3).bind (fun q53 => (f120_24 zq46.2 q53).bind (fun zq58 => some (zq46.1, zq58.2)))) else (f104 zq39.2 x1).bind (fun q64 => (f105 zq39.2 q64).bind (fun zq69 => if ¬ zq69.1 = 0 then (some (zq69.1, zq69.2)) else (f119 zq69.2 x1 x2 x3).bind (fun q76 => (f120_24 zq69.2 q76).bind (fun zq81 => some (zq69.1, zq81.2)))))) else (some ((-1), zq32.2)))))) else (some ((-1), zq7.2))))
theorem c63 {L : Nat} {xs : Nat → Int32} {h : mvH} {M : Mm} {x1 x2 x3 : Int} {v : Int} {M' : Mm} (R : rp h M) (rx1 : rg x1) (rx2 : rg x2) (rx3 : rg x3) (hs : f63 M x1 x2 x3 = some (v, M')) : evx L xs 7 63 0 [(0, .inr (.inr (.inl (some 42)))), (1, .inl (iz x1)), (2, .inl (iz x2)), (3, .inl (iz x3))] [] h (.inl (some (.inl v)), 0) M' := by
  unfold f63 at hs
  refine evx_F E63 D63_0 rfl rfl ?_
  refine evx_gfr E63 D63_1 F63_32 H42 rfl R ?_
  refine evx_F E63 D63_4 rfl rfl ?_
  refine evx_gfr E63 D63_5 F63_24 H42 rfl R ?_
  refine evx_F E63 D63_8 rfl rfl ?_
  refine evx_F E63 D63_9 rfl rfl ?_
  refine evx_F E63 D63_10 rfl rfl ?_
  obtain ⟨q2, e1, hs⟩ := Option.bind_eq_some_iff.mp hs
  refine evx_cv (D := 6) E63 D63_11 I63_102 rfl rfl H5 ⟨Nat.le_of_ble_eq_true rfl, Nat.le_of_ble_eq_true rfl⟩ ⟨rfl, Nat.le_of_ble_eq_true rfl⟩ rfl R (evx_up (Nat.le_of_ble_eq_true rfl) (c64 R rx1 rx2 rx3 e1)) ?_
  intro h3 R4 w5
  have w5 : rg q2 := w5
  show evx _ _ _ _ _ _ (.inl (iz q2) :: _) _ _ _
  obtain ⟨⟨q7, M11⟩, e6, hs⟩ := Option.bind_eq_some_iff.mp hs
  dsimp only at hs
  refine evx_cv (D := 6) E63 D63_14 I63_58 rfl rfl H24 ⟨Nat.le_of_ble_eq_true rfl, Nat.le_of_ble_eq_true rfl⟩ ⟨rfl, Nat.le_of_ble_eq_true rfl⟩ rfl R4 (evx_up (Nat.le_of_ble_eq_true rfl) (c65 R4 w5 e6)) ?_
  intro h8 R9 w10
  have w10 : rg q7 := w10
  show evx _ _ _ _ _ _ (.inl (iz q7) :: _) _ _ _
  by_cases cb12 : ¬ q7 = 0
  · rw [if_pos cb12] at hs
    refine evx_F E63 D63_17 rfl (ifT (c1_ne_T w10 cb12)) ?_
    refine evx_F E63 D63_22 rfl rfl ?_
    refine evx_gfr E63 D63_23 F63_32 H42 rfl R9 ?_
    refine evx_F E63 D63_26 rfl rfl ?_
    refine evx_gfr E63 D63_27 F63_24 H42 rfl R9 ?_
    refine evx_F E63 D63_30 rfl rfl ?_
    refine evx_F E63 D63_31 rfl rfl ?_
    obtain ⟨q14, e13, hs⟩ := Option.bind_eq_some_iff.mp hs
    refine evx_cv (D := 6) E63 D63_32 I63_108 rfl rfl H5 ⟨Nat.le_of_ble_eq_true rfl, Nat.le_of_ble_eq_true rfl⟩ ⟨rfl, Nat.le_of_ble_eq_true rfl⟩ rfl R9 (evx_up (Nat.le_of_ble_eq_true rfl) (c85 R9 rx1 rx3 e13)) ?_
    intro h15 R16 w17
    have w17 : rg q14 := w17
    show evx _ _ _ _ _ _ (.inl (iz q14) :: _) _ _ _
    refine evx_F E63 D63_35 rfl rfl ?_
    refine evx_F E63 D63_36 rfl rfl ?_
    obtain ⟨⟨q19, M23⟩, e18, hs⟩ := Option.bind_eq_some_iff.mp hs
    dsimp only at hs
    refine evx_cv (D := 6) E63 D63_37 I63_112 rfl rfl H42 ⟨Nat.le_of_ble_eq_true rfl, Nat.le_of_ble_eq_true rfl⟩ ⟨rfl, Nat.le_of_ble_eq_true rfl⟩ rfl R16 (evx_up (Nat.le_of_ble_eq_true rfl) (c95 R16 rx2 e18)) ?_
    intro h20 R21 w22
    have w22 : rg q19 := w22
    show evx _ _ _ _ _ _ (.inl (iz q19) :: _) _ _ _
    obtain ⟨⟨q25, M29⟩, e24, hs⟩ := Option.bind_eq_some_iff.mp hs
    dsimp only at hs
    refine evx_cv (D := 6) E63 D63_40 I63_115 rfl rfl H24 ⟨Nat.le_of_ble_eq_true rfl, Nat.le_of_ble_eq_true rfl⟩ ⟨rfl, Nat.le_of_ble_eq_true rfl⟩ rfl R21 (evx_up (Nat.le_of_ble_eq_true rfl) (c96 R21 w17 w22 e24)) ?_
    intro h26 R27 w28
    have w28 : rg q25 := w28
    show evx _ _ _ _ _ _ (.inl (iz q25) :: _) _ _ _
    by_cases cb30 : q25 = 0
    · rw [if_pos cb30] at hs
      refine evx_F E63 D63_43 rfl (ifT (c1_eq_T w28 cb30)) ?_
      refine evx_F E63 D63_56 rfl rfl ?_
      cases hs
      exact evx_ret E63 D63_57 rfl (fun d => rfl) rfl (show rg _ from (by decide)) R27
    · rw [if_neg cb30] at hs
      refine evx_F E63 D63_43 rfl (ifF (c1_eq_F w28 (by omega))) ?_
      refine evx_F E63 D63_46 rfl rfl ?_
      refine evx_gfr E63 D63_47 F63_46 H42 rfl R27 ?_
      obtain ⟨⟨q32, M36⟩, e31, hs⟩ := Option.bind_eq_some_iff.mp hs
      dsimp only at hs
      refine evx_cv (D := 6) E63 D63_50 I63_62 rfl rfl H25 ⟨Nat.le_of_ble_eq_true rfl, Nat.le_of_ble_eq_true rfl⟩ ⟨rfl, Nat.le_of_ble_eq_true rfl⟩ rfl R27 (evx_up (Nat.le_of_ble_eq_true rfl) (c97 R27  e31)) ?_
      intro h33 R34 w35
      have w35 : rg q32 := w35
      show evx _ _ _ _ _ _ (.inl (iz q32) :: _) _ _ _
      by_cases cb37 : q32 = 0
      · rw [if_pos cb37] at hs
        refine evx_F E63 D63_53 rfl (ifT (c1_eq_T w35 cb37)) ?_
        refine evx_F E63 D63_58 rfl rfl ?_
        refine evx_gfr E63 D63_59 F63_46 H42 rfl R34 ?_
        obtain ⟨⟨q39, M43⟩, e38, hs⟩ := Option.bind_eq_some_iff.mp hs
        dsimp only at hs
        refine evx_cv (D := 6) E63 D63_62 I63_119 rfl rfl H25 ⟨Nat.le_of_ble_eq_true rfl, Nat.le_of_ble_eq_true rfl⟩ ⟨rfl, Nat.le_of_ble_eq_true rfl⟩ rfl R34 (evx_up (Nat.le_of_ble_eq_true rfl) (c103 R34  e38)) ?_
        intro h40 R41 w42
        refine evx_F E63 D63_65 rfl rfl ?_
        refine evx_gfr E63 D63_66 F63_54 H42 rfl R41 ?_
        refine evx_F E63 D63_69 rfl rfl ?_
        refine evx_F E63 D63_70 rfl rfl ?_
        by_cases cb44 : ¬ x2 = 2
        · rw [if_pos cb44] at hs
          refine evx_F E63 D63_71 rfl (ifT (c2_ne_T rx2 (by decide) cb44)) ?_
          refine evx_F E63 D63_85 rfl rfl ?_
          obtain ⟨⟨q46, M50⟩, e45, hs⟩ := Option.bind_eq_some_iff.mp hs
          dsimp only at hs
          refine evx_cv (D := 6) E63 D63_86 I63_74 rfl rfl H45 ⟨Nat.le_of_ble_eq_true rfl, Nat.le_of_ble_eq_true rfl⟩ ⟨rfl, Nat.le_of_ble_eq_true rfl⟩ rfl R41 (evx_up (Nat.le_of_ble_eq_true rfl) (c105 R41 (by decide) e45)) ?_
          intro h47 R48 w49
          have w49 : rg q46 := w49
          show evx _ _ _ _ _ _ (.inl (iz q46) :: _) _ _ _
          refine evx_F E63 D63_89 rfl rfl ?_
          refine evx_F E63 D63_91 rfl rfl ?_
          by_cases cb51 : ¬ q46 = 0
          · rw [if_pos cb51] at hs
            refine evx_F E63 D63_93 rfl (ifT (c1_ne_T w49 cb51)) ?_
            refine evx_F E63 D63_113 rfl rfl ?_
            cases hs
            exact evx_ret E63 D63_115 rfl (fun d => rfl) rfl (show rg _ from w49) R48
          · rw [if_neg cb51] at hs
            refine evx_F E63 D63_93 rfl (ifF (c1_ne_F w49 (by omega))) ?_
            refine evx_F E63 D63_96 rfl rfl ?_
            refine evx_gfr E63 D63_97 F63_36 H42 rfl R48 ?_
            refine evx_F E63 D63_100 rfl rfl ?_
            refine evx_F E63 D63_101 rfl rfl ?_
            refine evx_F E63 D63_102 rfl rfl ?_
            obtain ⟨q53, e52, hs⟩ := Option.bind_eq_some_iff.mp hs
            refine evx_cs (D := 6) E63 D63_103 I63_125 rfl rfl (Nat.le_of_ble_eq_true rfl) ⟨rfl, Nat.le_of_ble_eq_true rfl⟩ rfl (evx_up (Nat.le_of_ble_eq_true rfl) (c119 R48 rx1 rx2 rx3 e52)) ?_
            intro h54 R55 w56
            have w56 : rg q53 := w56
            show evx _ _ _ _ _ _ (.inl (iz q53) :: _) _ _ _
            refine evx_F E63 D63_106 rfl rfl ?_
            refine evx_gfr E63 D63_107 F63_32 H42 rfl R55 ?_
            obtain ⟨⟨q58, M62⟩, e57, hs⟩ := Option.bind_eq_some_iff.mp hs
            dsimp only at hs
            refine evx_cv (D := 6) E63 D63_110 I63_98 rfl rfl H22 ⟨Nat.le_of_ble_eq_true rfl, Nat.le_of_ble_eq_true rfl⟩ ⟨rfl, Nat.le_of_ble_eq_true rfl⟩ rfl R55 (evx_up (Nat.le_of_ble_eq_true rfl) (c120_24 R55 w56 e57)) ?_
            intro h59 R60 w61
            refine evx_F E63 D63_113 rfl rfl ?_
            cases hs
            exact evx_ret E63 D63_115 rfl (fun d => rfl) rfl (show rg _ from w49) R60
        · rw [if_neg cb44] at hs
          refine evx_F E63 D63_71 rfl (ifF (c2_ne_F rx2 (by decide) (by omega))) ?_
          refine evx_F E63 D63_74 rfl rfl ?_
          refine evx_gfr E63 D63_75 F63_24 H42 rfl R41 ?_
          refine evx_F E63 D63_78 rfl rfl ?_
          obtain ⟨q64, e63, hs⟩ := Option.bind_eq_some_iff.mp hs
          refine evx_cv (D := 6) E63 D63_79 I63_122 rfl rfl H5 ⟨Nat.le_of_ble_eq_true rfl, Nat.le_of_ble_eq_true rfl⟩ ⟨rfl, Nat.le_of_ble_eq_true rfl⟩ rfl R41 (evx_up (Nat.le_of_ble_eq_true rfl) (c104 R41 rx1 e63)) ?_
          intro h65 R66 w67
          have w67 : rg q64 := w67
          show evx _ _ _ _ _ _ (.inl (iz q64) :: _) _ _ _
          refine evx_F E63 D63_82 rfl rfl ?_
          obtain ⟨⟨q69, M73⟩, e68, hs⟩ := Option.bind_eq_some_iff.mp hs
          dsimp only at hs
          refine evx_cv (D := 6) E63 D63_86 I63_74 rfl rfl H45 ⟨Nat.le_of_ble_eq_true rfl, Nat.le_of_ble_eq_true rfl⟩ ⟨rfl, Nat.le_of_ble_eq_true rfl⟩ rfl R66 (evx_up (Nat.le_of_ble_eq_true rfl) (c105 R66 w67 e68)) ?_
          intro h70 R71 w72
          have w72 : rg q69 := w72
          show evx _ _ _ _ _ _ (.inl (iz q69) :: _) _ _ _
          refine evx_F E63 D63_89 rfl rfl ?_
          refine evx_F E63 D63_91 rfl rfl ?_
          by_cases cb74 : ¬ q69 = 0
          · rw [if_pos cb74] at hs
            refine evx_F E63 D63_93 rfl (ifT (c1_ne_T w72 cb74)) ?_
            refine evx_F E63 D63_113 rfl rfl ?_
            cases hs
            exact evx_ret E63 D63_115 rfl (fun d => rfl) rfl (show rg _ from w72) R71
          · rw [if_neg cb74] at hs
            refine evx_F E63 D63_93 rfl (ifF (c1_ne_F w72 (by omega))) ?_
            refine evx_F E63 D63_96 rfl rfl ?_
            refine evx_gfr E63 D63_97 F63_36 H42 rfl R71 ?_
            refine evx_F E63 D63_100 rfl rfl ?_
            refine evx_F E63 D63_101 rfl rfl ?_
            refine evx_F E63 D63_102 rfl rfl ?_
            obtain ⟨q76, e75, hs⟩ := Option.bind_eq_some_iff.mp hs
            refine evx_cs (D := 6) E63 D63_103 I63_125 rfl rfl (Nat.le_of_ble_eq_true rfl) ⟨rfl, Nat.le_of_ble_eq_true rfl⟩ rfl (evx_up (Nat.le_of_ble_eq_true rfl) (c119 R71 rx1 rx2 rx3 e75)) ?_
            intro h77 R78 w79
            have w79 : rg q76 := w79
            show evx _ _ _ _ _ _ (.inl (iz q76) :: _) _ _ _
            refine evx_F E63 D63_106 rfl rfl ?_
            refine evx_gfr E63 D63_107 F63_32 H42 rfl R78 ?_
            obtain ⟨⟨q81, M85⟩, e80, hs⟩ := Option.bind_eq_some_iff.mp hs
            dsimp only at hs
            refine evx_cv (D := 6) E63 D63_110 I63_98 rfl rfl H22 ⟨Nat.le_of_ble_eq_true rfl, Nat.le_of_ble_eq_true rfl⟩ ⟨rfl, Nat.le_of_ble_eq_true rfl⟩ rfl R78 (evx_up (Nat.le_of_ble_eq_true rfl) (c120_24 R78 w79 e80)) ?_
            intro h82 R83 w84
            refine evx_F E63 D63_113 rfl rfl ?_
            cases hs
            exact evx_ret E63 D63_115 rfl (fun d => rfl) rfl (show rg _ from w72) R83
      · rw [if_neg cb37] at hs
        refine evx_F E63 D63_53 rfl (ifF (c1_eq_F w35 (by omega))) ?_
        refine evx_F E63 D63_56 rfl rfl ?_
        cases hs
        exact evx_ret E63 D63_57 rfl (fun d => rfl) rfl (show rg _ from (by decide)) R34
  · rw [if_neg cb12] at hs
    refine evx_F E63 D63_17 rfl (ifF (c1_ne_F w10 (by omega))) ?_
    refine evx_F E63 D63_20 rfl rfl ?_
    cases hs
    exact evx_ret E63 D63_21 rfl (fun d => rfl) rfl (show rg _ from (by decide)) R9
