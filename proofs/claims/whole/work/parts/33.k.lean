/-! More methods as functions, printed by a program. -/
set_option maxRecDepth 20000 in
theorem E215 : pgMm 215 = some (⟨"DictionaryHouseModel", "typePlace", "(I)Z"⟩, prog_14_method_38_code, 5, (some .boolean), []) := rfl
theorem D215_0 : pgDecT 215 0 = some (.aload_n 0, 1) := by decide +kernel
theorem D215_1 : pgDecT 215 1 = some (.getfield 103, 3) := by decide +kernel
theorem F215_103 : pgFf 215 103 = some (12, 37, 3) := by decide +kernel
theorem D215_4 : pgDecT 215 4 = some (.iload_n 1, 1) := by decide +kernel
theorem D215_5 : pgDecT 215 5 = some (.iaload, 1) := by decide +kernel
theorem D215_6 : pgDecT 215 6 = some (.istore_n 2, 1) := by decide +kernel
theorem D215_7 : pgDecT 215 7 = some (.aload_n 0, 1) := by decide +kernel
theorem D215_8 : pgDecT 215 8 = some (.getfield 106, 3) := by decide +kernel
theorem F215_106 : pgFf 215 106 = some (12, 38, 3) := by decide +kernel
theorem D215_11 : pgDecT 215 11 = some (.iload_n 1, 1) := by decide +kernel
theorem D215_12 : pgDecT 215 12 = some (.iaload, 1) := by decide +kernel
theorem D215_13 : pgDecT 215 13 = some (.istore_n 3, 1) := by decide +kernel
theorem D215_14 : pgDecT 215 14 = some (.aload_n 0, 1) := by decide +kernel
theorem D215_15 : pgDecT 215 15 = some (.getfield 38, 3) := by decide +kernel
theorem F215_38 : pgFf 215 38 = some (12, 13, 3) := by decide +kernel
theorem D215_18 : pgDecT 215 18 = some (.iload_n 2, 1) := by decide +kernel
theorem D215_19 : pgDecT 215 19 = some (.iaload, 1) := by decide +kernel
theorem D215_20 : pgDecT 215 20 = some (.tableswitch 189 0 5 #[40, 53, 69, 104, 128, 166], 40) := by decide +kernel
theorem D215_60 : pgDecT 215 60 = some (.aload_n 0, 1) := by decide +kernel
theorem D215_61 : pgDecT 215 61 = some (.iload_n 3, 1) := by decide +kernel
theorem D215_62 : pgDecT 215 62 = some (.aload_n 0, 1) := by decide +kernel
theorem D215_63 : pgDecT 215 63 = some (.iconst 0, 1) := by decide +kernel
theorem D215_64 : pgDecT 215 64 = some (.iconst 0, 1) := by decide +kernel
theorem D215_65 : pgDecT 215 65 = some (.iconst 0, 1) := by decide +kernel
theorem D215_66 : pgDecT 215 66 = some (.invokevirtual 229, 3) := by decide +kernel
theorem I215_229 : pgIi 215 229 = some (214, 3, 12) := by decide +kernel
theorem D215_69 : pgDecT 215 69 = some (.invokevirtual 256, 3) := by decide +kernel
theorem I215_256 : pgIi 215 256 = some (216, 2, 12) := by decide +kernel
theorem D215_72 : pgDecT 215 72 = some (.ireturn, 1) := by decide +kernel
theorem D215_73 : pgDecT 215 73 = some (.aload_n 0, 1) := by decide +kernel
theorem D215_74 : pgDecT 215 74 = some (.iload_n 3, 1) := by decide +kernel
theorem D215_75 : pgDecT 215 75 = some (.aload_n 0, 1) := by decide +kernel
theorem D215_76 : pgDecT 215 76 = some (.aload_n 0, 1) := by decide +kernel
theorem D215_77 : pgDecT 215 77 = some (.getfield 41, 3) := by decide +kernel
theorem F215_41 : pgFf 215 41 = some (12, 14, 3) := by decide +kernel
theorem D215_80 : pgDecT 215 80 = some (.iload_n 2, 1) := by decide +kernel
theorem D215_81 : pgDecT 215 81 = some (.iaload, 1) := by decide +kernel
theorem D215_82 : pgDecT 215 82 = some (.invokevirtual 260, 3) := by decide +kernel
theorem I215_260 : pgIi 215 260 = some (218, 1, 12) := by decide +kernel
theorem D215_85 : pgDecT 215 85 = some (.invokevirtual 256, 3) := by decide +kernel
theorem D215_88 : pgDecT 215 88 = some (.ireturn, 1) := by decide +kernel
theorem D215_89 : pgDecT 215 89 = some (.aload_n 0, 1) := by decide +kernel
theorem D215_90 : pgDecT 215 90 = some (.iload_n 1, 1) := by decide +kernel
theorem D215_91 : pgDecT 215 91 = some (.aload_n 0, 1) := by decide +kernel
theorem D215_92 : pgDecT 215 92 = some (.getfield 41, 3) := by decide +kernel
theorem D215_95 : pgDecT 215 95 = some (.iload_n 2, 1) := by decide +kernel
theorem D215_96 : pgDecT 215 96 = some (.iaload, 1) := by decide +kernel
theorem D215_97 : pgDecT 215 97 = some (.invokevirtual 263, 3) := by decide +kernel
theorem I215_263 : pgIi 215 263 = some (220, 2, 12) := by decide +kernel
theorem D215_100 : pgDecT 215 100 = some (.istore 4, 2) := by decide +kernel
theorem D215_102 : pgDecT 215 102 = some (.iload 4, 2) := by decide +kernel
theorem D215_104 : pgDecT 215 104 = some (.iconst (-1), 1) := by decide +kernel
theorem D215_105 : pgDecT 215 105 = some (.if_icmp .eq 17, 3) := by decide +kernel
theorem D215_122 : pgDecT 215 122 = some (.iconst 0, 1) := by decide +kernel
theorem D215_123 : pgDecT 215 123 = some (.ireturn, 1) := by decide +kernel
theorem D215_108 : pgDecT 215 108 = some (.aload_n 0, 1) := by decide +kernel
theorem D215_109 : pgDecT 215 109 = some (.iload_n 3, 1) := by decide +kernel
theorem D215_110 : pgDecT 215 110 = some (.iload 4, 2) := by decide +kernel
theorem D215_112 : pgDecT 215 112 = some (.invokevirtual 256, 3) := by decide +kernel
theorem D215_115 : pgDecT 215 115 = some (.ifCond .eq 7, 3) := by decide +kernel
theorem D215_118 : pgDecT 215 118 = some (.iconst 1, 1) := by decide +kernel
theorem D215_119 : pgDecT 215 119 = some (.goto 4, 3) := by decide +kernel
theorem D215_124 : pgDecT 215 124 = some (.aload_n 0, 1) := by decide +kernel
theorem D215_125 : pgDecT 215 125 = some (.iload_n 3, 1) := by decide +kernel
theorem D215_126 : pgDecT 215 126 = some (.aload_n 0, 1) := by decide +kernel
theorem D215_127 : pgDecT 215 127 = some (.aload_n 0, 1) := by decide +kernel
theorem D215_128 : pgDecT 215 128 = some (.getfield 112, 3) := by decide +kernel
theorem F215_112 : pgFf 215 112 = some (12, 40, 3) := by decide +kernel
theorem D215_131 : pgDecT 215 131 = some (.iload_n 1, 1) := by decide +kernel
theorem D215_132 : pgDecT 215 132 = some (.iaload, 1) := by decide +kernel
theorem D215_133 : pgDecT 215 133 = some (.aload_n 0, 1) := by decide +kernel
theorem D215_134 : pgDecT 215 134 = some (.getfield 106, 3) := by decide +kernel
theorem D215_137 : pgDecT 215 137 = some (.iload_n 1, 1) := by decide +kernel
theorem D215_138 : pgDecT 215 138 = some (.iconst 1, 1) := by decide +kernel
theorem D215_139 : pgDecT 215 139 = some (.iadd, 1) := by decide +kernel
theorem D215_140 : pgDecT 215 140 = some (.iaload, 1) := by decide +kernel
theorem D215_141 : pgDecT 215 141 = some (.invokevirtual 232, 3) := by decide +kernel
theorem I215_232 : pgIi 215 232 = some (219, 2, 12) := by decide +kernel
theorem D215_144 : pgDecT 215 144 = some (.invokevirtual 256, 3) := by decide +kernel
theorem D215_147 : pgDecT 215 147 = some (.ireturn, 1) := by decide +kernel
theorem D215_148 : pgDecT 215 148 = some (.aload_n 0, 1) := by decide +kernel
theorem D215_149 : pgDecT 215 149 = some (.aload_n 0, 1) := by decide +kernel
theorem D215_150 : pgDecT 215 150 = some (.getfield 106, 3) := by decide +kernel
theorem D215_153 : pgDecT 215 153 = some (.iload_n 1, 1) := by decide +kernel
theorem D215_154 : pgDecT 215 154 = some (.iconst 1, 1) := by decide +kernel
theorem D215_155 : pgDecT 215 155 = some (.iadd, 1) := by decide +kernel
theorem D215_156 : pgDecT 215 156 = some (.iaload, 1) := by decide +kernel
theorem D215_157 : pgDecT 215 157 = some (.aload_n 0, 1) := by decide +kernel
theorem D215_158 : pgDecT 215 158 = some (.aload_n 0, 1) := by decide +kernel
theorem D215_159 : pgDecT 215 159 = some (.getfield 106, 3) := by decide +kernel
theorem D215_162 : pgDecT 215 162 = some (.iload_n 1, 1) := by decide +kernel
theorem D215_163 : pgDecT 215 163 = some (.iconst 1, 1) := by decide +kernel
theorem D215_164 : pgDecT 215 164 = some (.iadd, 1) := by decide +kernel
theorem D215_165 : pgDecT 215 165 = some (.aload_n 0, 1) := by decide +kernel
theorem D215_166 : pgDecT 215 166 = some (.getfield 47, 3) := by decide +kernel
theorem F215_47 : pgFf 215 47 = some (12, 16, 3) := by decide +kernel
theorem D215_169 : pgDecT 215 169 = some (.aload_n 0, 1) := by decide +kernel
theorem D215_170 : pgDecT 215 170 = some (.getfield 41, 3) := by decide +kernel
theorem D215_173 : pgDecT 215 173 = some (.iload_n 2, 1) := by decide +kernel
theorem D215_174 : pgDecT 215 174 = some (.iaload, 1) := by decide +kernel
theorem D215_175 : pgDecT 215 175 = some (.iaload, 1) := by decide +kernel
theorem D215_176 : pgDecT 215 176 = some (.iadd, 1) := by decide +kernel
theorem D215_177 : pgDecT 215 177 = some (.iaload, 1) := by decide +kernel
theorem D215_178 : pgDecT 215 178 = some (.iload_n 3, 1) := by decide +kernel
theorem D215_179 : pgDecT 215 179 = some (.invokevirtual 232, 3) := by decide +kernel
theorem D215_182 : pgDecT 215 182 = some (.invokevirtual 256, 3) := by decide +kernel
theorem D215_185 : pgDecT 215 185 = some (.ireturn, 1) := by decide +kernel
theorem D215_186 : pgDecT 215 186 = some (.aload_n 0, 1) := by decide +kernel
theorem D215_187 : pgDecT 215 187 = some (.iload_n 3, 1) := by decide +kernel
theorem D215_188 : pgDecT 215 188 = some (.aload_n 0, 1) := by decide +kernel
theorem D215_189 : pgDecT 215 189 = some (.iload_n 1, 1) := by decide +kernel
theorem D215_190 : pgDecT 215 190 = some (.aload_n 0, 1) := by decide +kernel
theorem D215_191 : pgDecT 215 191 = some (.getfield 41, 3) := by decide +kernel
theorem D215_194 : pgDecT 215 194 = some (.iload_n 2, 1) := by decide +kernel
theorem D215_195 : pgDecT 215 195 = some (.iaload, 1) := by decide +kernel
theorem D215_196 : pgDecT 215 196 = some (.aload_n 0, 1) := by decide +kernel
theorem D215_197 : pgDecT 215 197 = some (.getfield 44, 3) := by decide +kernel
theorem F215_44 : pgFf 215 44 = some (12, 15, 3) := by decide +kernel
theorem D215_200 : pgDecT 215 200 = some (.iload_n 2, 1) := by decide +kernel
theorem D215_201 : pgDecT 215 201 = some (.iaload, 1) := by decide +kernel
theorem D215_202 : pgDecT 215 202 = some (.invokevirtual 266, 3) := by decide +kernel
theorem I215_266 : pgIi 215 266 = some (221, 3, 12) := by decide +kernel
theorem D215_205 : pgDecT 215 205 = some (.invokevirtual 256, 3) := by decide +kernel
theorem D215_208 : pgDecT 215 208 = some (.ireturn, 1) := by decide +kernel
theorem D215_209 : pgDecT 215 209 = some (.aload_n 0, 1) := by decide +kernel
theorem D215_210 : pgDecT 215 210 = some (.iload_n 3, 1) := by decide +kernel
theorem D215_211 : pgDecT 215 211 = some (.aload_n 0, 1) := by decide +kernel
theorem D215_212 : pgDecT 215 212 = some (.iload_n 1, 1) := by decide +kernel
theorem D215_213 : pgDecT 215 213 = some (.aload_n 0, 1) := by decide +kernel
theorem D215_214 : pgDecT 215 214 = some (.getfield 41, 3) := by decide +kernel
theorem D215_217 : pgDecT 215 217 = some (.iload_n 2, 1) := by decide +kernel
theorem D215_218 : pgDecT 215 218 = some (.iaload, 1) := by decide +kernel
theorem D215_219 : pgDecT 215 219 = some (.invokevirtual 269, 3) := by decide +kernel
theorem I215_269 : pgIi 215 269 = some (224, 2, 12) := by decide +kernel
theorem D215_222 : pgDecT 215 222 = some (.invokevirtual 256, 3) := by decide +kernel
theorem D215_225 : pgDecT 215 225 = some (.ireturn, 1) := by decide +kernel
/-! 215: DictionaryHouseModel.typePlace (I)Z -/
def f215 (M : Mm) (x1 : Int) : Option (Int × Mm) := if 0 ≤ x1 ∧ x1 < 60 then (if 0 ≤ (M 84 (Int.toNat x1)) ∧ (M 84 (Int.toNat x1)) < 200 then (if (M 63 (Int.toNat (M 84 (Int.toNat x1)))) = 0 then (f214 M 0 0 0).bind (fun zq5 => (f216 zq5.2 (M 85 (Int.toNat x1)) zq5.1).bind (fun zq11 => if zq11.1 = 0 ∨ zq11.1 = 1 then (some (zq11.1, zq11.2)) else none)) else (if (M 63 (Int.toNat (M 84 (Int.toNat x1)))) = 1 then (f218 M (M 64 (Int.toNat (M 84 (Int.toNat x1))))).bind (fun zq19 => (f216 zq19.2 (M 85 (Int.toNat x1)) zq19.1).bind (fun zq25 => if zq25.1 = 0 ∨ zq25.1 = 1 then (some (zq25.1, zq25.2)) else none)) else (if (M 63 (Int.toNat (M 84 (Int.toNat x1)))) = 2 then (f220 M x1 (M 64 (Int.toNat (M 84 (Int.toNat x1))))).bind (fun q33 => if q33 = (-1) then (some (0, M)) else (f216 M (M 85 (Int.toNat x1)) q33).bind (fun zq39 => if zq39.1 = 0 then (some (0, zq39.2)) else (some (1, zq39.2)))) else (if (M 63 (Int.toNat (M 84 (Int.toNat x1)))) = 3 then (if 0 ≤ (x1 + 1) ∧ (x1 + 1) < 60 then (f219 M (M 87 (Int.toNat x1)) (M 85 (Int.toNat (x1 + 1)))).bind (fun zq48 => (f216 zq48.2 (M 85 (Int.toNat x1)) zq48.1).bind (fun zq54 => if zq54.1 = 0 ∨ zq54.1 = 1 then (some (zq54.1, zq54.2)) else none)) else none) else (if (M 63 (Int.toNat (M 84 (Int.toNat x1)))) = 4 then (if 0 ≤ (x1 + 1) ∧ (x1 + 1) < 60 then (if 0 ≤ (M 64 (Int.toNat (M 84 (Int.toNat x1)))) ∧ (M 64 (Int.toNat (M 84 (Int.toNat x1)))) < 200 then (if 0 ≤ ((x1 + 1) + (M 66 (Int.toNat (M 64 (Int.toNat (M 84 (Int.toNat x1))))))) ∧ ((x1 + 1) + (M 66 (Int.toNat (M 64 (Int.toNat (M 84 (Int.toNat x1))))))) < 60 then (f219 M (M 85 (Int.toNat ((x1 + 1) + (M 66 (Int.toNat (M 64 (Int.toNat (M 84 (Int.toNat x1))))))))) (M 85 (Int.toNat x1))).bind (fun zq65 => (f216 zq65.2 (M 85 (Int.toNat (x1 + 1))) zq65.1).bind (fun zq71 => if zq71.1 = 0 ∨ zq71.1 = 1 then (some (zq71.1, zq71.2)) else none)) else none) else none) else none) else (if (M 63 (Int.toNat (M 84 (Int.toNat x1)))) = 5 then (f221 M x1 (M 64 (Int.toNat (M 84 (Int.toNat x1)))) (M 65 (Int.toNat (M 84 (Int.toNat x1))))).bind (fun zq79 => (f216 zq79.2 (M 85 (Int.toNat x1)) zq79.1).bind (fun zq85 => if zq85.1 = 0 ∨ zq85.1 = 1 then (some (zq85.1, zq85.2)) else none)) else ((f224 M x1 (M 64 (Int.toNat (M 84 (Int.toNat x1))))).bind (fun zq92 => (f216 zq92.2 (M 85 (Int.toNat x1)) zq92.1).bind (fun zq98 => if zq98.1 = 0 ∨ zq98.1 = 1 then (some (zq98.1, zq98.2)) else none))))))))) else none) else none
theorem c215 {L : Nat} {xs : Nat → Int32} {h : mvH} {M : Mm} {x1 : Int} {v : Int} {M' : Mm} (R : rp h M) (rx1 : rg x1) (hs : f215 M x1 = some (v, M')) : evx L xs 5 215 0 [(0, .inr (.inr (.inl (some 53)))), (1, .inl (iz x1))] [] h (.inl (some (.inl v)), 0) M' := by
  unfold f215 at hs
  refine evx_F E215 D215_0 rfl rfl ?_
  refine evx_gfr E215 D215_1 F215_103 H53 rfl R ?_
  refine evx_F E215 D215_4 rfl rfl ?_
  obtain ⟨k1, hs⟩ := ck hs
  refine evx_ial E215 D215_5 H84 (by decide) R k1 ?_
  refine evx_F E215 D215_6 rfl rfl ?_
  refine evx_F E215 D215_7 rfl rfl ?_
  refine evx_gfr E215 D215_8 F215_106 H53 rfl R ?_
  refine evx_F E215 D215_11 rfl rfl ?_
  refine evx_ial E215 D215_12 H85 (by decide) R k1 ?_
  refine evx_F E215 D215_13 rfl rfl ?_
  refine evx_F E215 D215_14 rfl rfl ?_
  refine evx_gfr E215 D215_15 F215_38 H53 rfl R ?_
  refine evx_F E215 D215_18 rfl rfl ?_
  obtain ⟨k2, hs⟩ := ck hs
  refine evx_ial E215 D215_19 H63 (by decide) R k2 ?_
  by_cases cb3 : (M 63 (Int.toNat (M 84 (Int.toNat x1)))) = 0
  · rw [if_pos cb3] at hs
    refine evx_tsi (0) E215 D215_20 cb3 (by decide) (by decide) rfl rfl ?_
    refine evx_F E215 D215_60 rfl rfl ?_
    refine evx_F E215 D215_61 rfl rfl ?_
    refine evx_F E215 D215_62 rfl rfl ?_
    refine evx_F E215 D215_63 rfl rfl ?_
    refine evx_F E215 D215_64 rfl rfl ?_
    refine evx_F E215 D215_65 rfl rfl ?_
    obtain ⟨⟨q5, M9⟩, e4, hs⟩ := Option.bind_eq_some_iff.mp hs
    dsimp only at hs
    refine evx_cv (D := 4) E215 D215_66 I215_229 rfl rfl H53 ⟨Nat.le_of_ble_eq_true rfl, Nat.le_of_ble_eq_true rfl⟩ ⟨rfl, Nat.le_of_ble_eq_true rfl⟩ rfl R (evx_up (Nat.le_of_ble_eq_true rfl) (c214 R (by decide) (by decide) (by decide) e4)) ?_
    intro h6 R7 w8
    have w8 : rg q5 := w8
    show evx _ _ _ _ _ _ (.inl (iz q5) :: _) _ _ _
    obtain ⟨⟨q11, M15⟩, e10, hs⟩ := Option.bind_eq_some_iff.mp hs
    dsimp only at hs
    refine evx_cv (D := 4) E215 D215_69 I215_256 rfl rfl H53 ⟨Nat.le_of_ble_eq_true rfl, Nat.le_of_ble_eq_true rfl⟩ ⟨rfl, Nat.le_of_ble_eq_true rfl⟩ rfl R7 (evx_up (Nat.le_of_ble_eq_true rfl) (c216 R7 (R.1 85 (Int.toNat x1)) w8 e10)) ?_
    intro h12 R13 w14
    have w14 : rg q11 := w14
    show evx _ _ _ _ _ _ (.inl (iz q11) :: _) _ _ _
    obtain ⟨k16, hs⟩ := ck hs
    cases hs
    exact evx_retb E215 D215_72 rfl k16 R13
  · rw [if_neg cb3] at hs
    by_cases cb17 : (M 63 (Int.toNat (M 84 (Int.toNat x1)))) = 1
    · rw [if_pos cb17] at hs
      refine evx_tsi (1) E215 D215_20 cb17 (by decide) (by decide) rfl rfl ?_
      refine evx_F E215 D215_73 rfl rfl ?_
      refine evx_F E215 D215_74 rfl rfl ?_
      refine evx_F E215 D215_75 rfl rfl ?_
      refine evx_F E215 D215_76 rfl rfl ?_
      refine evx_gfr E215 D215_77 F215_41 H53 rfl R ?_
      refine evx_F E215 D215_80 rfl rfl ?_
      refine evx_ial E215 D215_81 H64 (by decide) R k2 ?_
      obtain ⟨⟨q19, M23⟩, e18, hs⟩ := Option.bind_eq_some_iff.mp hs
      dsimp only at hs
      refine evx_cv (D := 4) E215 D215_82 I215_260 rfl rfl H53 ⟨Nat.le_of_ble_eq_true rfl, Nat.le_of_ble_eq_true rfl⟩ ⟨rfl, Nat.le_of_ble_eq_true rfl⟩ rfl R (evx_up (Nat.le_of_ble_eq_true rfl) (c218 R (R.1 64 (Int.toNat (M 84 (Int.toNat x1)))) e18)) ?_
      intro h20 R21 w22
      have w22 : rg q19 := w22
      show evx _ _ _ _ _ _ (.inl (iz q19) :: _) _ _ _
      obtain ⟨⟨q25, M29⟩, e24, hs⟩ := Option.bind_eq_some_iff.mp hs
      dsimp only at hs
      refine evx_cv (D := 4) E215 D215_85 I215_256 rfl rfl H53 ⟨Nat.le_of_ble_eq_true rfl, Nat.le_of_ble_eq_true rfl⟩ ⟨rfl, Nat.le_of_ble_eq_true rfl⟩ rfl R21 (evx_up (Nat.le_of_ble_eq_true rfl) (c216 R21 (R.1 85 (Int.toNat x1)) w22 e24)) ?_
      intro h26 R27 w28
      have w28 : rg q25 := w28
      show evx _ _ _ _ _ _ (.inl (iz q25) :: _) _ _ _
      obtain ⟨k30, hs⟩ := ck hs
      cases hs
      exact evx_retb E215 D215_88 rfl k30 R27
    · rw [if_neg cb17] at hs
      by_cases cb31 : (M 63 (Int.toNat (M 84 (Int.toNat x1)))) = 2
      · rw [if_pos cb31] at hs
        refine evx_tsi (2) E215 D215_20 cb31 (by decide) (by decide) rfl rfl ?_
        refine evx_F E215 D215_89 rfl rfl ?_
        refine evx_F E215 D215_90 rfl rfl ?_
        refine evx_F E215 D215_91 rfl rfl ?_
        refine evx_gfr E215 D215_92 F215_41 H53 rfl R ?_
        refine evx_F E215 D215_95 rfl rfl ?_
        refine evx_ial E215 D215_96 H64 (by decide) R k2 ?_
        obtain ⟨q33, e32, hs⟩ := Option.bind_eq_some_iff.mp hs
        refine evx_cv (D := 4) E215 D215_97 I215_263 rfl rfl H53 ⟨Nat.le_of_ble_eq_true rfl, Nat.le_of_ble_eq_true rfl⟩ ⟨rfl, Nat.le_of_ble_eq_true rfl⟩ rfl R (evx_up (Nat.le_of_ble_eq_true rfl) (c220 R rx1 (R.1 64 (Int.toNat (M 84 (Int.toNat x1)))) e32)) ?_
        intro h34 R35 w36
        have w36 : rg q33 := w36
        show evx _ _ _ _ _ _ (.inl (iz q33) :: _) _ _ _
        refine evx_F E215 D215_100 rfl rfl ?_
        refine evx_F E215 D215_102 rfl rfl ?_
        refine evx_F E215 D215_104 rfl rfl ?_
        by_cases cb37 : q33 = (-1)
        · rw [if_pos cb37] at hs
          refine evx_F E215 D215_105 rfl (ifT (c2_eq_T w36 (by decide) cb37)) ?_
          refine evx_F E215 D215_122 rfl rfl ?_
          cases hs
          exact evx_ret E215 D215_123 rfl (fun d => rfl) rfl (show rg _ from (by decide)) R35
        · rw [if_neg cb37] at hs
          refine evx_F E215 D215_105 rfl (ifF (c2_eq_F w36 (by decide) (by omega))) ?_
          refine evx_F E215 D215_108 rfl rfl ?_
          refine evx_F E215 D215_109 rfl rfl ?_
          refine evx_F E215 D215_110 rfl rfl ?_
          obtain ⟨⟨q39, M43⟩, e38, hs⟩ := Option.bind_eq_some_iff.mp hs
          dsimp only at hs
          refine evx_cv (D := 4) E215 D215_112 I215_256 rfl rfl H53 ⟨Nat.le_of_ble_eq_true rfl, Nat.le_of_ble_eq_true rfl⟩ ⟨rfl, Nat.le_of_ble_eq_true rfl⟩ rfl R35 (evx_up (Nat.le_of_ble_eq_true rfl) (c216 R35 (R.1 85 (Int.toNat x1)) w36 e38)) ?_
          intro h40 R41 w42
          have w42 : rg q39 := w42
          show evx _ _ _ _ _ _ (.inl (iz q39) :: _) _ _ _
          by_cases cb44 : q39 = 0
          · rw [if_pos cb44] at hs
            refine evx_F E215 D215_115 rfl (ifT (c1_eq_T w42 cb44)) ?_
            refine evx_F E215 D215_122 rfl rfl ?_
            cases hs
            exact evx_ret E215 D215_123 rfl (fun d => rfl) rfl (show rg _ from (by decide)) R41
          · rw [if_neg cb44] at hs
            refine evx_F E215 D215_115 rfl (ifF (c1_eq_F w42 (by omega))) ?_
            refine evx_F E215 D215_118 rfl rfl ?_
            refine evx_F E215 D215_119 rfl rfl ?_
            cases hs
            exact evx_ret E215 D215_123 rfl (fun d => rfl) rfl (show rg _ from (by decide)) R41
      · rw [if_neg cb31] at hs
        by_cases cb45 : (M 63 (Int.toNat (M 84 (Int.toNat x1)))) = 3
        · rw [if_pos cb45] at hs
          refine evx_tsi (3) E215 D215_20 cb45 (by decide) (by decide) rfl rfl ?_
          refine evx_F E215 D215_124 rfl rfl ?_
          refine evx_F E215 D215_125 rfl rfl ?_
          refine evx_F E215 D215_126 rfl rfl ?_
          refine evx_F E215 D215_127 rfl rfl ?_
          refine evx_gfr E215 D215_128 F215_112 H53 rfl R ?_
          refine evx_F E215 D215_131 rfl rfl ?_
          refine evx_ial E215 D215_132 H87 (by decide) R k1 ?_
          refine evx_F E215 D215_133 rfl rfl ?_
          refine evx_gfr E215 D215_134 F215_106 H53 rfl R ?_
          refine evx_F E215 D215_137 rfl rfl ?_
          refine evx_F E215 D215_138 rfl rfl ?_
          refine evx_add E215 D215_139 ?_
          obtain ⟨k46, hs⟩ := ck hs
          refine evx_ial E215 D215_140 H85 (by decide) R k46 ?_
          obtain ⟨⟨q48, M52⟩, e47, hs⟩ := Option.bind_eq_some_iff.mp hs
          dsimp only at hs
          refine evx_cv (D := 4) E215 D215_141 I215_232 rfl rfl H53 ⟨Nat.le_of_ble_eq_true rfl, Nat.le_of_ble_eq_true rfl⟩ ⟨rfl, Nat.le_of_ble_eq_true rfl⟩ rfl R (evx_up (Nat.le_of_ble_eq_true rfl) (c219 R (R.1 87 (Int.toNat x1)) (R.1 85 (Int.toNat (x1 + 1))) e47)) ?_
          intro h49 R50 w51
          have w51 : rg q48 := w51
          show evx _ _ _ _ _ _ (.inl (iz q48) :: _) _ _ _
          obtain ⟨⟨q54, M58⟩, e53, hs⟩ := Option.bind_eq_some_iff.mp hs
          dsimp only at hs
          refine evx_cv (D := 4) E215 D215_144 I215_256 rfl rfl H53 ⟨Nat.le_of_ble_eq_true rfl, Nat.le_of_ble_eq_true rfl⟩ ⟨rfl, Nat.le_of_ble_eq_true rfl⟩ rfl R50 (evx_up (Nat.le_of_ble_eq_true rfl) (c216 R50 (R.1 85 (Int.toNat x1)) w51 e53)) ?_
          intro h55 R56 w57
          have w57 : rg q54 := w57
          show evx _ _ _ _ _ _ (.inl (iz q54) :: _) _ _ _
          obtain ⟨k59, hs⟩ := ck hs
          cases hs
          exact evx_retb E215 D215_147 rfl k59 R56
        · rw [if_neg cb45] at hs
          by_cases cb60 : (M 63 (Int.toNat (M 84 (Int.toNat x1)))) = 4
          · rw [if_pos cb60] at hs
            refine evx_tsi (4) E215 D215_20 cb60 (by decide) (by decide) rfl rfl ?_
            refine evx_F E215 D215_148 rfl rfl ?_
            refine evx_F E215 D215_149 rfl rfl ?_
            refine evx_gfr E215 D215_150 F215_106 H53 rfl R ?_
            refine evx_F E215 D215_153 rfl rfl ?_
            refine evx_F E215 D215_154 rfl rfl ?_
            refine evx_add E215 D215_155 ?_
            obtain ⟨k61, hs⟩ := ck hs
            refine evx_ial E215 D215_156 H85 (by decide) R k61 ?_
            refine evx_F E215 D215_157 rfl rfl ?_
            refine evx_F E215 D215_158 rfl rfl ?_
            refine evx_gfr E215 D215_159 F215_106 H53 rfl R ?_
            refine evx_F E215 D215_162 rfl rfl ?_
            refine evx_F E215 D215_163 rfl rfl ?_
            refine evx_add E215 D215_164 ?_
            refine evx_F E215 D215_165 rfl rfl ?_
            refine evx_gfr E215 D215_166 F215_47 H53 rfl R ?_
            refine evx_F E215 D215_169 rfl rfl ?_
            refine evx_gfr E215 D215_170 F215_41 H53 rfl R ?_
            refine evx_F E215 D215_173 rfl rfl ?_
            refine evx_ial E215 D215_174 H64 (by decide) R k2 ?_
            obtain ⟨k62, hs⟩ := ck hs
            refine evx_ial E215 D215_175 H66 (by decide) R k62 ?_
            refine evx_add E215 D215_176 ?_
            obtain ⟨k63, hs⟩ := ck hs
            refine evx_ial E215 D215_177 H85 (by decide) R k63 ?_
            refine evx_F E215 D215_178 rfl rfl ?_
            obtain ⟨⟨q65, M69⟩, e64, hs⟩ := Option.bind_eq_some_iff.mp hs
            dsimp only at hs
            refine evx_cv (D := 4) E215 D215_179 I215_232 rfl rfl H53 ⟨Nat.le_of_ble_eq_true rfl, Nat.le_of_ble_eq_true rfl⟩ ⟨rfl, Nat.le_of_ble_eq_true rfl⟩ rfl R (evx_up (Nat.le_of_ble_eq_true rfl) (c219 R (R.1 85 (Int.toNat ((x1 + 1) + (M 66 (Int.toNat (M 64 (Int.toNat (M 84 (Int.toNat x1))))))))) (R.1 85 (Int.toNat x1)) e64)) ?_
            intro h66 R67 w68
            have w68 : rg q65 := w68
            show evx _ _ _ _ _ _ (.inl (iz q65) :: _) _ _ _
            obtain ⟨⟨q71, M75⟩, e70, hs⟩ := Option.bind_eq_some_iff.mp hs
            dsimp only at hs
            refine evx_cv (D := 4) E215 D215_182 I215_256 rfl rfl H53 ⟨Nat.le_of_ble_eq_true rfl, Nat.le_of_ble_eq_true rfl⟩ ⟨rfl, Nat.le_of_ble_eq_true rfl⟩ rfl R67 (evx_up (Nat.le_of_ble_eq_true rfl) (c216 R67 (R.1 85 (Int.toNat (x1 + 1))) w68 e70)) ?_
            intro h72 R73 w74
            have w74 : rg q71 := w74
            show evx _ _ _ _ _ _ (.inl (iz q71) :: _) _ _ _
            obtain ⟨k76, hs⟩ := ck hs
            cases hs
            exact evx_retb E215 D215_185 rfl k76 R73
          · rw [if_neg cb60] at hs
            by_cases cb77 : (M 63 (Int.toNat (M 84 (Int.toNat x1)))) = 5
            · rw [if_pos cb77] at hs
              refine evx_tsi (5) E215 D215_20 cb77 (by decide) (by decide) rfl rfl ?_
              refine evx_F E215 D215_186 rfl rfl ?_
              refine evx_F E215 D215_187 rfl rfl ?_
              refine evx_F E215 D215_188 rfl rfl ?_
              refine evx_F E215 D215_189 rfl rfl ?_
              refine evx_F E215 D215_190 rfl rfl ?_
              refine evx_gfr E215 D215_191 F215_41 H53 rfl R ?_
              refine evx_F E215 D215_194 rfl rfl ?_
              refine evx_ial E215 D215_195 H64 (by decide) R k2 ?_
              refine evx_F E215 D215_196 rfl rfl ?_
              refine evx_gfr E215 D215_197 F215_44 H53 rfl R ?_
              refine evx_F E215 D215_200 rfl rfl ?_
              refine evx_ial E215 D215_201 H65 (by decide) R k2 ?_
              obtain ⟨⟨q79, M83⟩, e78, hs⟩ := Option.bind_eq_some_iff.mp hs
              dsimp only at hs
              refine evx_cv (D := 4) E215 D215_202 I215_266 rfl rfl H53 ⟨Nat.le_of_ble_eq_true rfl, Nat.le_of_ble_eq_true rfl⟩ ⟨rfl, Nat.le_of_ble_eq_true rfl⟩ rfl R (evx_up (Nat.le_of_ble_eq_true rfl) (c221 R rx1 (R.1 64 (Int.toNat (M 84 (Int.toNat x1)))) (R.1 65 (Int.toNat (M 84 (Int.toNat x1)))) e78)) ?_
              intro h80 R81 w82
              have w82 : rg q79 := w82
              show evx _ _ _ _ _ _ (.inl (iz q79) :: _) _ _ _
              obtain ⟨⟨q85, M89⟩, e84, hs⟩ := Option.bind_eq_some_iff.mp hs
              dsimp only at hs
              refine evx_cv (D := 4) E215 D215_205 I215_256 rfl rfl H53 ⟨Nat.le_of_ble_eq_true rfl, Nat.le_of_ble_eq_true rfl⟩ ⟨rfl, Nat.le_of_ble_eq_true rfl⟩ rfl R81 (evx_up (Nat.le_of_ble_eq_true rfl) (c216 R81 (R.1 85 (Int.toNat x1)) w82 e84)) ?_
              intro h86 R87 w88
              have w88 : rg q85 := w88
              show evx _ _ _ _ _ _ (.inl (iz q85) :: _) _ _ _
              obtain ⟨k90, hs⟩ := ck hs
              cases hs
              exact evx_retb E215 D215_208 rfl k90 R87
            · rw [if_neg cb77] at hs
              refine evx_tso E215 D215_20 (R.1 63 (Int.toNat (M 84 (Int.toNat x1)))) (by omega) rfl ?_
              refine evx_F E215 D215_209 rfl rfl ?_
              refine evx_F E215 D215_210 rfl rfl ?_
              refine evx_F E215 D215_211 rfl rfl ?_
              refine evx_F E215 D215_212 rfl rfl ?_
              refine evx_F E215 D215_213 rfl rfl ?_
              refine evx_gfr E215 D215_214 F215_41 H53 rfl R ?_
              refine evx_F E215 D215_217 rfl rfl ?_
              refine evx_ial E215 D215_218 H64 (by decide) R k2 ?_
              obtain ⟨⟨q92, M96⟩, e91, hs⟩ := Option.bind_eq_some_iff.mp hs
              dsimp only at hs
              refine evx_cv (D := 4) E215 D215_219 I215_269 rfl rfl H53 ⟨Nat.le_of_ble_eq_true rfl, Nat.le_of_ble_eq_true rfl⟩ ⟨rfl, Nat.le_of_ble_eq_true rfl⟩ rfl R (evx_up (Nat.le_of_ble_eq_true rfl) (c224 R rx1 (R.1 64 (Int.toNat (M 84 (Int.toNat x1)))) e91)) ?_
              intro h93 R94 w95
              have w95 : rg q92 := w95
              show evx _ _ _ _ _ _ (.inl (iz q92) :: _) _ _ _
              obtain ⟨⟨q98, M102⟩, e97, hs⟩ := Option.bind_eq_some_iff.mp hs
              dsimp only at hs
              refine evx_cv (D := 4) E215 D215_222 I215_256 rfl rfl H53 ⟨Nat.le_of_ble_eq_true rfl, Nat.le_of_ble_eq_true rfl⟩ ⟨rfl, Nat.le_of_ble_eq_true rfl⟩ rfl R94 (evx_up (Nat.le_of_ble_eq_true rfl) (c216 R94 (R.1 85 (Int.toNat x1)) w95 e97)) ?_
              intro h99 R100 w101
              have w101 : rg q98 := w101
              show evx _ _ _ _ _ _ (.inl (iz q98) :: _) _ _ _
              obtain ⟨k103, hs⟩ := ck hs
              cases hs
              exact evx_retb E215 D215_225 rfl k103 R100
set_option maxRecDepth 20000 in
theorem E227 : pgMm 227 = some (⟨"DictionaryHouseModel", "followAll", "()V"⟩, prog_14_method_43_code, 2, none, []) := rfl
theorem D227_0 : pgDecT 227 0 = some (.aload_n 0, 1) := by decide +kernel
theorem D227_1 : pgDecT 227 1 = some (.iconst 0, 1) := by decide +kernel
theorem D227_2 : pgDecT 227 2 = some (.putfield 286, 3) := by decide +kernel
theorem F227_286 : pgFf 227 286 = some (12, 47, 1) := by decide +kernel
theorem D227_5 : pgDecT 227 5 = some (.aload_n 0, 1) := by decide +kernel
theorem D227_6 : pgDecT 227 6 = some (.iconst 0, 1) := by decide +kernel
theorem D227_7 : pgDecT 227 7 = some (.putfield 289, 3) := by decide +kernel
theorem F227_289 : pgFf 227 289 = some (12, 48, 1) := by decide +kernel
theorem D227_10 : pgDecT 227 10 = some (.aload_n 0, 1) := by decide +kernel
theorem D227_11 : pgDecT 227 11 = some (.iconst 0, 1) := by decide +kernel
theorem D227_12 : pgDecT 227 12 = some (.putfield 282, 3) := by decide +kernel
theorem F227_282 : pgFf 227 282 = some (12, 49, 1) := by decide +kernel
theorem D227_15 : pgDecT 227 15 = some (.iconst 0, 1) := by decide +kernel
theorem D227_16 : pgDecT 227 16 = some (.istore_n 1, 1) := by decide +kernel
theorem D227_17 : pgDecT 227 17 = some (.iload_n 1, 1) := by decide +kernel
theorem D227_18 : pgDecT 227 18 = some (.aload_n 0, 1) := by decide +kernel
theorem D227_19 : pgDecT 227 19 = some (.getfield 246, 3) := by decide +kernel
theorem F227_246 : pgFf 227 246 = some (12, 43, 0) := by decide +kernel
theorem D227_22 : pgDecT 227 22 = some (.if_icmp .ge 25, 3) := by decide +kernel
theorem D227_47 : pgDecT 227 47 = some (.return_, 1) := by decide +kernel
theorem D227_25 : pgDecT 227 25 = some (.aload_n 0, 1) := by decide +kernel
theorem D227_26 : pgDecT 227 26 = some (.aload_n 0, 1) := by decide +kernel
theorem D227_27 : pgDecT 227 27 = some (.getfield 121, 3) := by decide +kernel
theorem F227_121 : pgFf 227 121 = some (12, 44, 3) := by decide +kernel
theorem D227_30 : pgDecT 227 30 = some (.iload_n 1, 1) := by decide +kernel
theorem D227_31 : pgDecT 227 31 = some (.iaload, 1) := by decide +kernel
theorem D227_32 : pgDecT 227 32 = some (.aload_n 0, 1) := by decide +kernel
theorem D227_33 : pgDecT 227 33 = some (.getfield 124, 3) := by decide +kernel
theorem F227_124 : pgFf 227 124 = some (12, 45, 3) := by decide +kernel
theorem D227_36 : pgDecT 227 36 = some (.iload_n 1, 1) := by decide +kernel
theorem D227_37 : pgDecT 227 37 = some (.iaload, 1) := by decide +kernel
theorem D227_38 : pgDecT 227 38 = some (.invokevirtual 301, 3) := by decide +kernel
theorem I227_301 : pgIi 227 301 = some (228, 2, 12) := by decide +kernel
theorem D227_41 : pgDecT 227 41 = some (.iinc 1 1, 3) := by decide +kernel
theorem D227_44 : pgDecT 227 44 = some (.goto (-27), 3) := by decide +kernel
/-! 227: DictionaryHouseModel.followAll ()V -/
def l227 : Nat → Nat → Mm → Int → Option (Int × Mm)
  | 0, _, _, _ => none
  | f + 1, 17, M, x1 => if (M 53 43) ≤ x1 then (some (0, M)) else (if 0 ≤ x1 ∧ x1 < 700 then (f228 M (M 90 (Int.toNat x1)) (M 91 (Int.toNat x1))).bind (fun zq10 => if rg (x1 + 1) then (l227 f 17 zq10.2 (x1 + 1)) else none) else none)
  | _, _, _, _ => none
theorem d227 {L : Nat} {xs : Nat → Int32} (f : Nat) : (∀ (M : Mm) (x1 : Int) (h : mvH) (v : Int) (M' : Mm), l227 f 17 M x1 = some (v, M') → rp h M → rg x1 → evx L xs 3 227 17 [(0, .inr (.inr (.inl (some 53)))), (1, .inl (iz x1))] [] h (.inl none, 0) M') := by
  induction f with
  | zero => exact (fun M x1 h v M' hs _ _ => by cases hs)
  | succ f ih =>
    intro M x1 h v M' hs R rx1
    rw [l227] at hs
    refine evx_F E227 D227_17 rfl rfl ?_
    refine evx_F E227 D227_18 rfl rfl ?_
    refine evx_gfi (k := 43) E227 D227_19 F227_246 H53 rfl R ?_
    by_cases cb7 : (M 53 43) ≤ x1
    · rw [if_pos cb7] at hs
      refine evx_F E227 D227_22 rfl (ifT (c2_ge_T rx1 (R.1 53 43) cb7)) ?_
      cases hs
      exact evx_ret E227 D227_47 rfl (fun d => rfl) rfl trivial R
    · rw [if_neg cb7] at hs
      refine evx_F E227 D227_22 rfl (ifF (c2_ge_F rx1 (R.1 53 43) (by omega))) ?_
      refine evx_F E227 D227_25 rfl rfl ?_
      refine evx_F E227 D227_26 rfl rfl ?_
      refine evx_gfr E227 D227_27 F227_121 H53 rfl R ?_
      refine evx_F E227 D227_30 rfl rfl ?_
      obtain ⟨k8, hs⟩ := ck hs
      refine evx_ial E227 D227_31 H90 (by decide) R k8 ?_
      refine evx_F E227 D227_32 rfl rfl ?_
      refine evx_gfr E227 D227_33 F227_124 H53 rfl R ?_
      refine evx_F E227 D227_36 rfl rfl ?_
      refine evx_ial E227 D227_37 H91 (by decide) R k8 ?_
      obtain ⟨⟨q10, M14⟩, e9, hs⟩ := Option.bind_eq_some_iff.mp hs
      dsimp only at hs
      refine evx_cv (D := 2) E227 D227_38 I227_301 rfl rfl H53 ⟨Nat.le_of_ble_eq_true rfl, Nat.le_of_ble_eq_true rfl⟩ ⟨rfl, Nat.le_of_ble_eq_true rfl⟩ rfl R (evx_up (Nat.le_of_ble_eq_true rfl) (c228 R (R.1 90 (Int.toNat x1)) (R.1 91 (Int.toNat x1)) e9)) ?_
      intro h11 R12 w13
      refine evx_inc E227 D227_41 (Nat.le_of_ble_eq_true rfl) rfl ?_
      refine evx_F E227 D227_44 rfl rfl ?_
      obtain ⟨k15, hs⟩ := ck hs
      show evx _ _ _ _ _ [(1, .inl (iz (x1 + 1))), (0, .inr (.inr (.inl (some 53))))] _ _ _ _
      exact evx_lv (lvLe_mk (fm rfl (fm rfl fn)) (fm rfl (fm rfl fn)) (fm rfl (fm rfl fn))) (ih _ _ _ _ _ hs R12 k15)
def f227 (M : Mm) : Option (Int × Mm) := l227 FU 17 (up (up (up M 53 47 0) 53 48 0) 53 49 0) 0
theorem c227 {L : Nat} {xs : Nat → Int32} {h : mvH} {M : Mm} {v : Int} {M' : Mm} (R : rp h M)  (hs : f227 M  = some (v, M')) : evx L xs 3 227 0 [(0, .inr (.inr (.inl (some 53))))] [] h (.inl none, 0) M' := by
  unfold f227 at hs
  refine evx_F E227 D227_0 rfl rfl ?_
  refine evx_F E227 D227_1 rfl rfl ?_
  refine evx_pfi (k := 47) E227 D227_2 F227_286 H53 rfl R (by decide) rfl ?_
  intro h1 R2
  refine evx_F E227 D227_5 rfl rfl ?_
  refine evx_F E227 D227_6 rfl rfl ?_
  refine evx_pfi (k := 48) E227 D227_7 F227_289 H53 rfl R2 (by decide) rfl ?_
  intro h3 R4
  refine evx_F E227 D227_10 rfl rfl ?_
  refine evx_F E227 D227_11 rfl rfl ?_
  refine evx_pfi (k := 49) E227 D227_12 F227_282 H53 rfl R4 (by decide) rfl ?_
  intro h5 R6
  refine evx_F E227 D227_15 rfl rfl ?_
  refine evx_F E227 D227_16 rfl rfl ?_
  show evx _ _ _ _ _ [(1, .inl (iz 0)), (0, .inr (.inr (.inl (some 53))))] _ _ _ _
  exact evx_lv (lvLe_mk (fm rfl (fm rfl fn)) (fm rfl (fm rfl fn)) (fm rfl (fm rfl fn))) ((d227 FU) _ _ _ _ _ hs R6 (by decide))
set_option maxRecDepth 20000 in
theorem E244 : pgMm 244 = some (⟨"DictionaryHouseModel", "work", "()V"⟩, prog_14_method_64_code, 7, none, []) := rfl
theorem D244_0 : pgDecT 244 0 = some (.aload_n 0, 1) := by decide +kernel
theorem D244_1 : pgDecT 244 1 = some (.dup, 1) := by decide +kernel
theorem D244_2 : pgDecT 244 2 = some (.getfield 345, 3) := by decide +kernel
theorem F244_345 : pgFf 244 345 = some (12, 71, 0) := by decide +kernel
theorem D244_5 : pgDecT 244 5 = some (.iconst 1, 1) := by decide +kernel
theorem D244_6 : pgDecT 244 6 = some (.isub, 1) := by decide +kernel
theorem D244_7 : pgDecT 244 7 = some (.putfield 345, 3) := by decide +kernel
theorem D244_10 : pgDecT 244 10 = some (.aload_n 0, 1) := by decide +kernel
theorem D244_11 : pgDecT 244 11 = some (.getfield 345, 3) := by decide +kernel
theorem D244_14 : pgDecT 244 14 = some (.istore_n 1, 1) := by decide +kernel
theorem D244_15 : pgDecT 244 15 = some (.aload_n 0, 1) := by decide +kernel
theorem D244_16 : pgDecT 244 16 = some (.getfield 163, 3) := by decide +kernel
theorem F244_163 : pgFf 244 163 = some (12, 73, 3) := by decide +kernel
theorem D244_19 : pgDecT 244 19 = some (.iload_n 1, 1) := by decide +kernel
theorem D244_20 : pgDecT 244 20 = some (.iaload, 1) := by decide +kernel
theorem D244_21 : pgDecT 244 21 = some (.istore_n 2, 1) := by decide +kernel
theorem D244_22 : pgDecT 244 22 = some (.aload_n 0, 1) := by decide +kernel
theorem D244_23 : pgDecT 244 23 = some (.getfield 166, 3) := by decide +kernel
theorem F244_166 : pgFf 244 166 = some (12, 74, 3) := by decide +kernel
theorem D244_26 : pgDecT 244 26 = some (.iload_n 1, 1) := by decide +kernel
theorem D244_27 : pgDecT 244 27 = some (.iaload, 1) := by decide +kernel
theorem D244_28 : pgDecT 244 28 = some (.istore_n 3, 1) := by decide +kernel
theorem D244_29 : pgDecT 244 29 = some (.aload_n 0, 1) := by decide +kernel
theorem D244_30 : pgDecT 244 30 = some (.getfield 169, 3) := by decide +kernel
theorem F244_169 : pgFf 244 169 = some (12, 75, 3) := by decide +kernel
theorem D244_33 : pgDecT 244 33 = some (.iload_n 1, 1) := by decide +kernel
theorem D244_34 : pgDecT 244 34 = some (.iaload, 1) := by decide +kernel
theorem D244_35 : pgDecT 244 35 = some (.istore 4, 2) := by decide +kernel
theorem D244_37 : pgDecT 244 37 = some (.aload_n 0, 1) := by decide +kernel
theorem D244_38 : pgDecT 244 38 = some (.getfield 172, 3) := by decide +kernel
theorem F244_172 : pgFf 244 172 = some (12, 76, 3) := by decide +kernel
theorem D244_41 : pgDecT 244 41 = some (.iload_n 1, 1) := by decide +kernel
theorem D244_42 : pgDecT 244 42 = some (.iaload, 1) := by decide +kernel
theorem D244_43 : pgDecT 244 43 = some (.istore 5, 2) := by decide +kernel
theorem D244_45 : pgDecT 244 45 = some (.aload_n 0, 1) := by decide +kernel
theorem D244_46 : pgDecT 244 46 = some (.getfield 175, 3) := by decide +kernel
theorem F244_175 : pgFf 244 175 = some (12, 77, 3) := by decide +kernel
theorem D244_49 : pgDecT 244 49 = some (.iload_n 1, 1) := by decide +kernel
theorem D244_50 : pgDecT 244 50 = some (.iaload, 1) := by decide +kernel
theorem D244_51 : pgDecT 244 51 = some (.istore 6, 2) := by decide +kernel
theorem D244_53 : pgDecT 244 53 = some (.aload_n 0, 1) := by decide +kernel
theorem D244_54 : pgDecT 244 54 = some (.getfield 160, 3) := by decide +kernel
theorem F244_160 : pgFf 244 160 = some (12, 72, 3) := by decide +kernel
theorem D244_57 : pgDecT 244 57 = some (.iload_n 1, 1) := by decide +kernel
theorem D244_58 : pgDecT 244 58 = some (.iaload, 1) := by decide +kernel
theorem D244_59 : pgDecT 244 59 = some (.tableswitch 140 0 5 #[37, 50, 77, 140, 140, 87], 37) := by decide +kernel
theorem D244_96 : pgDecT 244 96 = some (.aload_n 0, 1) := by decide +kernel
theorem D244_97 : pgDecT 244 97 = some (.iload_n 2, 1) := by decide +kernel
theorem D244_98 : pgDecT 244 98 = some (.iload_n 3, 1) := by decide +kernel
theorem D244_99 : pgDecT 244 99 = some (.iload 4, 2) := by decide +kernel
theorem D244_101 : pgDecT 244 101 = some (.iload 5, 2) := by decide +kernel
theorem D244_103 : pgDecT 244 103 = some (.iload 6, 2) := by decide +kernel
theorem D244_105 : pgDecT 244 105 = some (.invokevirtual 396, 3) := by decide +kernel
theorem I244_396 : pgIi 244 396 = some (245, 5, 12) := by decide +kernel
theorem D244_108 : pgDecT 244 108 = some (.return_, 1) := by decide +kernel
theorem D244_109 : pgDecT 244 109 = some (.aload_n 0, 1) := by decide +kernel
theorem D244_110 : pgDecT 244 110 = some (.iconst 2, 1) := by decide +kernel
theorem D244_111 : pgDecT 244 111 = some (.aload_n 0, 1) := by decide +kernel
theorem D244_112 : pgDecT 244 112 = some (.getfield 373, 3) := by decide +kernel
theorem F244_373 : pgFf 244 373 = some (12, 78, 0) := by decide +kernel
theorem D244_115 : pgDecT 244 115 = some (.iconst 0, 1) := by decide +kernel
theorem D244_116 : pgDecT 244 116 = some (.iconst 0, 1) := by decide +kernel
theorem D244_117 : pgDecT 244 117 = some (.iconst 0, 1) := by decide +kernel
theorem D244_118 : pgDecT 244 118 = some (.iconst 0, 1) := by decide +kernel
theorem D244_119 : pgDecT 244 119 = some (.invokevirtual 376, 3) := by decide +kernel
theorem I244_376 : pgIi 244 376 = some (243, 6, 12) := by decide +kernel
theorem D244_122 : pgDecT 244 122 = some (.aload_n 0, 1) := by decide +kernel
theorem D244_123 : pgDecT 244 123 = some (.iconst 0, 1) := by decide +kernel
theorem D244_124 : pgDecT 244 124 = some (.iload_n 2, 1) := by decide +kernel
theorem D244_125 : pgDecT 244 125 = some (.iload_n 3, 1) := by decide +kernel
theorem D244_126 : pgDecT 244 126 = some (.iload 4, 2) := by decide +kernel
theorem D244_128 : pgDecT 244 128 = some (.iload 5, 2) := by decide +kernel
theorem D244_130 : pgDecT 244 130 = some (.iload 6, 2) := by decide +kernel
theorem D244_132 : pgDecT 244 132 = some (.invokevirtual 376, 3) := by decide +kernel
theorem D244_135 : pgDecT 244 135 = some (.return_, 1) := by decide +kernel
theorem D244_136 : pgDecT 244 136 = some (.aload_n 0, 1) := by decide +kernel
theorem D244_137 : pgDecT 244 137 = some (.iload_n 2, 1) := by decide +kernel
theorem D244_138 : pgDecT 244 138 = some (.aload_n 0, 1) := by decide +kernel
theorem D244_139 : pgDecT 244 139 = some (.getfield 373, 3) := by decide +kernel
theorem D244_142 : pgDecT 244 142 = some (.invokevirtual 400, 3) := by decide +kernel
theorem I244_400 : pgIi 244 400 = some (250, 2, 12) := by decide +kernel
theorem D244_145 : pgDecT 244 145 = some (.return_, 1) := by decide +kernel
theorem D244_199 : pgDecT 244 199 = some (.aload_n 0, 1) := by decide +kernel
theorem D244_200 : pgDecT 244 200 = some (.aload_n 0, 1) := by decide +kernel
theorem D244_201 : pgDecT 244 201 = some (.getfield 373, 3) := by decide +kernel
theorem D244_204 : pgDecT 244 204 = some (.iload_n 2, 1) := by decide +kernel
theorem D244_205 : pgDecT 244 205 = some (.invokevirtual 400, 3) := by decide +kernel
theorem D244_208 : pgDecT 244 208 = some (.return_, 1) := by decide +kernel
theorem D244_146 : pgDecT 244 146 = some (.iload_n 3, 1) := by decide +kernel
theorem D244_147 : pgDecT 244 147 = some (.iconst (-1), 1) := by decide +kernel
theorem D244_148 : pgDecT 244 148 = some (.if_icmp .eq 10, 3) := by decide +kernel
theorem D244_158 : pgDecT 244 158 = some (.return_, 1) := by decide +kernel
theorem D244_151 : pgDecT 244 151 = some (.aload_n 0, 1) := by decide +kernel
theorem D244_152 : pgDecT 244 152 = some (.invokevirtual 366, 3) := by decide +kernel
theorem I244_366 : pgIi 244 366 = some (246, 0, 12) := by decide +kernel
theorem D244_155 : pgDecT 244 155 = some (.ifCond .ne 4, 3) := by decide +kernel
theorem D244_159 : pgDecT 244 159 = some (.aload_n 0, 1) := by decide +kernel
theorem D244_160 : pgDecT 244 160 = some (.iconst 5, 1) := by decide +kernel
theorem D244_161 : pgDecT 244 161 = some (.iload_n 2, 1) := by decide +kernel
theorem D244_162 : pgDecT 244 162 = some (.aload_n 0, 1) := by decide +kernel
theorem D244_163 : pgDecT 244 163 = some (.getfield 142, 3) := by decide +kernel
theorem F244_142 : pgFf 244 142 = some (12, 64, 3) := by decide +kernel
theorem D244_166 : pgDecT 244 166 = some (.iload_n 3, 1) := by decide +kernel
theorem D244_167 : pgDecT 244 167 = some (.iaload, 1) := by decide +kernel
theorem D244_168 : pgDecT 244 168 = some (.iconst 0, 1) := by decide +kernel
theorem D244_169 : pgDecT 244 169 = some (.iconst 0, 1) := by decide +kernel
theorem D244_170 : pgDecT 244 170 = some (.iconst 0, 1) := by decide +kernel
theorem D244_171 : pgDecT 244 171 = some (.invokevirtual 376, 3) := by decide +kernel
theorem D244_174 : pgDecT 244 174 = some (.aload_n 0, 1) := by decide +kernel
theorem D244_175 : pgDecT 244 175 = some (.iconst 4, 1) := by decide +kernel
theorem D244_176 : pgDecT 244 176 = some (.aload_n 0, 1) := by decide +kernel
theorem D244_177 : pgDecT 244 177 = some (.getfield 373, 3) := by decide +kernel
theorem D244_180 : pgDecT 244 180 = some (.iconst 0, 1) := by decide +kernel
theorem D244_181 : pgDecT 244 181 = some (.iconst 0, 1) := by decide +kernel
theorem D244_182 : pgDecT 244 182 = some (.iconst 0, 1) := by decide +kernel
theorem D244_183 : pgDecT 244 183 = some (.iconst 0, 1) := by decide +kernel
theorem D244_184 : pgDecT 244 184 = some (.invokevirtual 376, 3) := by decide +kernel
theorem D244_187 : pgDecT 244 187 = some (.aload_n 0, 1) := by decide +kernel
theorem D244_188 : pgDecT 244 188 = some (.iload_n 2, 1) := by decide +kernel
theorem D244_189 : pgDecT 244 189 = some (.aload_n 0, 1) := by decide +kernel
theorem D244_190 : pgDecT 244 190 = some (.getfield 139, 3) := by decide +kernel
theorem F244_139 : pgFf 244 139 = some (12, 63, 3) := by decide +kernel
theorem D244_193 : pgDecT 244 193 = some (.iload_n 3, 1) := by decide +kernel
theorem D244_194 : pgDecT 244 194 = some (.iaload, 1) := by decide +kernel
theorem D244_195 : pgDecT 244 195 = some (.invokevirtual 400, 3) := by decide +kernel
theorem D244_198 : pgDecT 244 198 = some (.return_, 1) := by decide +kernel
/-! 244: DictionaryHouseModel.work ()V -/
def f244 (M : Mm) : Option (Int × Mm) := if rg ((M 53 71) - 1) then (if 0 ≤ ((M 53 71) - 1) ∧ ((M 53 71) - 1) < 2000 then (if (M 103 (Int.toNat ((M 53 71) - 1))) = 0 then (f245 (up M 53 71 ((M 53 71) - 1)) (M 104 (Int.toNat ((M 53 71) - 1))) (M 105 (Int.toNat ((M 53 71) - 1))) (M 106 (Int.toNat ((M 53 71) - 1))) (M 107 (Int.toNat ((M 53 71) - 1))) (M 108 (Int.toNat ((M 53 71) - 1)))).bind (fun zq7 => some (0, zq7.2)) else (if (M 103 (Int.toNat ((M 53 71) - 1))) = 1 then (f243 (up M 53 71 ((M 53 71) - 1)) 2 (M 53 78) 0 0 0 0).bind (fun zq14 => (f243 zq14.2 0 (M 104 (Int.toNat ((M 53 71) - 1))) (M 105 (Int.toNat ((M 53 71) - 1))) (M 106 (Int.toNat ((M 53 71) - 1))) (M 107 (Int.toNat ((M 53 71) - 1))) (M 108 (Int.toNat ((M 53 71) - 1)))).bind (fun zq20 => some (0, zq20.2))) else (if (M 103 (Int.toNat ((M 53 71) - 1))) = 2 then (f250 (up M 53 71 ((M 53 71) - 1)) (M 104 (Int.toNat ((M 53 71) - 1))) (M 53 78)).bind (fun zq27 => some (0, zq27.2)) else (if (M 103 (Int.toNat ((M 53 71) - 1))) = 3 then (f250 (up M 53 71 ((M 53 71) - 1)) (M 53 78) (M 104 (Int.toNat ((M 53 71) - 1)))).bind (fun zq34 => some (0, zq34.2)) else (if (M 103 (Int.toNat ((M 53 71) - 1))) = 4 then (f250 (up M 53 71 ((M 53 71) - 1)) (M 53 78) (M 104 (Int.toNat ((M 53 71) - 1)))).bind (fun zq41 => some (0, zq41.2)) else (if (M 103 (Int.toNat ((M 53 71) - 1))) = 5 then (if (M 105 (Int.toNat ((M 53 71) - 1))) = (-1) then (some (0, (up M 53 71 ((M 53 71) - 1)))) else (f246 (up M 53 71 ((M 53 71) - 1))).bind (fun zq49 => if ¬ zq49.1 = 0 then (if 0 ≤ (M 105 (Int.toNat ((M 53 71) - 1))) ∧ (M 105 (Int.toNat ((M 53 71) - 1))) < 6000 then (f243 zq49.2 5 (M 104 (Int.toNat ((M 53 71) - 1))) (zq49.2 97 (Int.toNat (M 105 (Int.toNat ((M 53 71) - 1))))) 0 0 0).bind (fun zq57 => (f243 zq57.2 4 (zq57.2 53 78) 0 0 0 0).bind (fun zq63 => (f250 zq63.2 (M 104 (Int.toNat ((M 53 71) - 1))) (zq63.2 96 (Int.toNat (M 105 (Int.toNat ((M 53 71) - 1)))))).bind (fun zq69 => some (0, zq69.2)))) else none) else (some (0, zq49.2)))) else ((f250 (up M 53 71 ((M 53 71) - 1)) (M 53 78) (M 104 (Int.toNat ((M 53 71) - 1)))).bind (fun zq75 => some (0, zq75.2))))))))) else none) else none
theorem c244 {L : Nat} {xs : Nat → Int32} {h : mvH} {M : Mm} {v : Int} {M' : Mm} (R : rp h M)  (hs : f244 M  = some (v, M')) : evx L xs 4 244 0 [(0, .inr (.inr (.inl (some 53))))] [] h (.inl none, 0) M' := by
  unfold f244 at hs
  refine evx_F E244 D244_0 rfl rfl ?_
  refine evx_F E244 D244_1 rfl rfl ?_
  refine evx_gfi (k := 71) E244 D244_2 F244_345 H53 rfl R ?_
  refine evx_F E244 D244_5 rfl rfl ?_
  refine evx_sub E244 D244_6 ?_
  obtain ⟨k1, hs⟩ := ck hs
  refine evx_pfi (k := 71) E244 D244_7 F244_345 H53 rfl R k1 rfl ?_
  intro h2 R3
  refine evx_F E244 D244_10 rfl rfl ?_
  refine evx_gfi (k := 71) E244 D244_11 F244_345 H53 rfl R3 ?_
  show evx _ _ _ _ _ _ (.inl (iz ((M 53 71) - 1)) :: _) _ _ _
  refine evx_F E244 D244_14 rfl rfl ?_
  refine evx_F E244 D244_15 rfl rfl ?_
  refine evx_gfr E244 D244_16 F244_163 H53 rfl R3 ?_
  refine evx_F E244 D244_19 rfl rfl ?_
  obtain ⟨k4, hs⟩ := ck hs
  refine evx_ial E244 D244_20 H104 (by decide) R3 k4 ?_
  show evx _ _ _ _ _ _ (.inl (iz (M 104 (Int.toNat ((M 53 71) - 1)))) :: _) _ _ _
  refine evx_F E244 D244_21 rfl rfl ?_
  refine evx_F E244 D244_22 rfl rfl ?_
  refine evx_gfr E244 D244_23 F244_166 H53 rfl R3 ?_
  refine evx_F E244 D244_26 rfl rfl ?_
  refine evx_ial E244 D244_27 H105 (by decide) R3 k4 ?_
  show evx _ _ _ _ _ _ (.inl (iz (M 105 (Int.toNat ((M 53 71) - 1)))) :: _) _ _ _
  refine evx_F E244 D244_28 rfl rfl ?_
  refine evx_F E244 D244_29 rfl rfl ?_
  refine evx_gfr E244 D244_30 F244_169 H53 rfl R3 ?_
  refine evx_F E244 D244_33 rfl rfl ?_
  refine evx_ial E244 D244_34 H106 (by decide) R3 k4 ?_
  show evx _ _ _ _ _ _ (.inl (iz (M 106 (Int.toNat ((M 53 71) - 1)))) :: _) _ _ _
  refine evx_F E244 D244_35 rfl rfl ?_
  refine evx_F E244 D244_37 rfl rfl ?_
  refine evx_gfr E244 D244_38 F244_172 H53 rfl R3 ?_
  refine evx_F E244 D244_41 rfl rfl ?_
  refine evx_ial E244 D244_42 H107 (by decide) R3 k4 ?_
  show evx _ _ _ _ _ _ (.inl (iz (M 107 (Int.toNat ((M 53 71) - 1)))) :: _) _ _ _
  refine evx_F E244 D244_43 rfl rfl ?_
  refine evx_F E244 D244_45 rfl rfl ?_
  refine evx_gfr E244 D244_46 F244_175 H53 rfl R3 ?_
  refine evx_F E244 D244_49 rfl rfl ?_
  refine evx_ial E244 D244_50 H108 (by decide) R3 k4 ?_
  show evx _ _ _ _ _ _ (.inl (iz (M 108 (Int.toNat ((M 53 71) - 1)))) :: _) _ _ _
  refine evx_F E244 D244_51 rfl rfl ?_
  refine evx_F E244 D244_53 rfl rfl ?_
  refine evx_gfr E244 D244_54 F244_160 H53 rfl R3 ?_
  refine evx_F E244 D244_57 rfl rfl ?_
  refine evx_ial E244 D244_58 H103 (by decide) R3 k4 ?_
  show evx _ _ _ _ _ _ (.inl (iz (M 103 (Int.toNat ((M 53 71) - 1)))) :: _) _ _ _
  by_cases cb5 : (M 103 (Int.toNat ((M 53 71) - 1))) = 0
  · rw [if_pos cb5] at hs
    refine evx_tsi (0) E244 D244_59 cb5 (by decide) (by decide) rfl rfl ?_
    refine evx_F E244 D244_96 rfl rfl ?_
    refine evx_F E244 D244_97 rfl rfl ?_
    refine evx_F E244 D244_98 rfl rfl ?_
    refine evx_F E244 D244_99 rfl rfl ?_
    refine evx_F E244 D244_101 rfl rfl ?_
    refine evx_F E244 D244_103 rfl rfl ?_
    obtain ⟨⟨q7, M11⟩, e6, hs⟩ := Option.bind_eq_some_iff.mp hs
    dsimp only at hs
    refine evx_cv (D := 3) E244 D244_105 I244_396 rfl rfl H53 ⟨Nat.le_of_ble_eq_true rfl, Nat.le_of_ble_eq_true rfl⟩ ⟨rfl, Nat.le_of_ble_eq_true rfl⟩ rfl R3 (evx_up (Nat.le_of_ble_eq_true rfl) (c245 R3 (R3.1 104 (Int.toNat ((M 53 71) - 1))) (R3.1 105 (Int.toNat ((M 53 71) - 1))) (R3.1 106 (Int.toNat ((M 53 71) - 1))) (R3.1 107 (Int.toNat ((M 53 71) - 1))) (R3.1 108 (Int.toNat ((M 53 71) - 1))) e6)) ?_
    intro h8 R9 w10
    cases hs
    exact evx_ret E244 D244_108 rfl (fun d => rfl) rfl trivial R9
  · rw [if_neg cb5] at hs
    by_cases cb12 : (M 103 (Int.toNat ((M 53 71) - 1))) = 1
    · rw [if_pos cb12] at hs
      refine evx_tsi (1) E244 D244_59 cb12 (by decide) (by decide) rfl rfl ?_
      refine evx_F E244 D244_109 rfl rfl ?_
      refine evx_F E244 D244_110 rfl rfl ?_
      refine evx_F E244 D244_111 rfl rfl ?_
      refine evx_gfi (k := 78) E244 D244_112 F244_373 H53 rfl R3 ?_
      show evx _ _ _ _ _ _ (.inl (iz (M 53 78)) :: _) _ _ _
      refine evx_F E244 D244_115 rfl rfl ?_
      refine evx_F E244 D244_116 rfl rfl ?_
      refine evx_F E244 D244_117 rfl rfl ?_
      refine evx_F E244 D244_118 rfl rfl ?_
      obtain ⟨⟨q14, M18⟩, e13, hs⟩ := Option.bind_eq_some_iff.mp hs
      dsimp only at hs
      refine evx_cv (D := 3) E244 D244_119 I244_376 rfl rfl H53 ⟨Nat.le_of_ble_eq_true rfl, Nat.le_of_ble_eq_true rfl⟩ ⟨rfl, Nat.le_of_ble_eq_true rfl⟩ rfl R3 (evx_up (Nat.le_of_ble_eq_true rfl) (c243 R3 (by decide) (R3.1 53 78) (by decide) (by decide) (by decide) (by decide) e13)) ?_
      intro h15 R16 w17
      refine evx_F E244 D244_122 rfl rfl ?_
      refine evx_F E244 D244_123 rfl rfl ?_
      refine evx_F E244 D244_124 rfl rfl ?_
      refine evx_F E244 D244_125 rfl rfl ?_
      refine evx_F E244 D244_126 rfl rfl ?_
      refine evx_F E244 D244_128 rfl rfl ?_
      refine evx_F E244 D244_130 rfl rfl ?_
      obtain ⟨⟨q20, M24⟩, e19, hs⟩ := Option.bind_eq_some_iff.mp hs
      dsimp only at hs
      refine evx_cv (D := 3) E244 D244_132 I244_376 rfl rfl H53 ⟨Nat.le_of_ble_eq_true rfl, Nat.le_of_ble_eq_true rfl⟩ ⟨rfl, Nat.le_of_ble_eq_true rfl⟩ rfl R16 (evx_up (Nat.le_of_ble_eq_true rfl) (c243 R16 (by decide) (R3.1 104 (Int.toNat ((M 53 71) - 1))) (R3.1 105 (Int.toNat ((M 53 71) - 1))) (R3.1 106 (Int.toNat ((M 53 71) - 1))) (R3.1 107 (Int.toNat ((M 53 71) - 1))) (R3.1 108 (Int.toNat ((M 53 71) - 1))) e19)) ?_
      intro h21 R22 w23
      cases hs
      exact evx_ret E244 D244_135 rfl (fun d => rfl) rfl trivial R22
    · rw [if_neg cb12] at hs
      by_cases cb25 : (M 103 (Int.toNat ((M 53 71) - 1))) = 2
      · rw [if_pos cb25] at hs
        refine evx_tsi (2) E244 D244_59 cb25 (by decide) (by decide) rfl rfl ?_
        refine evx_F E244 D244_136 rfl rfl ?_
        refine evx_F E244 D244_137 rfl rfl ?_
        refine evx_F E244 D244_138 rfl rfl ?_
        refine evx_gfi (k := 78) E244 D244_139 F244_373 H53 rfl R3 ?_
        show evx _ _ _ _ _ _ (.inl (iz (M 53 78)) :: _) _ _ _
        obtain ⟨⟨q27, M31⟩, e26, hs⟩ := Option.bind_eq_some_iff.mp hs
        dsimp only at hs
        refine evx_cv (D := 3) E244 D244_142 I244_400 rfl rfl H53 ⟨Nat.le_of_ble_eq_true rfl, Nat.le_of_ble_eq_true rfl⟩ ⟨rfl, Nat.le_of_ble_eq_true rfl⟩ rfl R3 (evx_up (Nat.le_of_ble_eq_true rfl) (c250 R3 (R3.1 104 (Int.toNat ((M 53 71) - 1))) (R3.1 53 78) e26)) ?_
        intro h28 R29 w30
        cases hs
        exact evx_ret E244 D244_145 rfl (fun d => rfl) rfl trivial R29
      · rw [if_neg cb25] at hs
        by_cases cb32 : (M 103 (Int.toNat ((M 53 71) - 1))) = 3
        · rw [if_pos cb32] at hs
          refine evx_tsi (3) E244 D244_59 cb32 (by decide) (by decide) rfl rfl ?_
          refine evx_F E244 D244_199 rfl rfl ?_
          refine evx_F E244 D244_200 rfl rfl ?_
          refine evx_gfi (k := 78) E244 D244_201 F244_373 H53 rfl R3 ?_
          show evx _ _ _ _ _ _ (.inl (iz (M 53 78)) :: _) _ _ _
          refine evx_F E244 D244_204 rfl rfl ?_
          obtain ⟨⟨q34, M38⟩, e33, hs⟩ := Option.bind_eq_some_iff.mp hs
          dsimp only at hs
          refine evx_cv (D := 3) E244 D244_205 I244_400 rfl rfl H53 ⟨Nat.le_of_ble_eq_true rfl, Nat.le_of_ble_eq_true rfl⟩ ⟨rfl, Nat.le_of_ble_eq_true rfl⟩ rfl R3 (evx_up (Nat.le_of_ble_eq_true rfl) (c250 R3 (R3.1 53 78) (R3.1 104 (Int.toNat ((M 53 71) - 1))) e33)) ?_
          intro h35 R36 w37
          cases hs
          exact evx_ret E244 D244_208 rfl (fun d => rfl) rfl trivial R36
        · rw [if_neg cb32] at hs
          by_cases cb39 : (M 103 (Int.toNat ((M 53 71) - 1))) = 4
          · rw [if_pos cb39] at hs
            refine evx_tsi (4) E244 D244_59 cb39 (by decide) (by decide) rfl rfl ?_
            refine evx_F E244 D244_199 rfl rfl ?_
            refine evx_F E244 D244_200 rfl rfl ?_
            refine evx_gfi (k := 78) E244 D244_201 F244_373 H53 rfl R3 ?_
            show evx _ _ _ _ _ _ (.inl (iz (M 53 78)) :: _) _ _ _
            refine evx_F E244 D244_204 rfl rfl ?_
            obtain ⟨⟨q41, M45⟩, e40, hs⟩ := Option.bind_eq_some_iff.mp hs
            dsimp only at hs
            refine evx_cv (D := 3) E244 D244_205 I244_400 rfl rfl H53 ⟨Nat.le_of_ble_eq_true rfl, Nat.le_of_ble_eq_true rfl⟩ ⟨rfl, Nat.le_of_ble_eq_true rfl⟩ rfl R3 (evx_up (Nat.le_of_ble_eq_true rfl) (c250 R3 (R3.1 53 78) (R3.1 104 (Int.toNat ((M 53 71) - 1))) e40)) ?_
            intro h42 R43 w44
            cases hs
            exact evx_ret E244 D244_208 rfl (fun d => rfl) rfl trivial R43
          · rw [if_neg cb39] at hs
            by_cases cb46 : (M 103 (Int.toNat ((M 53 71) - 1))) = 5
            · rw [if_pos cb46] at hs
              refine evx_tsi (5) E244 D244_59 cb46 (by decide) (by decide) rfl rfl ?_
              refine evx_F E244 D244_146 rfl rfl ?_
              refine evx_F E244 D244_147 rfl rfl ?_
              by_cases cb47 : (M 105 (Int.toNat ((M 53 71) - 1))) = (-1)
              · rw [if_pos cb47] at hs
                refine evx_F E244 D244_148 rfl (ifT (c2_eq_T (R3.1 105 (Int.toNat ((M 53 71) - 1))) (by decide) cb47)) ?_
                cases hs
                exact evx_ret E244 D244_158 rfl (fun d => rfl) rfl trivial R3
              · rw [if_neg cb47] at hs
                refine evx_F E244 D244_148 rfl (ifF (c2_eq_F (R3.1 105 (Int.toNat ((M 53 71) - 1))) (by decide) (by omega))) ?_
                refine evx_F E244 D244_151 rfl rfl ?_
                obtain ⟨⟨q49, M53⟩, e48, hs⟩ := Option.bind_eq_some_iff.mp hs
                dsimp only at hs
                refine evx_cv (D := 3) E244 D244_152 I244_366 rfl rfl H53 ⟨Nat.le_of_ble_eq_true rfl, Nat.le_of_ble_eq_true rfl⟩ ⟨rfl, Nat.le_of_ble_eq_true rfl⟩ rfl R3 (evx_up (Nat.le_of_ble_eq_true rfl) (c246 R3  e48)) ?_
                intro h50 R51 w52
                have w52 : rg q49 := w52
                show evx _ _ _ _ _ _ (.inl (iz q49) :: _) _ _ _
                by_cases cb54 : ¬ q49 = 0
                · rw [if_pos cb54] at hs
                  refine evx_F E244 D244_155 rfl (ifT (c1_ne_T w52 cb54)) ?_
                  refine evx_F E244 D244_159 rfl rfl ?_
                  refine evx_F E244 D244_160 rfl rfl ?_
                  refine evx_F E244 D244_161 rfl rfl ?_
                  refine evx_F E244 D244_162 rfl rfl ?_
                  refine evx_gfr E244 D244_163 F244_142 H53 rfl R51 ?_
                  refine evx_F E244 D244_166 rfl rfl ?_
                  obtain ⟨k55, hs⟩ := ck hs
                  refine evx_ial E244 D244_167 H97 (by decide) R51 k55 ?_
                  refine evx_F E244 D244_168 rfl rfl ?_
                  refine evx_F E244 D244_169 rfl rfl ?_
                  refine evx_F E244 D244_170 rfl rfl ?_
                  obtain ⟨⟨q57, M61⟩, e56, hs⟩ := Option.bind_eq_some_iff.mp hs
                  dsimp only at hs
                  refine evx_cv (D := 3) E244 D244_171 I244_376 rfl rfl H53 ⟨Nat.le_of_ble_eq_true rfl, Nat.le_of_ble_eq_true rfl⟩ ⟨rfl, Nat.le_of_ble_eq_true rfl⟩ rfl R51 (evx_up (Nat.le_of_ble_eq_true rfl) (c243 R51 (by decide) (R3.1 104 (Int.toNat ((M 53 71) - 1))) (R51.1 97 (Int.toNat (M 105 (Int.toNat ((M 53 71) - 1))))) (by decide) (by decide) (by decide) e56)) ?_
                  intro h58 R59 w60
                  refine evx_F E244 D244_174 rfl rfl ?_
                  refine evx_F E244 D244_175 rfl rfl ?_
                  refine evx_F E244 D244_176 rfl rfl ?_
                  refine evx_gfi (k := 78) E244 D244_177 F244_373 H53 rfl R59 ?_
                  refine evx_F E244 D244_180 rfl rfl ?_
                  refine evx_F E244 D244_181 rfl rfl ?_
                  refine evx_F E244 D244_182 rfl rfl ?_
                  refine evx_F E244 D244_183 rfl rfl ?_
                  obtain ⟨⟨q63, M67⟩, e62, hs⟩ := Option.bind_eq_some_iff.mp hs
                  dsimp only at hs
                  refine evx_cv (D := 3) E244 D244_184 I244_376 rfl rfl H53 ⟨Nat.le_of_ble_eq_true rfl, Nat.le_of_ble_eq_true rfl⟩ ⟨rfl, Nat.le_of_ble_eq_true rfl⟩ rfl R59 (evx_up (Nat.le_of_ble_eq_true rfl) (c243 R59 (by decide) (R59.1 53 78) (by decide) (by decide) (by decide) (by decide) e62)) ?_
                  intro h64 R65 w66
                  refine evx_F E244 D244_187 rfl rfl ?_
                  refine evx_F E244 D244_188 rfl rfl ?_
                  refine evx_F E244 D244_189 rfl rfl ?_
                  refine evx_gfr E244 D244_190 F244_139 H53 rfl R65 ?_
                  refine evx_F E244 D244_193 rfl rfl ?_
                  refine evx_ial E244 D244_194 H96 (by decide) R65 k55 ?_
                  obtain ⟨⟨q69, M73⟩, e68, hs⟩ := Option.bind_eq_some_iff.mp hs
                  dsimp only at hs
                  refine evx_cv (D := 3) E244 D244_195 I244_400 rfl rfl H53 ⟨Nat.le_of_ble_eq_true rfl, Nat.le_of_ble_eq_true rfl⟩ ⟨rfl, Nat.le_of_ble_eq_true rfl⟩ rfl R65 (evx_up (Nat.le_of_ble_eq_true rfl) (c250 R65 (R3.1 104 (Int.toNat ((M 53 71) - 1))) (R65.1 96 (Int.toNat (M 105 (Int.toNat ((M 53 71) - 1))))) e68)) ?_
                  intro h70 R71 w72
                  cases hs
                  exact evx_ret E244 D244_198 rfl (fun d => rfl) rfl trivial R71
                · rw [if_neg cb54] at hs
                  refine evx_F E244 D244_155 rfl (ifF (c1_ne_F w52 (by omega))) ?_
                  cases hs
                  exact evx_ret E244 D244_158 rfl (fun d => rfl) rfl trivial R51
            · rw [if_neg cb46] at hs
              refine evx_tso E244 D244_59 (R3.1 103 (Int.toNat ((M 53 71) - 1))) (by omega) rfl ?_
              refine evx_F E244 D244_199 rfl rfl ?_
              refine evx_F E244 D244_200 rfl rfl ?_
              refine evx_gfi (k := 78) E244 D244_201 F244_373 H53 rfl R3 ?_
              show evx _ _ _ _ _ _ (.inl (iz (M 53 78)) :: _) _ _ _
              refine evx_F E244 D244_204 rfl rfl ?_
              obtain ⟨⟨q75, M79⟩, e74, hs⟩ := Option.bind_eq_some_iff.mp hs
              dsimp only at hs
              refine evx_cv (D := 3) E244 D244_205 I244_400 rfl rfl H53 ⟨Nat.le_of_ble_eq_true rfl, Nat.le_of_ble_eq_true rfl⟩ ⟨rfl, Nat.le_of_ble_eq_true rfl⟩ rfl R3 (evx_up (Nat.le_of_ble_eq_true rfl) (c250 R3 (R3.1 53 78) (R3.1 104 (Int.toNat ((M 53 71) - 1))) e74)) ?_
              intro h76 R77 w78
              cases hs
              exact evx_ret E244 D244_208 rfl (fun d => rfl) rfl trivial R77
/-! 99_44: java/util/Arrays.fill ([IIII)V -/
def l99_44 : Nat → Nat → Mm → Int → Int → Int → Int → Option (Int × Mm)
  | 0, _, _, _, _, _, _ => none
  | f + 1, 10, M, x1, x2, x3, x4 => if x2 ≤ x4 then (some (0, M)) else (if 0 ≤ x4 ∧ x4 < 2504 then (if rg (x4 + 1) then (l99_44 f 10 (up M 44 (Int.toNat x4) x3) x1 x2 x3 (x4 + 1)) else none) else none)
  | _, _, _, _, _, _, _ => none
theorem d99_44 {L : Nat} {xs : Nat → Int32} (f : Nat) : (∀ (M : Mm) (x1 x2 x3 x4 : Int) (h : mvH) (v : Int) (M' : Mm), l99_44 f 10 M x1 x2 x3 x4 = some (v, M') → rp h M → rg x1 → rg x2 → rg x3 → rg x4 → evx L xs 2 99 10 [(0, .inr (.inr (.inl (some 44)))), (1, .inl (iz x1)), (2, .inl (iz x2)), (3, .inl (iz x3)), (4, .inl (iz x4))] [] h (.inl none, 0) M') := by
  induction f with
  | zero => exact (fun M x1 x2 x3 x4 h v M' hs _ _ _ _ _ => by cases hs)
  | succ f ih =>
    intro M x1 x2 x3 x4 h v M' hs R rx1 rx2 rx3 rx4
    rw [l99_44] at hs
    refine evx_F E99 D99_10 rfl rfl ?_
    refine evx_F E99 D99_12 rfl rfl ?_
    by_cases cb7 : x2 ≤ x4
    · rw [if_pos cb7] at hs
      refine evx_F E99 D99_13 rfl (ifT (c2_ge_T rx4 rx2 cb7)) ?_
      cases hs
      exact evx_ret E99 D99_27 rfl (fun d => rfl) rfl trivial R
    · rw [if_neg cb7] at hs
      refine evx_F E99 D99_13 rfl (ifF (c2_ge_F rx4 rx2 (by omega))) ?_
      refine evx_F E99 D99_16 rfl rfl ?_
      refine evx_F E99 D99_17 rfl rfl ?_
      refine evx_F E99 D99_19 rfl rfl ?_
      obtain ⟨k8, hs⟩ := ck hs
      refine evx_ias E99 D99_20 H44 (by decide) R k8 rx3 ?_
      intro h9 R10
      refine evx_inc E99 D99_21 (Nat.le_of_ble_eq_true rfl) rfl ?_
      refine evx_F E99 D99_24 rfl rfl ?_
      obtain ⟨k11, hs⟩ := ck hs
      show evx _ _ _ _ _ [(4, .inl (iz (x4 + 1))), (0, .inr (.inr (.inl (some 44)))), (1, .inl (iz x1)), (2, .inl (iz x2)), (3, .inl (iz x3))] _ _ _ _
      exact evx_lv (lvLe_mk (fm rfl (fm rfl (fm rfl (fm rfl (fm rfl fn))))) (fm rfl (fm rfl (fm rfl (fm rfl (fm rfl fn))))) (fm rfl (fm rfl (fm rfl (fm rfl (fm rfl fn)))))) (ih _ _ _ _ _ _ _ _ hs R10 rx1 rx2 rx3 k11)
def f99_44 (M : Mm) (x1 : Int) (x2 : Int) (x3 : Int) : Option (Int × Mm) := (f100 M 2504 x1 x2).bind (fun zq2 => l99_44 FU 10 zq2.2 x1 x2 x3 x1)
theorem c99_44 {L : Nat} {xs : Nat → Int32} {h : mvH} {M : Mm} {x1 x2 x3 : Int} {v : Int} {M' : Mm} (R : rp h M) (rx1 : rg x1) (rx2 : rg x2) (rx3 : rg x3) (hs : f99_44 M x1 x2 x3 = some (v, M')) : evx L xs 2 99 0 [(0, .inr (.inr (.inl (some 44)))), (1, .inl (iz x1)), (2, .inl (iz x2)), (3, .inl (iz x3))] [] h (.inl none, 0) M' := by
  unfold f99_44 at hs
  refine evx_F E99 D99_0 rfl rfl ?_
  refine evx_len E99 D99_1 H44 (by decide) R ?_
  refine evx_F E99 D99_2 rfl rfl ?_
  refine evx_F E99 D99_3 rfl rfl ?_
  obtain ⟨⟨q2, M6⟩, e1, hs⟩ := Option.bind_eq_some_iff.mp hs
  dsimp only at hs
  refine evx_cs (D := 1) E99 D99_4 I99_13 rfl rfl (Nat.le_of_ble_eq_true rfl) ⟨rfl, Nat.le_of_ble_eq_true rfl⟩ rfl (evx_up (Nat.le_of_ble_eq_true rfl) (c100 R (by decide) rx1 rx2 e1)) ?_
  intro h3 R4 w5
  refine evx_F E99 D99_7 rfl rfl ?_
  refine evx_F E99 D99_8 rfl rfl ?_
  show evx _ _ _ _ _ [(4, .inl (iz x1)), (0, .inr (.inr (.inl (some 44)))), (1, .inl (iz x1)), (2, .inl (iz x2)), (3, .inl (iz x3))] _ _ _ _
  exact evx_lv (lvLe_mk (fm rfl (fm rfl (fm rfl (fm rfl (fm rfl fn))))) (fm rfl (fm rfl (fm rfl (fm rfl (fm rfl fn))))) (fm rfl (fm rfl (fm rfl (fm rfl (fm rfl fn)))))) ((d99_44 FU) _ _ _ _ _ _ _ _ hs R4 rx1 rx2 rx3 rx1)
set_option maxRecDepth 20000 in
theorem E22 : pgMm 22 = some (⟨"DictionaryHouseLaw", "function", "(LDictionaryHouse;II[J)I"⟩, method_4_code, 5, (some .int), [(0, 10, 13, 13), (0, 10, 17, 15)]) := rfl
theorem D22_0 : pgDecT 22 0 = some (.aload_n 3, 1) := by decide +kernel
theorem D22_1 : pgDecT 22 1 = some (.iconst 0, 1) := by decide +kernel
theorem D22_2 : pgDecT 22 2 = some (.aload_n 0, 1) := by decide +kernel
theorem D22_3 : pgDecT 22 3 = some (.iload_n 1, 1) := by decide +kernel
theorem D22_4 : pgDecT 22 4 = some (.iload_n 2, 1) := by decide +kernel
theorem D22_5 : pgDecT 22 5 = some (.invokevirtual 17, 3) := by decide +kernel
theorem I22_17 : pgIi 22 17 = some (23, 2, 11) := by decide +kernel
theorem D22_8 : pgDecT 22 8 = some (.i2l, 1) := by decide +kernel
theorem D22_9 : pgDecT 22 9 = some (.lastore, 1) := by decide +kernel
theorem D22_10 : pgDecT 22 10 = some (.goto 11, 3) := by decide +kernel
theorem D22_21 : pgDecT 22 21 = some (.iconst 0, 1) := by decide +kernel
theorem D22_22 : pgDecT 22 22 = some (.ireturn, 1) := by decide +kernel
theorem D22_15 : pgDecT 22 15 = some (.iconst 1, 1) := by decide +kernel
theorem D22_16 : pgDecT 22 16 = some (.ireturn, 1) := by decide +kernel
theorem D22_19 : pgDecT 22 19 = some (.iconst 2, 1) := by decide +kernel
theorem D22_20 : pgDecT 22 20 = some (.ireturn, 1) := by decide +kernel
/-! 22_0_109: DictionaryHouseLaw.function (LDictionaryHouse;II[J)I -/
def f22_0_109 (M : Mm) (x1 : Int) (x2 : Int) : Option (Int × Mm) := (f23 M x1 x2).bind (fun zq2 => if zq2.1 = 0 then (some (0, (up zq2.2.2 109 (Int.toNat 0) zq2.2.1))) else if zq2.1 = 1 then (some (1, zq2.2.2)) else (some (2, zq2.2.2)))
theorem c22_0_109 {L : Nat} {xs : Nat → Int32} {h : mvH} {M : Mm} {x1 x2 : Int} {v : Int} {M' : Mm} (R : rp h M) (rx1 : rg x1) (rx2 : rg x2) (hs : f22_0_109 M x1 x2 = some (v, M')) : evx L xs 11 22 0 [(0, .inr (.inr (.inl (some 0)))), (1, .inl (iz x1)), (2, .inl (iz x2)), (3, .inr (.inr (.inl (some 109))))] [] h (ow v) M' := by
  unfold f22_0_109 at hs
  refine evx_F E22 D22_0 rfl rfl ?_
  refine evx_F E22 D22_1 rfl rfl ?_
  refine evx_F E22 D22_2 rfl rfl ?_
  refine evx_F E22 D22_3 rfl rfl ?_
  refine evx_F E22 D22_4 rfl rfl ?_
  obtain ⟨⟨kq7, q2, M6⟩, e1, hs⟩ := Option.bind_eq_some_iff.mp hs
  dsimp only at hs
  have ge1 := c23 (L := L) (xs := xs) R rx1 rx2 e1
  by_cases cb8 : kq7 = 0
  · rw [if_pos cb8] at hs
    subst cb8
    refine evx_cv (D := 10) E22 D22_5 I22_17 rfl rfl H0 ⟨Nat.le_of_ble_eq_true rfl, Nat.le_of_ble_eq_true rfl⟩ ⟨rfl, Nat.le_of_ble_eq_true rfl⟩ rfl R (evx_up (Nat.le_of_ble_eq_true rfl) ge1) ?_
    intro h3 R4 w5
    have w5 : rg q2 := w5
    show evx _ _ _ _ _ _ (.inl (iz q2) :: _) _ _ _
    refine evx_F E22 D22_8 rfl rfl ?_
    refine evx_las E22 D22_9 H109 (by decide) R4 (by decide) w5 ?_
    intro h9 R10
    refine evx_F E22 D22_10 rfl rfl ?_
    refine evx_F E22 D22_21 rfl rfl ?_
    cases hs
    exact evx_ret E22 D22_22 rfl (fun d => rfl) rfl (show rg _ from (by decide)) R10
  · rw [if_neg cb8] at hs
    by_cases cb11 : kq7 = 1
    · rw [if_pos cb11] at hs
      rw [cb11, ot_1] at ge1
      cases hs
      show evx _ _ _ _ _ _ _ _ (.inl (some (.inl 1)), 1 + 0) _
      refine evx_cat (n1 := 1) (n2 := 0) (D := 10) E22 D22_5 I22_17 rfl rfl H0 ⟨Nat.le_of_ble_eq_true rfl, Nat.le_of_ble_eq_true rfl⟩ ⟨rfl, Nat.le_of_ble_eq_true rfl⟩ rfl rfl R (evx_up (Nat.le_of_ble_eq_true rfl) ge1) ?_
      intro h12 R13
      show evx _ _ _ _ _ [(0, .inr (.inr (.inl (some 0)))), (1, .inl (iz x1)), (2, .inl (iz x2)), (3, .inr (.inr (.inl (some 109))))] _ _ _ _
      refine evx_F E22 D22_15 rfl rfl ?_
      exact evx_ret E22 D22_16 rfl (fun d => rfl) rfl (show rg _ from (by decide)) R13
    · rw [if_neg cb11] at hs
      rw [ot_2 cb8 cb11] at ge1
      cases hs
      show evx _ _ _ _ _ _ _ _ (.inl (some (.inl 2)), 1 + 0) _
      refine evx_cat (n1 := 1) (n2 := 0) (D := 10) E22 D22_5 I22_17 rfl rfl H0 ⟨Nat.le_of_ble_eq_true rfl, Nat.le_of_ble_eq_true rfl⟩ ⟨rfl, Nat.le_of_ble_eq_true rfl⟩ rfl rfl R (evx_up (Nat.le_of_ble_eq_true rfl) ge1) ?_
      intro h14 R15
      show evx _ _ _ _ _ [(0, .inr (.inr (.inl (some 0)))), (1, .inl (iz x1)), (2, .inl (iz x2)), (3, .inr (.inr (.inl (some 109))))] _ _ _ _
      refine evx_F E22 D22_19 rfl rfl ?_
      exact evx_ret E22 D22_20 rfl (fun d => rfl) rfl (show rg _ from (by decide)) R15
set_option maxRecDepth 20000 in
theorem E37 : pgMm 37 = some (⟨"DictionaryHouse", "number", "(I)I"⟩, prog_1_method_6_code, 2, (some .int), []) := rfl
theorem D37_0 : pgDecT 37 0 = some (.aload_n 0, 1) := by decide +kernel
theorem D37_1 : pgDecT 37 1 = some (.iconst 0, 1) := by decide +kernel
theorem D37_2 : pgDecT 37 2 = some (.iload_n 1, 1) := by decide +kernel
theorem D37_3 : pgDecT 37 3 = some (.iconst (-1), 1) := by decide +kernel
theorem D37_4 : pgDecT 37 4 = some (.invokevirtual 102, 3) := by decide +kernel
theorem I37_102 : pgIi 37 102 = some (38, 3, 11) := by decide +kernel
theorem D37_7 : pgDecT 37 7 = some (.ireturn, 1) := by decide +kernel
/-! 37: DictionaryHouse.number (I)I -/
def f37 (M : Mm) (x1 : Int) : Option (Int × Int × Mm) := (f38 M 0 x1 (-1)).bind (fun zq2 => if zq2.1 = 0 then (some (0, zq2.2.1, zq2.2.2)) else some (zq2.1, 0, zq2.2.2))
theorem c37 {L : Nat} {xs : Nat → Int32} {h : mvH} {M : Mm} {x1 : Int} {k v : Int} {M' : Mm} (R : rp h M) (rx1 : rg x1) (hs : f37 M x1 = some (k, v, M')) : evx L xs 10 37 0 [(0, .inr (.inr (.inl (some 0)))), (1, .inl (iz x1))] [] h (ot k v) M' := by
  unfold f37 at hs
  refine evx_F E37 D37_0 rfl rfl ?_
  refine evx_F E37 D37_1 rfl rfl ?_
  refine evx_F E37 D37_2 rfl rfl ?_
  refine evx_F E37 D37_3 rfl rfl ?_
  obtain ⟨⟨kq7, q2, M6⟩, e1, hs⟩ := Option.bind_eq_some_iff.mp hs
  dsimp only at hs
  have ge1 := c38 (L := L) (xs := xs) R (by decide) rx1 (by decide) e1
  by_cases cb8 : kq7 = 0
  · rw [if_pos cb8] at hs
    subst cb8
    refine evx_cv (D := 9) E37 D37_4 I37_102 rfl rfl H0 ⟨Nat.le_of_ble_eq_true rfl, Nat.le_of_ble_eq_true rfl⟩ ⟨rfl, Nat.le_of_ble_eq_true rfl⟩ rfl R (evx_up (Nat.le_of_ble_eq_true rfl) ge1) ?_
    intro h3 R4 w5
    have w5 : rg q2 := w5
    show evx _ _ _ _ _ _ (.inl (iz q2) :: _) _ _ _
    cases hs
    exact evx_ret E37 D37_7 rfl (fun d => rfl) rfl (show rg _ from w5) R4
  · rw [if_neg cb8] at hs
    cases hs
    rw [ot_ne cb8] at ge1 ⊢
    exact evx_thv (D := 9) E37 D37_4 I37_102 rfl rfl H0 ⟨Nat.le_of_ble_eq_true rfl, Nat.le_of_ble_eq_true rfl⟩ ⟨rfl, Nat.le_of_ble_eq_true rfl⟩ rfl (thb (P := fun b => pgHf 37 4 (exn b) = none) rfl rfl _) rfl R (evx_up (Nat.le_of_ble_eq_true rfl) ge1)
set_option maxRecDepth 20000 in
theorem E86 : pgMm 86 = some (⟨"DictionaryHouse$Typing", "joinFilled", "(II)Z"⟩, prog_12_method_16_code, 4, (some .boolean), []) := rfl
theorem D86_0 : pgDecT 86 0 = some (.aload_n 0, 1) := by decide +kernel
theorem D86_1 : pgDecT 86 1 = some (.getfield 34, 3) := by decide +kernel
theorem F86_34 : pgFf 86 34 = some (10, 10, 3) := by decide +kernel
theorem D86_4 : pgDecT 86 4 = some (.iload_n 1, 1) := by decide +kernel
theorem D86_5 : pgDecT 86 5 = some (.aload_n 0, 1) := by decide +kernel
theorem D86_6 : pgDecT 86 6 = some (.getfield 44, 3) := by decide +kernel
theorem F86_44 : pgFf 86 44 = some (10, 0, 3) := by decide +kernel
theorem D86_9 : pgDecT 86 9 = some (.iload_n 2, 1) := by decide +kernel
theorem D86_10 : pgDecT 86 10 = some (.invokevirtual 140, 3) := by decide +kernel
theorem I86_140 : pgIi 86 140 = some (87, 1, 9) := by decide +kernel
theorem D86_13 : pgDecT 86 13 = some (.iastore, 1) := by decide +kernel
theorem D86_14 : pgDecT 86 14 = some (.iconst 0, 1) := by decide +kernel
theorem D86_15 : pgDecT 86 15 = some (.istore_n 3, 1) := by decide +kernel
theorem D86_16 : pgDecT 86 16 = some (.iload_n 3, 1) := by decide +kernel
theorem D86_17 : pgDecT 86 17 = some (.aload_n 0, 1) := by decide +kernel
theorem D86_18 : pgDecT 86 18 = some (.getfield 34, 3) := by decide +kernel
theorem D86_21 : pgDecT 86 21 = some (.iload_n 1, 1) := by decide +kernel
theorem D86_22 : pgDecT 86 22 = some (.iaload, 1) := by decide +kernel
theorem D86_23 : pgDecT 86 23 = some (.if_icmp .ge 30, 3) := by decide +kernel
theorem D86_53 : pgDecT 86 53 = some (.aload_n 0, 1) := by decide +kernel
theorem D86_54 : pgDecT 86 54 = some (.getfield 12, 3) := by decide +kernel
theorem F86_12 : pgFf 86 12 = some (10, 4, 3) := by decide +kernel
theorem D86_57 : pgDecT 86 57 = some (.aload_n 0, 1) := by decide +kernel
theorem D86_58 : pgDecT 86 58 = some (.getfield 25, 3) := by decide +kernel
theorem F86_25 : pgFf 86 25 = some (10, 7, 3) := by decide +kernel
theorem D86_61 : pgDecT 86 61 = some (.iload_n 1, 1) := by decide +kernel
theorem D86_62 : pgDecT 86 62 = some (.iaload, 1) := by decide +kernel
theorem D86_63 : pgDecT 86 63 = some (.aload_n 0, 1) := by decide +kernel
theorem D86_64 : pgDecT 86 64 = some (.iload_n 2, 1) := by decide +kernel
theorem D86_65 : pgDecT 86 65 = some (.iload_n 1, 1) := by decide +kernel
theorem D86_66 : pgDecT 86 66 = some (.bipush 8, 2) := by decide +kernel
theorem D86_68 : pgDecT 86 68 = some (.imul, 1) := by decide +kernel
theorem D86_69 : pgDecT 86 69 = some (.invokevirtual 92, 3) := by decide +kernel
theorem I86_92 : pgIi 86 92 = some (89, 2, 10) := by decide +kernel
theorem D86_72 : pgDecT 86 72 = some (.invokevirtual 96, 3) := by decide +kernel
theorem I86_96 : pgIi 86 96 = some (79, 2, 5) := by decide +kernel
theorem D86_75 : pgDecT 86 75 = some (.ireturn, 1) := by decide +kernel
theorem D86_26 : pgDecT 86 26 = some (.aload_n 0, 1) := by decide +kernel
theorem D86_27 : pgDecT 86 27 = some (.getfield 31, 3) := by decide +kernel
theorem F86_31 : pgFf 86 31 = some (10, 9, 3) := by decide +kernel
theorem D86_30 : pgDecT 86 30 = some (.iload_n 1, 1) := by decide +kernel
theorem D86_31 : pgDecT 86 31 = some (.bipush 8, 2) := by decide +kernel
theorem D86_33 : pgDecT 86 33 = some (.imul, 1) := by decide +kernel
theorem D86_34 : pgDecT 86 34 = some (.iload_n 3, 1) := by decide +kernel
theorem D86_35 : pgDecT 86 35 = some (.iadd, 1) := by decide +kernel
theorem D86_36 : pgDecT 86 36 = some (.aload_n 0, 1) := by decide +kernel
theorem D86_37 : pgDecT 86 37 = some (.getfield 12, 3) := by decide +kernel
theorem D86_40 : pgDecT 86 40 = some (.iconst 2, 1) := by decide +kernel
theorem D86_41 : pgDecT 86 41 = some (.iconst (-1), 1) := by decide +kernel
theorem D86_42 : pgDecT 86 42 = some (.iconst (-1), 1) := by decide +kernel
theorem D86_43 : pgDecT 86 43 = some (.invokevirtual 80, 3) := by decide +kernel
theorem I86_80 : pgIi 86 80 = some (74, 3, 5) := by decide +kernel
theorem D86_46 : pgDecT 86 46 = some (.iastore, 1) := by decide +kernel
theorem D86_47 : pgDecT 86 47 = some (.iinc 3 1, 3) := by decide +kernel
theorem D86_50 : pgDecT 86 50 = some (.goto (-34), 3) := by decide +kernel
/-! 86: DictionaryHouse$Typing.joinFilled (II)Z -/
def l86 : Nat → Nat → Mm → Int → Int → Int → Option (Int × Mm)
  | 0, _, _, _, _, _ => none
  | f + 1, 16, M, x1, x2, x3 => if 0 ≤ x1 ∧ x1 < 60 then (if (M 39 (Int.toNat x1)) ≤ x3 then (if rg (x1 * 8) then (f89 M x2 (x1 * 8)).bind (fun zq13 => (f79 zq13.2 (M 36 (Int.toNat x1)) zq13.1).bind (fun zq19 => if zq19.1 = 0 ∨ zq19.1 = 1 then (some (zq19.1, zq19.2)) else none)) else none) else (f74 M 2 (-1) (-1)).bind (fun zq26 => if 0 ≤ ((x1 * 8) + x3) ∧ ((x1 * 8) + x3) < 488 then (if rg (x3 + 1) then (l86 f 16 (up zq26.2 38 (Int.toNat ((x1 * 8) + x3)) zq26.1) x1 x2 (x3 + 1)) else none) else none)) else none
  | _, _, _, _, _, _ => none
theorem d86 {L : Nat} {xs : Nat → Int32} (f : Nat) : (∀ (M : Mm) (x1 x2 x3 : Int) (h : mvH) (v : Int) (M' : Mm), l86 f 16 M x1 x2 x3 = some (v, M') → rp h M → rg x1 → rg x2 → rg x3 → evx L xs 4 86 16 [(0, .inr (.inr (.inl (some 24)))), (1, .inl (iz x1)), (2, .inl (iz x2)), (3, .inl (iz x3))] [] h (.inl (some (.inl v)), 0) M') := by
  induction f with
  | zero => exact (fun M x1 x2 x3 h v M' hs _ _ _ _ => by cases hs)
  | succ f ih =>
    intro M x1 x2 x3 h v M' hs R rx1 rx2 rx3
    rw [l86] at hs
    refine evx_F E86 D86_16 rfl rfl ?_
    refine evx_F E86 D86_17 rfl rfl ?_
    refine evx_gfr E86 D86_18 F86_34 H24 rfl R ?_
    refine evx_F E86 D86_21 rfl rfl ?_
    obtain ⟨k9, hs⟩ := ck hs
    refine evx_ial E86 D86_22 H39 (by decide) R k9 ?_
    by_cases cb10 : (M 39 (Int.toNat x1)) ≤ x3
    · rw [if_pos cb10] at hs
      refine evx_F E86 D86_23 rfl (ifT (c2_ge_T rx3 (R.1 39 (Int.toNat x1)) cb10)) ?_
      refine evx_F E86 D86_53 rfl rfl ?_
      refine evx_gfr E86 D86_54 F86_12 H24 rfl R ?_
      refine evx_F E86 D86_57 rfl rfl ?_
      refine evx_gfr E86 D86_58 F86_25 H24 rfl R ?_
      refine evx_F E86 D86_61 rfl rfl ?_
      refine evx_ial E86 D86_62 H36 (by decide) R k9 ?_
      refine evx_F E86 D86_63 rfl rfl ?_
      refine evx_F E86 D86_64 rfl rfl ?_
      refine evx_F E86 D86_65 rfl rfl ?_
      refine evx_k (k := 8) E86 D86_66 rfl (by decide) ?_
      refine evx_mul E86 D86_68 ?_
      obtain ⟨k11, hs⟩ := ck hs
      obtain ⟨⟨q13, M17⟩, e12, hs⟩ := Option.bind_eq_some_iff.mp hs
      dsimp only at hs
      refine evx_cv (D := 3) E86 D86_69 I86_92 rfl rfl H24 ⟨Nat.le_of_ble_eq_true rfl, Nat.le_of_ble_eq_true rfl⟩ ⟨rfl, Nat.le_of_ble_eq_true rfl⟩ rfl R (evx_up (Nat.le_of_ble_eq_true rfl) (c89 R rx2 k11 e12)) ?_
      intro h14 R15 w16
      have w16 : rg q13 := w16
      show evx _ _ _ _ _ _ (.inl (iz q13) :: _) _ _ _
      obtain ⟨⟨q19, M23⟩, e18, hs⟩ := Option.bind_eq_some_iff.mp hs
      dsimp only at hs
      refine evx_cv (D := 3) E86 D86_72 I86_96 rfl rfl H25 ⟨Nat.le_of_ble_eq_true rfl, Nat.le_of_ble_eq_true rfl⟩ ⟨rfl, Nat.le_of_ble_eq_true rfl⟩ rfl R15 (evx_up (Nat.le_of_ble_eq_true rfl) (c79 R15 (R.1 36 (Int.toNat x1)) w16 e18)) ?_
      intro h20 R21 w22
      have w22 : rg q19 := w22
      show evx _ _ _ _ _ _ (.inl (iz q19) :: _) _ _ _
      obtain ⟨k24, hs⟩ := ck hs
      cases hs
      exact evx_retb E86 D86_75 rfl k24 R21
    · rw [if_neg cb10] at hs
      refine evx_F E86 D86_23 rfl (ifF (c2_ge_F rx3 (R.1 39 (Int.toNat x1)) (by omega))) ?_
      refine evx_F E86 D86_26 rfl rfl ?_
      refine evx_gfr E86 D86_27 F86_31 H24 rfl R ?_
      refine evx_F E86 D86_30 rfl rfl ?_
      refine evx_k (k := 8) E86 D86_31 rfl (by decide) ?_
      refine evx_mul E86 D86_33 ?_
      refine evx_F E86 D86_34 rfl rfl ?_
      refine evx_add E86 D86_35 ?_
      refine evx_F E86 D86_36 rfl rfl ?_
      refine evx_gfr E86 D86_37 F86_12 H24 rfl R ?_
      refine evx_F E86 D86_40 rfl rfl ?_
      refine evx_F E86 D86_41 rfl rfl ?_
      refine evx_F E86 D86_42 rfl rfl ?_
      obtain ⟨⟨q26, M30⟩, e25, hs⟩ := Option.bind_eq_some_iff.mp hs
      dsimp only at hs
      refine evx_cv (D := 3) E86 D86_43 I86_80 rfl rfl H25 ⟨Nat.le_of_ble_eq_true rfl, Nat.le_of_ble_eq_true rfl⟩ ⟨rfl, Nat.le_of_ble_eq_true rfl⟩ rfl R (evx_up (Nat.le_of_ble_eq_true rfl) (c74 R (by decide) (by decide) (by decide) e25)) ?_
      intro h27 R28 w29
      have w29 : rg q26 := w29
      show evx _ _ _ _ _ _ (.inl (iz q26) :: _) _ _ _
      obtain ⟨k31, hs⟩ := ck hs
      refine evx_ias E86 D86_46 H38 (by decide) R28 k31 w29 ?_
      intro h32 R33
      refine evx_inc E86 D86_47 (Nat.le_of_ble_eq_true rfl) rfl ?_
      refine evx_F E86 D86_50 rfl rfl ?_
      obtain ⟨k34, hs⟩ := ck hs
      show evx _ _ _ _ _ [(3, .inl (iz (x3 + 1))), (0, .inr (.inr (.inl (some 24)))), (1, .inl (iz x1)), (2, .inl (iz x2))] _ _ _ _
      exact evx_lv (lvLe_mk (fm rfl (fm rfl (fm rfl (fm rfl fn)))) (fm rfl (fm rfl (fm rfl (fm rfl fn)))) (fm rfl (fm rfl (fm rfl (fm rfl fn))))) (ih _ _ _ _ _ _ _ hs R33 rx1 rx2 k34)
def f86 (M : Mm) (x1 : Int) (x2 : Int) : Option (Int × Mm) := (f87 M x2).bind (fun q2 => if 0 ≤ x1 ∧ x1 < 60 then (l86 FU 16 (up M 39 (Int.toNat x1) q2) x1 x2 0) else none)
theorem c86 {L : Nat} {xs : Nat → Int32} {h : mvH} {M : Mm} {x1 x2 : Int} {v : Int} {M' : Mm} (R : rp h M) (rx1 : rg x1) (rx2 : rg x2) (hs : f86 M x1 x2 = some (v, M')) : evx L xs 4 86 0 [(0, .inr (.inr (.inl (some 24)))), (1, .inl (iz x1)), (2, .inl (iz x2))] [] h (.inl (some (.inl v)), 0) M' := by
  unfold f86 at hs
  refine evx_F E86 D86_0 rfl rfl ?_
  refine evx_gfr E86 D86_1 F86_34 H24 rfl R ?_
  refine evx_F E86 D86_4 rfl rfl ?_
  refine evx_F E86 D86_5 rfl rfl ?_
  refine evx_gfr E86 D86_6 F86_44 H24 rfl R ?_
  refine evx_F E86 D86_9 rfl rfl ?_
  obtain ⟨q2, e1, hs⟩ := Option.bind_eq_some_iff.mp hs
  refine evx_cv (D := 3) E86 D86_10 I86_140 rfl rfl H1 ⟨Nat.le_of_ble_eq_true rfl, Nat.le_of_ble_eq_true rfl⟩ ⟨rfl, Nat.le_of_ble_eq_true rfl⟩ rfl R (evx_up (Nat.le_of_ble_eq_true rfl) (c87 R rx2 e1)) ?_
  intro h3 R4 w5
  have w5 : rg q2 := w5
  show evx _ _ _ _ _ _ (.inl (iz q2) :: _) _ _ _
  obtain ⟨k6, hs⟩ := ck hs
  refine evx_ias E86 D86_13 H39 (by decide) R4 k6 w5 ?_
  intro h7 R8
  refine evx_F E86 D86_14 rfl rfl ?_
  refine evx_F E86 D86_15 rfl rfl ?_
  show evx _ _ _ _ _ [(3, .inl (iz 0)), (0, .inr (.inr (.inl (some 24)))), (1, .inl (iz x1)), (2, .inl (iz x2))] _ _ _ _
  exact evx_lv (lvLe_mk (fm rfl (fm rfl (fm rfl (fm rfl fn)))) (fm rfl (fm rfl (fm rfl (fm rfl fn)))) (fm rfl (fm rfl (fm rfl (fm rfl fn))))) ((d86 FU) _ _ _ _ _ _ _ hs R8 rx1 rx2 (by decide))
set_option maxRecDepth 20000 in
theorem E97 : pgMm 97 = some (⟨"DictionaryHouse$Graph", "isEndless", "()Z"⟩, prog_7_method_12_code, 5, (some .boolean), []) := rfl
theorem D97_0 : pgDecT 97 0 = some (.aload_n 0, 1) := by decide +kernel
theorem D97_1 : pgDecT 97 1 = some (.invokevirtual 51, 3) := by decide +kernel
theorem I97_51 : pgIi 97 51 = some (98, 0, 5) := by decide +kernel
theorem D97_4 : pgDecT 97 4 = some (.istore_n 1, 1) := by decide +kernel
theorem D97_5 : pgDecT 97 5 = some (.iconst 0, 1) := by decide +kernel
theorem D97_6 : pgDecT 97 6 = some (.istore_n 2, 1) := by decide +kernel
theorem D97_7 : pgDecT 97 7 = some (.iconst 0, 1) := by decide +kernel
theorem D97_8 : pgDecT 97 8 = some (.istore_n 3, 1) := by decide +kernel
theorem D97_9 : pgDecT 97 9 = some (.iload_n 3, 1) := by decide +kernel
theorem D97_10 : pgDecT 97 10 = some (.aload_n 0, 1) := by decide +kernel
theorem D97_11 : pgDecT 97 11 = some (.getfield 36, 3) := by decide +kernel
theorem F97_36 : pgFf 97 36 = some (5, 8, 0) := by decide +kernel
theorem D97_14 : pgDecT 97 14 = some (.if_icmp .ge 38, 3) := by decide +kernel
theorem D97_52 : pgDecT 97 52 = some (.iconst 0, 1) := by decide +kernel
theorem D97_53 : pgDecT 97 53 = some (.istore_n 3, 1) := by decide +kernel
theorem D97_54 : pgDecT 97 54 = some (.iload_n 3, 1) := by decide +kernel
theorem D97_17 : pgDecT 97 17 = some (.aload_n 0, 1) := by decide +kernel
theorem D97_18 : pgDecT 97 18 = some (.getfield 21, 3) := by decide +kernel
theorem F97_21 : pgFf 97 21 = some (5, 3, 3) := by decide +kernel
theorem D97_21 : pgDecT 97 21 = some (.iload_n 3, 1) := by decide +kernel
theorem D97_22 : pgDecT 97 22 = some (.iaload, 1) := by decide +kernel
theorem D97_23 : pgDecT 97 23 = some (.iload_n 3, 1) := by decide +kernel
theorem D97_24 : pgDecT 97 24 = some (.if_icmp .ne 22, 3) := by decide +kernel
theorem D97_46 : pgDecT 97 46 = some (.iinc 3 1, 3) := by decide +kernel
theorem D97_49 : pgDecT 97 49 = some (.goto (-40), 3) := by decide +kernel
theorem D97_27 : pgDecT 97 27 = some (.aload_n 0, 1) := by decide +kernel
theorem D97_28 : pgDecT 97 28 = some (.getfield 24, 3) := by decide +kernel
theorem F97_24 : pgFf 97 24 = some (5, 4, 3) := by decide +kernel
theorem D97_31 : pgDecT 97 31 = some (.iload_n 3, 1) := by decide +kernel
theorem D97_32 : pgDecT 97 32 = some (.iaload, 1) := by decide +kernel
theorem D97_33 : pgDecT 97 33 = some (.ifCond .ne 13, 3) := by decide +kernel
theorem D97_36 : pgDecT 97 36 = some (.aload_n 0, 1) := by decide +kernel
theorem D97_37 : pgDecT 97 37 = some (.getfield 33, 3) := by decide +kernel
theorem F97_33 : pgFf 97 33 = some (5, 7, 3) := by decide +kernel
theorem D97_40 : pgDecT 97 40 = some (.iload_n 2, 1) := by decide +kernel
theorem D97_41 : pgDecT 97 41 = some (.iinc 2 1, 3) := by decide +kernel
theorem D97_44 : pgDecT 97 44 = some (.iload_n 3, 1) := by decide +kernel
theorem D97_45 : pgDecT 97 45 = some (.iastore, 1) := by decide +kernel
theorem D97_55 : pgDecT 97 55 = some (.iload_n 2, 1) := by decide +kernel
theorem D97_56 : pgDecT 97 56 = some (.if_icmp .ge 50, 3) := by decide +kernel
theorem D97_106 : pgDecT 97 106 = some (.iload_n 2, 1) := by decide +kernel
theorem D97_107 : pgDecT 97 107 = some (.iload_n 1, 1) := by decide +kernel
theorem D97_108 : pgDecT 97 108 = some (.if_icmp .ge 7, 3) := by decide +kernel
theorem D97_115 : pgDecT 97 115 = some (.iconst 0, 1) := by decide +kernel
theorem D97_116 : pgDecT 97 116 = some (.ireturn, 1) := by decide +kernel
theorem D97_111 : pgDecT 97 111 = some (.iconst 1, 1) := by decide +kernel
theorem D97_112 : pgDecT 97 112 = some (.goto 4, 3) := by decide +kernel
theorem D97_59 : pgDecT 97 59 = some (.iload_n 3, 1) := by decide +kernel
theorem D97_60 : pgDecT 97 60 = some (.sipush 2504, 3) := by decide +kernel
theorem D97_63 : pgDecT 97 63 = some (.if_icmp .ge 43, 3) := by decide +kernel
theorem D97_66 : pgDecT 97 66 = some (.aload_n 0, 1) := by decide +kernel
theorem D97_67 : pgDecT 97 67 = some (.getfield 33, 3) := by decide +kernel
theorem D97_70 : pgDecT 97 70 = some (.iload_n 3, 1) := by decide +kernel
theorem D97_71 : pgDecT 97 71 = some (.iaload, 1) := by decide +kernel
theorem D97_72 : pgDecT 97 72 = some (.istore 4, 2) := by decide +kernel
theorem D97_74 : pgDecT 97 74 = some (.aload_n 0, 1) := by decide +kernel
theorem D97_75 : pgDecT 97 75 = some (.aload_n 0, 1) := by decide +kernel
theorem D97_76 : pgDecT 97 76 = some (.getfield 15, 3) := by decide +kernel
theorem F97_15 : pgFf 97 15 = some (5, 1, 3) := by decide +kernel
theorem D97_79 : pgDecT 97 79 = some (.iload 4, 2) := by decide +kernel
theorem D97_81 : pgDecT 97 81 = some (.iaload, 1) := by decide +kernel
theorem D97_82 : pgDecT 97 82 = some (.iload_n 2, 1) := by decide +kernel
theorem D97_83 : pgDecT 97 83 = some (.invokevirtual 55, 3) := by decide +kernel
theorem I97_55 : pgIi 97 55 = some (102, 2, 5) := by decide +kernel
theorem D97_86 : pgDecT 97 86 = some (.istore_n 2, 1) := by decide +kernel
theorem D97_87 : pgDecT 97 87 = some (.aload_n 0, 1) := by decide +kernel
theorem D97_88 : pgDecT 97 88 = some (.aload_n 0, 1) := by decide +kernel
theorem D97_89 : pgDecT 97 89 = some (.getfield 18, 3) := by decide +kernel
theorem F97_18 : pgFf 97 18 = some (5, 2, 3) := by decide +kernel
theorem D97_92 : pgDecT 97 92 = some (.iload 4, 2) := by decide +kernel
theorem D97_94 : pgDecT 97 94 = some (.iaload, 1) := by decide +kernel
theorem D97_95 : pgDecT 97 95 = some (.iload_n 2, 1) := by decide +kernel
theorem D97_96 : pgDecT 97 96 = some (.invokevirtual 55, 3) := by decide +kernel
theorem D97_99 : pgDecT 97 99 = some (.istore_n 2, 1) := by decide +kernel
theorem D97_100 : pgDecT 97 100 = some (.iinc 3 1, 3) := by decide +kernel
theorem D97_103 : pgDecT 97 103 = some (.goto (-49), 3) := by decide +kernel
/-! 97: DictionaryHouse$Graph.isEndless ()Z -/
def l97 : Nat → Nat → Mm → Int → Int → Int → Option (Int × Mm)
  | 0, _, _, _, _, _ => none
  | f + 1, 9, M, x1, x2, x3 => if (M 25 8) ≤ x3 then (l97 f 54 M x1 x2 0) else (if 0 ≤ x3 ∧ x3 < 2504 then (if ¬ (M 29 (Int.toNat x3)) = x3 then (if rg (x3 + 1) then (l97 f 9 M x1 x2 (x3 + 1)) else none) else (if ¬ (M 30 (Int.toNat x3)) = 0 then (if rg (x3 + 1) then (l97 f 9 M x1 x2 (x3 + 1)) else none) else (if 0 ≤ x2 ∧ x2 < 5012 then (if rg (x2 + 1) then (if rg (x3 + 1) then (l97 f 9 (up M 33 (Int.toNat x2) x3) x1 (x2 + 1) (x3 + 1)) else none) else none) else none))) else none)
  | f + 1, 54, M, x1, x2, x3 => if x2 ≤ x3 then (if x1 ≤ x2 then (some (0, M)) else (some (1, M))) else (if 2504 ≤ x3 then (if x1 ≤ x2 then (some (0, M)) else (some (1, M))) else (if 0 ≤ x3 ∧ x3 < 5012 then (if 0 ≤ (M 33 (Int.toNat x3)) ∧ (M 33 (Int.toNat x3)) < 2504 then (f102 M (M 27 (Int.toNat (M 33 (Int.toNat x3)))) x2).bind (fun zq25 => (f102 zq25.2 (zq25.2 28 (Int.toNat (M 33 (Int.toNat x3)))) zq25.1).bind (fun zq31 => if rg (x3 + 1) then (l97 f 54 zq31.2 x1 zq31.1 (x3 + 1)) else none)) else none) else none))
  | _, _, _, _, _, _ => none
theorem d97 {L : Nat} {xs : Nat → Int32} (f : Nat) : (∀ (M : Mm) (x1 x2 x3 : Int) (h : mvH) (v : Int) (M' : Mm), l97 f 9 M x1 x2 x3 = some (v, M') → rp h M → rg x1 → rg x2 → rg x3 → evx L xs 4 97 9 [(0, .inr (.inr (.inl (some 25)))), (1, .inl (iz x1)), (2, .inl (iz x2)), (3, .inl (iz x3))] [] h (.inl (some (.inl v)), 0) M') ∧ (∀ (M : Mm) (x1 x2 x3 : Int) (h : mvH) (v : Int) (M' : Mm), l97 f 54 M x1 x2 x3 = some (v, M') → rp h M → rg x1 → rg x2 → rg x3 → evx L xs 4 97 54 [(0, .inr (.inr (.inl (some 25)))), (1, .inl (iz x1)), (2, .inl (iz x2)), (3, .inl (iz x3))] [] h (.inl (some (.inl v)), 0) M') := by
  induction f with
  | zero => exact ⟨(fun M x1 x2 x3 h v M' hs _ _ _ _ => by cases hs), (fun M x1 x2 x3 h v M' hs _ _ _ _ => by cases hs)⟩
  | succ f ih =>
    refine ⟨?_, ?_⟩
    · intro M x1 x2 x3 h v M' hs R rx1 rx2 rx3
      rw [l97] at hs
      refine evx_F E97 D97_9 rfl rfl ?_
      refine evx_F E97 D97_10 rfl rfl ?_
      refine evx_gfi (k := 8) E97 D97_11 F97_36 H25 rfl R ?_
      by_cases cb7 : (M 25 8) ≤ x3
      · rw [if_pos cb7] at hs
        refine evx_F E97 D97_14 rfl (ifT (c2_ge_T rx3 (R.1 25 8) cb7)) ?_
        refine evx_F E97 D97_52 rfl rfl ?_
        refine evx_F E97 D97_53 rfl rfl ?_
        show evx _ _ _ _ _ [(3, .inl (iz 0)), (0, .inr (.inr (.inl (some 25)))), (1, .inl (iz x1)), (2, .inl (iz x2))] _ _ _ _
        exact evx_lv (lvLe_mk (fm rfl (fm rfl (fm rfl (fm rfl fn)))) (fm rfl (fm rfl (fm rfl (fm rfl fn)))) (fm rfl (fm rfl (fm rfl (fm rfl fn))))) (ih.2 _ _ _ _ _ _ _ hs R rx1 rx2 (by decide))
      · rw [if_neg cb7] at hs
        refine evx_F E97 D97_14 rfl (ifF (c2_ge_F rx3 (R.1 25 8) (by omega))) ?_
        refine evx_F E97 D97_17 rfl rfl ?_
        refine evx_gfr E97 D97_18 F97_21 H25 rfl R ?_
        refine evx_F E97 D97_21 rfl rfl ?_
        obtain ⟨k8, hs⟩ := ck hs
        refine evx_ial E97 D97_22 H29 (by decide) R k8 ?_
        refine evx_F E97 D97_23 rfl rfl ?_
        by_cases cb9 : ¬ (M 29 (Int.toNat x3)) = x3
        · rw [if_pos cb9] at hs
          refine evx_F E97 D97_24 rfl (ifT (c2_ne_T (R.1 29 (Int.toNat x3)) rx3 cb9)) ?_
          refine evx_inc E97 D97_46 (Nat.le_of_ble_eq_true rfl) rfl ?_
          refine evx_F E97 D97_49 rfl rfl ?_
          obtain ⟨k10, hs⟩ := ck hs
          show evx _ _ _ _ _ [(3, .inl (iz (x3 + 1))), (0, .inr (.inr (.inl (some 25)))), (1, .inl (iz x1)), (2, .inl (iz x2))] _ _ _ _
          exact evx_lv (lvLe_mk (fm rfl (fm rfl (fm rfl (fm rfl fn)))) (fm rfl (fm rfl (fm rfl (fm rfl fn)))) (fm rfl (fm rfl (fm rfl (fm rfl fn))))) (ih.1 _ _ _ _ _ _ _ hs R rx1 rx2 k10)
        · rw [if_neg cb9] at hs
          refine evx_F E97 D97_24 rfl (ifF (c2_ne_F (R.1 29 (Int.toNat x3)) rx3 (by omega))) ?_
          refine evx_F E97 D97_27 rfl rfl ?_
          refine evx_gfr E97 D97_28 F97_24 H25 rfl R ?_
          refine evx_F E97 D97_31 rfl rfl ?_
          refine evx_ial E97 D97_32 H30 (by decide) R k8 ?_
          by_cases cb11 : ¬ (M 30 (Int.toNat x3)) = 0
          · rw [if_pos cb11] at hs
            refine evx_F E97 D97_33 rfl (ifT (c1_ne_T (R.1 30 (Int.toNat x3)) cb11)) ?_
            refine evx_inc E97 D97_46 (Nat.le_of_ble_eq_true rfl) rfl ?_
            refine evx_F E97 D97_49 rfl rfl ?_
            obtain ⟨k12, hs⟩ := ck hs
            show evx _ _ _ _ _ [(3, .inl (iz (x3 + 1))), (0, .inr (.inr (.inl (some 25)))), (1, .inl (iz x1)), (2, .inl (iz x2))] _ _ _ _
            exact evx_lv (lvLe_mk (fm rfl (fm rfl (fm rfl (fm rfl fn)))) (fm rfl (fm rfl (fm rfl (fm rfl fn)))) (fm rfl (fm rfl (fm rfl (fm rfl fn))))) (ih.1 _ _ _ _ _ _ _ hs R rx1 rx2 k12)
          · rw [if_neg cb11] at hs
            refine evx_F E97 D97_33 rfl (ifF (c1_ne_F (R.1 30 (Int.toNat x3)) (by omega))) ?_
            refine evx_F E97 D97_36 rfl rfl ?_
            refine evx_gfr E97 D97_37 F97_33 H25 rfl R ?_
            refine evx_F E97 D97_40 rfl rfl ?_
            refine evx_inc E97 D97_41 (Nat.le_of_ble_eq_true rfl) rfl ?_
            refine evx_F E97 D97_44 rfl rfl ?_
            obtain ⟨k13, hs⟩ := ck hs
            refine evx_ias E97 D97_45 H33 (by decide) R k13 rx3 ?_
            intro h14 R15
            refine evx_inc E97 D97_46 (Nat.le_of_ble_eq_true rfl) rfl ?_
            refine evx_F E97 D97_49 rfl rfl ?_
            obtain ⟨k16, hs⟩ := ck hs
            obtain ⟨k17, hs⟩ := ck hs
            show evx _ _ _ _ _ [(3, .inl (iz (x3 + 1))), (2, .inl (iz (x2 + 1))), (0, .inr (.inr (.inl (some 25)))), (1, .inl (iz x1))] _ _ _ _
            exact evx_lv (lvLe_mk (fm rfl (fm rfl (fm rfl (fm rfl fn)))) (fm rfl (fm rfl (fm rfl (fm rfl fn)))) (fm rfl (fm rfl (fm rfl (fm rfl fn))))) (ih.1 _ _ _ _ _ _ _ hs R15 rx1 k16 k17)
    · intro M x1 x2 x3 h v M' hs R rx1 rx2 rx3
      rw [l97] at hs
      refine evx_F E97 D97_54 rfl rfl ?_
      refine evx_F E97 D97_55 rfl rfl ?_
      by_cases cb18 : x2 ≤ x3
      · rw [if_pos cb18] at hs
        refine evx_F E97 D97_56 rfl (ifT (c2_ge_T rx3 rx2 cb18)) ?_
        refine evx_F E97 D97_106 rfl rfl ?_
        refine evx_F E97 D97_107 rfl rfl ?_
        by_cases cb19 : x1 ≤ x2
        · rw [if_pos cb19] at hs
          refine evx_F E97 D97_108 rfl (ifT (c2_ge_T rx2 rx1 cb19)) ?_
          refine evx_F E97 D97_115 rfl rfl ?_
          cases hs
          exact evx_ret E97 D97_116 rfl (fun d => rfl) rfl (show rg _ from (by decide)) R
        · rw [if_neg cb19] at hs
          refine evx_F E97 D97_108 rfl (ifF (c2_ge_F rx2 rx1 (by omega))) ?_
          refine evx_F E97 D97_111 rfl rfl ?_
          refine evx_F E97 D97_112 rfl rfl ?_
          cases hs
          exact evx_ret E97 D97_116 rfl (fun d => rfl) rfl (show rg _ from (by decide)) R
      · rw [if_neg cb18] at hs
        refine evx_F E97 D97_56 rfl (ifF (c2_ge_F rx3 rx2 (by omega))) ?_
        refine evx_F E97 D97_59 rfl rfl ?_
        refine evx_k (k := 2504) E97 D97_60 rfl (by decide) ?_
        by_cases cb20 : 2504 ≤ x3
        · rw [if_pos cb20] at hs
          refine evx_F E97 D97_63 rfl (ifT (c2_ge_T rx3 (by decide) cb20)) ?_
          refine evx_F E97 D97_106 rfl rfl ?_
          refine evx_F E97 D97_107 rfl rfl ?_
          by_cases cb21 : x1 ≤ x2
          · rw [if_pos cb21] at hs
            refine evx_F E97 D97_108 rfl (ifT (c2_ge_T rx2 rx1 cb21)) ?_
            refine evx_F E97 D97_115 rfl rfl ?_
            cases hs
            exact evx_ret E97 D97_116 rfl (fun d => rfl) rfl (show rg _ from (by decide)) R
          · rw [if_neg cb21] at hs
            refine evx_F E97 D97_108 rfl (ifF (c2_ge_F rx2 rx1 (by omega))) ?_
            refine evx_F E97 D97_111 rfl rfl ?_
            refine evx_F E97 D97_112 rfl rfl ?_
            cases hs
            exact evx_ret E97 D97_116 rfl (fun d => rfl) rfl (show rg _ from (by decide)) R
        · rw [if_neg cb20] at hs
          refine evx_F E97 D97_63 rfl (ifF (c2_ge_F rx3 (by decide) (by omega))) ?_
          refine evx_F E97 D97_66 rfl rfl ?_
          refine evx_gfr E97 D97_67 F97_33 H25 rfl R ?_
          refine evx_F E97 D97_70 rfl rfl ?_
          obtain ⟨k22, hs⟩ := ck hs
          refine evx_ial E97 D97_71 H33 (by decide) R k22 ?_
          refine evx_F E97 D97_72 rfl rfl ?_
          refine evx_F E97 D97_74 rfl rfl ?_
          refine evx_F E97 D97_75 rfl rfl ?_
          refine evx_gfr E97 D97_76 F97_15 H25 rfl R ?_
          refine evx_F E97 D97_79 rfl rfl ?_
          obtain ⟨k23, hs⟩ := ck hs
          refine evx_ial E97 D97_81 H27 (by decide) R k23 ?_
          refine evx_F E97 D97_82 rfl rfl ?_
          obtain ⟨⟨q25, M29⟩, e24, hs⟩ := Option.bind_eq_some_iff.mp hs
          dsimp only at hs
          refine evx_cv (D := 3) E97 D97_83 I97_55 rfl rfl H25 ⟨Nat.le_of_ble_eq_true rfl, Nat.le_of_ble_eq_true rfl⟩ ⟨rfl, Nat.le_of_ble_eq_true rfl⟩ rfl R (evx_up (Nat.le_of_ble_eq_true rfl) (c102 R (R.1 27 (Int.toNat (M 33 (Int.toNat x3)))) rx2 e24)) ?_
          intro h26 R27 w28
          have w28 : rg q25 := w28
          show evx _ _ _ _ _ _ (.inl (iz q25) :: _) _ _ _
          refine evx_F E97 D97_86 rfl rfl ?_
          refine evx_F E97 D97_87 rfl rfl ?_
          refine evx_F E97 D97_88 rfl rfl ?_
          refine evx_gfr E97 D97_89 F97_18 H25 rfl R27 ?_
          refine evx_F E97 D97_92 rfl rfl ?_
          refine evx_ial E97 D97_94 H28 (by decide) R27 k23 ?_
          refine evx_F E97 D97_95 rfl rfl ?_
          obtain ⟨⟨q31, M35⟩, e30, hs⟩ := Option.bind_eq_some_iff.mp hs
          dsimp only at hs
          refine evx_cv (D := 3) E97 D97_96 I97_55 rfl rfl H25 ⟨Nat.le_of_ble_eq_true rfl, Nat.le_of_ble_eq_true rfl⟩ ⟨rfl, Nat.le_of_ble_eq_true rfl⟩ rfl R27 (evx_up (Nat.le_of_ble_eq_true rfl) (c102 R27 (R27.1 28 (Int.toNat (M 33 (Int.toNat x3)))) w28 e30)) ?_
          intro h32 R33 w34
          have w34 : rg q31 := w34
          show evx _ _ _ _ _ _ (.inl (iz q31) :: _) _ _ _
          refine evx_F E97 D97_99 rfl rfl ?_
          refine evx_inc E97 D97_100 (Nat.le_of_ble_eq_true rfl) rfl ?_
          refine evx_F E97 D97_103 rfl rfl ?_
          obtain ⟨k36, hs⟩ := ck hs
          show evx _ _ _ _ _ [(3, .inl (iz (x3 + 1))), (2, .inl (iz q31)), (4, .inl (iz (M 33 (Int.toNat x3)))), (0, .inr (.inr (.inl (some 25)))), (1, .inl (iz x1))] _ _ _ _
          exact evx_lv (lvLe_mk (fm rfl (fm rfl (fm rfl (fm rfl fn)))) (fm rfl (fm rfl (fm rfl (fm rfl (fm rfl fn))))) (fm rfl (fm rfl (fm rfl (fm rfl fn))))) (ih.2 _ _ _ _ _ _ _ hs R33 rx1 w34 k36)
def f97 (M : Mm) : Option (Int × Mm) := (f98 M).bind (fun zq2 => l97 FU 9 zq2.2 zq2.1 0 0)
theorem c97 {L : Nat} {xs : Nat → Int32} {h : mvH} {M : Mm} {v : Int} {M' : Mm} (R : rp h M)  (hs : f97 M  = some (v, M')) : evx L xs 4 97 0 [(0, .inr (.inr (.inl (some 25))))] [] h (.inl (some (.inl v)), 0) M' := by
  unfold f97 at hs
  refine evx_F E97 D97_0 rfl rfl ?_
  obtain ⟨⟨q2, M6⟩, e1, hs⟩ := Option.bind_eq_some_iff.mp hs
  dsimp only at hs
  refine evx_cv (D := 3) E97 D97_1 I97_51 rfl rfl H25 ⟨Nat.le_of_ble_eq_true rfl, Nat.le_of_ble_eq_true rfl⟩ ⟨rfl, Nat.le_of_ble_eq_true rfl⟩ rfl R (evx_up (Nat.le_of_ble_eq_true rfl) (c98 R  e1)) ?_
  intro h3 R4 w5
  have w5 : rg q2 := w5
  show evx _ _ _ _ _ _ (.inl (iz q2) :: _) _ _ _
  refine evx_F E97 D97_4 rfl rfl ?_
  refine evx_F E97 D97_5 rfl rfl ?_
  refine evx_F E97 D97_6 rfl rfl ?_
  refine evx_F E97 D97_7 rfl rfl ?_
  refine evx_F E97 D97_8 rfl rfl ?_
  show evx _ _ _ _ _ [(3, .inl (iz 0)), (2, .inl (iz 0)), (1, .inl (iz q2)), (0, .inr (.inr (.inl (some 25))))] _ _ _ _
  exact evx_lv (lvLe_mk (fm rfl (fm rfl (fm rfl (fm rfl fn)))) (fm rfl (fm rfl (fm rfl (fm rfl fn)))) (fm rfl (fm rfl (fm rfl (fm rfl fn))))) ((d97 FU).1 _ _ _ _ _ _ _ hs R4 w5 (by decide) (by decide))
set_option maxRecDepth 20000 in
theorem E108 : pgMm 108 = some (⟨"DictionaryHouse$Conditions", "followThoseAt", "(I)V"⟩, prog_4_method_4_code, 5, none, []) := rfl
theorem D108_0 : pgDecT 108 0 = some (.aload_n 0, 1) := by decide +kernel
theorem D108_1 : pgDecT 108 1 = some (.getfield 25, 3) := by decide +kernel
theorem F108_25 : pgFf 108 25 = some (2, 2, 3) := by decide +kernel
theorem D108_4 : pgDecT 108 4 = some (.iload_n 1, 1) := by decide +kernel
theorem D108_5 : pgDecT 108 5 = some (.invokevirtual 75, 3) := by decide +kernel
theorem I108_75 : pgIi 108 75 = some (77, 1, 10) := by decide +kernel
theorem D108_8 : pgDecT 108 8 = some (.istore_n 2, 1) := by decide +kernel
theorem D108_9 : pgDecT 108 9 = some (.aload_n 0, 1) := by decide +kernel
theorem D108_10 : pgDecT 108 10 = some (.getfield 25, 3) := by decide +kernel
theorem D108_13 : pgDecT 108 13 = some (.iload_n 1, 1) := by decide +kernel
theorem D108_14 : pgDecT 108 14 = some (.invokevirtual 79, 3) := by decide +kernel
theorem I108_79 : pgIi 108 79 = some (78, 1, 10) := by decide +kernel
theorem D108_17 : pgDecT 108 17 = some (.iconst 5, 1) := by decide +kernel
theorem D108_18 : pgDecT 108 18 = some (.if_icmp .ne 20, 3) := by decide +kernel
theorem D108_38 : pgDecT 108 38 = some (.aload_n 0, 1) := by decide +kernel
theorem D108_39 : pgDecT 108 39 = some (.getfield 25, 3) := by decide +kernel
theorem D108_42 : pgDecT 108 42 = some (.iload_n 1, 1) := by decide +kernel
theorem D108_43 : pgDecT 108 43 = some (.invokevirtual 79, 3) := by decide +kernel
theorem D108_46 : pgDecT 108 46 = some (.bipush 6, 2) := by decide +kernel
theorem D108_48 : pgDecT 108 48 = some (.if_icmp .ne 57, 3) := by decide +kernel
theorem D108_105 : pgDecT 108 105 = some (.return_, 1) := by decide +kernel
theorem D108_51 : pgDecT 108 51 = some (.iconst 0, 1) := by decide +kernel
theorem D108_52 : pgDecT 108 52 = some (.istore_n 3, 1) := by decide +kernel
theorem D108_53 : pgDecT 108 53 = some (.iload_n 3, 1) := by decide +kernel
theorem D108_21 : pgDecT 108 21 = some (.aload_n 0, 1) := by decide +kernel
theorem D108_22 : pgDecT 108 22 = some (.iload_n 2, 1) := by decide +kernel
theorem D108_23 : pgDecT 108 23 = some (.aload_n 0, 1) := by decide +kernel
theorem D108_24 : pgDecT 108 24 = some (.getfield 25, 3) := by decide +kernel
theorem D108_27 : pgDecT 108 27 = some (.iload_n 1, 1) := by decide +kernel
theorem D108_28 : pgDecT 108 28 = some (.iconst 0, 1) := by decide +kernel
theorem D108_29 : pgDecT 108 29 = some (.invokevirtual 82, 3) := by decide +kernel
theorem I108_82 : pgIi 108 82 = some (109, 2, 10) := by decide +kernel
theorem D108_32 : pgDecT 108 32 = some (.invokevirtual 86, 3) := by decide +kernel
theorem I108_86 : pgIi 108 86 = some (110, 2, 2) := by decide +kernel
theorem D108_35 : pgDecT 108 35 = some (.goto 70, 3) := by decide +kernel
theorem D108_54 : pgDecT 108 54 = some (.aload_n 0, 1) := by decide +kernel
theorem D108_55 : pgDecT 108 55 = some (.getfield 21, 3) := by decide +kernel
theorem F108_21 : pgFf 108 21 = some (2, 1, 3) := by decide +kernel
theorem D108_58 : pgDecT 108 58 = some (.iload_n 2, 1) := by decide +kernel
theorem D108_59 : pgDecT 108 59 = some (.invokevirtual 90, 3) := by decide +kernel
theorem I108_90 : pgIi 108 90 = some (115, 1, 3) := by decide +kernel
theorem D108_62 : pgDecT 108 62 = some (.if_icmp .ge 43, 3) := by decide +kernel
theorem D108_65 : pgDecT 108 65 = some (.aload_n 0, 1) := by decide +kernel
theorem D108_66 : pgDecT 108 66 = some (.getfield 25, 3) := by decide +kernel
theorem D108_69 : pgDecT 108 69 = some (.iload_n 1, 1) := by decide +kernel
theorem D108_70 : pgDecT 108 70 = some (.aload_n 0, 1) := by decide +kernel
theorem D108_71 : pgDecT 108 71 = some (.getfield 21, 3) := by decide +kernel
theorem D108_74 : pgDecT 108 74 = some (.iload_n 2, 1) := by decide +kernel
theorem D108_75 : pgDecT 108 75 = some (.iload_n 3, 1) := by decide +kernel
theorem D108_76 : pgDecT 108 76 = some (.invokevirtual 95, 3) := by decide +kernel
theorem I108_95 : pgIi 108 95 = some (116, 2, 3) := by decide +kernel
theorem D108_79 : pgDecT 108 79 = some (.invokevirtual 82, 3) := by decide +kernel
theorem D108_82 : pgDecT 108 82 = some (.istore 4, 2) := by decide +kernel
theorem D108_84 : pgDecT 108 84 = some (.aload_n 0, 1) := by decide +kernel
theorem D108_85 : pgDecT 108 85 = some (.aload_n 0, 1) := by decide +kernel
theorem D108_86 : pgDecT 108 86 = some (.getfield 21, 3) := by decide +kernel
theorem D108_89 : pgDecT 108 89 = some (.iload_n 2, 1) := by decide +kernel
theorem D108_90 : pgDecT 108 90 = some (.iload_n 3, 1) := by decide +kernel
theorem D108_91 : pgDecT 108 91 = some (.invokevirtual 98, 3) := by decide +kernel
theorem I108_98 : pgIi 108 98 = some (118, 2, 3) := by decide +kernel
theorem D108_94 : pgDecT 108 94 = some (.iload 4, 2) := by decide +kernel
theorem D108_96 : pgDecT 108 96 = some (.invokevirtual 86, 3) := by decide +kernel
theorem D108_99 : pgDecT 108 99 = some (.iinc 3 1, 3) := by decide +kernel
theorem D108_102 : pgDecT 108 102 = some (.goto (-49), 3) := by decide +kernel
/-! 108: DictionaryHouse$Conditions.followThoseAt (I)V -/
def l108 : Nat → Nat → Mm → Int → Int → Int → Option (Int × Mm)
  | 0, _, _, _, _, _ => none
  | f + 1, 53, M, x1, x2, x3 => (f115 M x2).bind (fun q30 => if q30 ≤ x3 then (some (0, M)) else (f116 M x2 x3).bind (fun q36 => (f109 M x1 q36).bind (fun q41 => (f118 M x2 x3).bind (fun q46 => (f110 M q46 q41).bind (fun zq51 => if rg (x3 + 1) then (l108 f 53 zq51.2 x1 x2 (x3 + 1)) else none)))))
  | _, _, _, _, _, _ => none
theorem d108 {L : Nat} {xs : Nat → Int32} (f : Nat) : (∀ (M : Mm) (x1 x2 x3 : Int) (h : mvH) (v : Int) (M' : Mm), l108 f 53 M x1 x2 x3 = some (v, M') → rp h M → rg x1 → rg x2 → rg x3 → evx L xs 5 108 53 [(0, .inr (.inr (.inl (some 45)))), (1, .inl (iz x1)), (2, .inl (iz x2)), (3, .inl (iz x3))] [] h (.inl none, 0) M') := by
  induction f with
  | zero => exact (fun M x1 x2 x3 h v M' hs _ _ _ _ => by cases hs)
  | succ f ih =>
    intro M x1 x2 x3 h v M' hs R rx1 rx2 rx3
    rw [l108] at hs
    refine evx_F E108 D108_53 rfl rfl ?_
    refine evx_F E108 D108_54 rfl rfl ?_
    refine evx_gfr E108 D108_55 F108_21 H45 rfl R ?_
    refine evx_F E108 D108_58 rfl rfl ?_
    obtain ⟨q30, e29, hs⟩ := Option.bind_eq_some_iff.mp hs
    refine evx_cv (D := 4) E108 D108_59 I108_90 rfl rfl H17 ⟨Nat.le_of_ble_eq_true rfl, Nat.le_of_ble_eq_true rfl⟩ ⟨rfl, Nat.le_of_ble_eq_true rfl⟩ rfl R (evx_up (Nat.le_of_ble_eq_true rfl) (c115 R rx2 e29)) ?_
    intro h31 R32 w33
    have w33 : rg q30 := w33
    show evx _ _ _ _ _ _ (.inl (iz q30) :: _) _ _ _
    by_cases cb34 : q30 ≤ x3
    · rw [if_pos cb34] at hs
      refine evx_F E108 D108_62 rfl (ifT (c2_ge_T rx3 w33 cb34)) ?_
      cases hs
      exact evx_ret E108 D108_105 rfl (fun d => rfl) rfl trivial R32
    · rw [if_neg cb34] at hs
      refine evx_F E108 D108_62 rfl (ifF (c2_ge_F rx3 w33 (by omega))) ?_
      refine evx_F E108 D108_65 rfl rfl ?_
      refine evx_gfr E108 D108_66 F108_25 H45 rfl R32 ?_
      refine evx_F E108 D108_69 rfl rfl ?_
      refine evx_F E108 D108_70 rfl rfl ?_
      refine evx_gfr E108 D108_71 F108_21 H45 rfl R32 ?_
      refine evx_F E108 D108_74 rfl rfl ?_
      refine evx_F E108 D108_75 rfl rfl ?_
      obtain ⟨q36, e35, hs⟩ := Option.bind_eq_some_iff.mp hs
      refine evx_cv (D := 4) E108 D108_76 I108_95 rfl rfl H17 ⟨Nat.le_of_ble_eq_true rfl, Nat.le_of_ble_eq_true rfl⟩ ⟨rfl, Nat.le_of_ble_eq_true rfl⟩ rfl R32 (evx_up (Nat.le_of_ble_eq_true rfl) (c116 R32 rx2 rx3 e35)) ?_
      intro h37 R38 w39
      have w39 : rg q36 := w39
      show evx _ _ _ _ _ _ (.inl (iz q36) :: _) _ _ _
      obtain ⟨q41, e40, hs⟩ := Option.bind_eq_some_iff.mp hs
      refine evx_cv (D := 4) E108 D108_79 I108_82 rfl rfl H24 ⟨Nat.le_of_ble_eq_true rfl, Nat.le_of_ble_eq_true rfl⟩ ⟨rfl, Nat.le_of_ble_eq_true rfl⟩ rfl R38 (evx_up (Nat.le_of_ble_eq_true rfl) (c109 R38 rx1 w39 e40)) ?_
      intro h42 R43 w44
      have w44 : rg q41 := w44
      show evx _ _ _ _ _ _ (.inl (iz q41) :: _) _ _ _
      refine evx_F E108 D108_82 rfl rfl ?_
      refine evx_F E108 D108_84 rfl rfl ?_
      refine evx_F E108 D108_85 rfl rfl ?_
      refine evx_gfr E108 D108_86 F108_21 H45 rfl R43 ?_
      refine evx_F E108 D108_89 rfl rfl ?_
      refine evx_F E108 D108_90 rfl rfl ?_
      obtain ⟨q46, e45, hs⟩ := Option.bind_eq_some_iff.mp hs
      refine evx_cv (D := 4) E108 D108_91 I108_98 rfl rfl H17 ⟨Nat.le_of_ble_eq_true rfl, Nat.le_of_ble_eq_true rfl⟩ ⟨rfl, Nat.le_of_ble_eq_true rfl⟩ rfl R43 (evx_up (Nat.le_of_ble_eq_true rfl) (c118 R43 rx2 rx3 e45)) ?_
      intro h47 R48 w49
      have w49 : rg q46 := w49
      show evx _ _ _ _ _ _ (.inl (iz q46) :: _) _ _ _
      refine evx_F E108 D108_94 rfl rfl ?_
      obtain ⟨⟨q51, M55⟩, e50, hs⟩ := Option.bind_eq_some_iff.mp hs
      dsimp only at hs
      refine evx_cv (D := 4) E108 D108_96 I108_86 rfl rfl H45 ⟨Nat.le_of_ble_eq_true rfl, Nat.le_of_ble_eq_true rfl⟩ ⟨rfl, Nat.le_of_ble_eq_true rfl⟩ rfl R48 (evx_up (Nat.le_of_ble_eq_true rfl) (c110 R48 w49 w44 e50)) ?_
      intro h52 R53 w54
      refine evx_inc E108 D108_99 (Nat.le_of_ble_eq_true rfl) rfl ?_
      refine evx_F E108 D108_102 rfl rfl ?_
      obtain ⟨k56, hs⟩ := ck hs
      show evx _ _ _ _ _ [(3, .inl (iz (x3 + 1))), (4, .inl (iz q41)), (0, .inr (.inr (.inl (some 45)))), (1, .inl (iz x1)), (2, .inl (iz x2))] _ _ _ _
      exact evx_lv (lvLe_mk (fm rfl (fm rfl (fm rfl (fm rfl fn)))) (fm rfl (fm rfl (fm rfl (fm rfl (fm rfl fn))))) (fm rfl (fm rfl (fm rfl (fm rfl fn))))) (ih _ _ _ _ _ _ _ hs R53 rx1 rx2 k56)
def f108 (M : Mm) (x1 : Int) : Option (Int × Mm) := (f77 M x1).bind (fun q2 => (f78 M x1).bind (fun q7 => if ¬ q7 = 5 then (f78 M x1).bind (fun q13 => if ¬ q13 = 6 then (some (0, M)) else (l108 FU 53 M x1 q2 0)) else (f109 M x1 0).bind (fun q19 => (f110 M q2 q19).bind (fun zq24 => some (0, zq24.2)))))
theorem c108 {L : Nat} {xs : Nat → Int32} {h : mvH} {M : Mm} {x1 : Int} {v : Int} {M' : Mm} (R : rp h M) (rx1 : rg x1) (hs : f108 M x1 = some (v, M')) : evx L xs 5 108 0 [(0, .inr (.inr (.inl (some 45)))), (1, .inl (iz x1))] [] h (.inl none, 0) M' := by
  unfold f108 at hs
  refine evx_F E108 D108_0 rfl rfl ?_
  refine evx_gfr E108 D108_1 F108_25 H45 rfl R ?_
  refine evx_F E108 D108_4 rfl rfl ?_
  obtain ⟨q2, e1, hs⟩ := Option.bind_eq_some_iff.mp hs
  refine evx_cv (D := 4) E108 D108_5 I108_75 rfl rfl H24 ⟨Nat.le_of_ble_eq_true rfl, Nat.le_of_ble_eq_true rfl⟩ ⟨rfl, Nat.le_of_ble_eq_true rfl⟩ rfl R (evx_up (Nat.le_of_ble_eq_true rfl) (c77 R rx1 e1)) ?_
  intro h3 R4 w5
  have w5 : rg q2 := w5
  show evx _ _ _ _ _ _ (.inl (iz q2) :: _) _ _ _
  refine evx_F E108 D108_8 rfl rfl ?_
  refine evx_F E108 D108_9 rfl rfl ?_
  refine evx_gfr E108 D108_10 F108_25 H45 rfl R4 ?_
  refine evx_F E108 D108_13 rfl rfl ?_
  obtain ⟨q7, e6, hs⟩ := Option.bind_eq_some_iff.mp hs
  refine evx_cv (D := 4) E108 D108_14 I108_79 rfl rfl H24 ⟨Nat.le_of_ble_eq_true rfl, Nat.le_of_ble_eq_true rfl⟩ ⟨rfl, Nat.le_of_ble_eq_true rfl⟩ rfl R4 (evx_up (Nat.le_of_ble_eq_true rfl) (c78 R4 rx1 e6)) ?_
  intro h8 R9 w10
  have w10 : rg q7 := w10
  show evx _ _ _ _ _ _ (.inl (iz q7) :: _) _ _ _
  refine evx_F E108 D108_17 rfl rfl ?_
  by_cases cb11 : ¬ q7 = 5
  · rw [if_pos cb11] at hs
    refine evx_F E108 D108_18 rfl (ifT (c2_ne_T w10 (by decide) cb11)) ?_
    refine evx_F E108 D108_38 rfl rfl ?_
    refine evx_gfr E108 D108_39 F108_25 H45 rfl R9 ?_
    refine evx_F E108 D108_42 rfl rfl ?_
    obtain ⟨q13, e12, hs⟩ := Option.bind_eq_some_iff.mp hs
    refine evx_cv (D := 4) E108 D108_43 I108_79 rfl rfl H24 ⟨Nat.le_of_ble_eq_true rfl, Nat.le_of_ble_eq_true rfl⟩ ⟨rfl, Nat.le_of_ble_eq_true rfl⟩ rfl R9 (evx_up (Nat.le_of_ble_eq_true rfl) (c78 R9 rx1 e12)) ?_
    intro h14 R15 w16
    have w16 : rg q13 := w16
    show evx _ _ _ _ _ _ (.inl (iz q13) :: _) _ _ _
    refine evx_k (k := 6) E108 D108_46 rfl (by decide) ?_
    by_cases cb17 : ¬ q13 = 6
    · rw [if_pos cb17] at hs
      refine evx_F E108 D108_48 rfl (ifT (c2_ne_T w16 (by decide) cb17)) ?_
      cases hs
      exact evx_ret E108 D108_105 rfl (fun d => rfl) rfl trivial R15
    · rw [if_neg cb17] at hs
      refine evx_F E108 D108_48 rfl (ifF (c2_ne_F w16 (by decide) (by omega))) ?_
      refine evx_F E108 D108_51 rfl rfl ?_
      refine evx_F E108 D108_52 rfl rfl ?_
      show evx _ _ _ _ _ [(3, .inl (iz 0)), (2, .inl (iz q2)), (0, .inr (.inr (.inl (some 45)))), (1, .inl (iz x1))] _ _ _ _
      exact evx_lv (lvLe_mk (fm rfl (fm rfl (fm rfl (fm rfl fn)))) (fm rfl (fm rfl (fm rfl (fm rfl fn)))) (fm rfl (fm rfl (fm rfl (fm rfl fn))))) ((d108 FU) _ _ _ _ _ _ _ hs R15 rx1 w5 (by decide))
  · rw [if_neg cb11] at hs
    refine evx_F E108 D108_18 rfl (ifF (c2_ne_F w10 (by decide) (by omega))) ?_
    refine evx_F E108 D108_21 rfl rfl ?_
    refine evx_F E108 D108_22 rfl rfl ?_
    refine evx_F E108 D108_23 rfl rfl ?_
    refine evx_gfr E108 D108_24 F108_25 H45 rfl R9 ?_
    refine evx_F E108 D108_27 rfl rfl ?_
    refine evx_F E108 D108_28 rfl rfl ?_
    obtain ⟨q19, e18, hs⟩ := Option.bind_eq_some_iff.mp hs
    refine evx_cv (D := 4) E108 D108_29 I108_82 rfl rfl H24 ⟨Nat.le_of_ble_eq_true rfl, Nat.le_of_ble_eq_true rfl⟩ ⟨rfl, Nat.le_of_ble_eq_true rfl⟩ rfl R9 (evx_up (Nat.le_of_ble_eq_true rfl) (c109 R9 rx1 (by decide) e18)) ?_
    intro h20 R21 w22
    have w22 : rg q19 := w22
    show evx _ _ _ _ _ _ (.inl (iz q19) :: _) _ _ _
    obtain ⟨⟨q24, M28⟩, e23, hs⟩ := Option.bind_eq_some_iff.mp hs
    dsimp only at hs
    refine evx_cv (D := 4) E108 D108_32 I108_86 rfl rfl H45 ⟨Nat.le_of_ble_eq_true rfl, Nat.le_of_ble_eq_true rfl⟩ ⟨rfl, Nat.le_of_ble_eq_true rfl⟩ rfl R21 (evx_up (Nat.le_of_ble_eq_true rfl) (c110 R21 w5 w22 e23)) ?_
    intro h25 R26 w27
    refine evx_F E108 D108_35 rfl rfl ?_
    cases hs
    exact evx_ret E108 D108_105 rfl (fun d => rfl) rfl trivial R26
set_option maxRecDepth 20000 in
theorem E136 : pgMm 136 = some (⟨"DictionaryHouse$Checker", "numberedTypeOfWhole", "()I"⟩, prog_2_method_6_code, 3, (some .int), []) := rfl
theorem D136_0 : pgDecT 136 0 = some (.aload_n 0, 1) := by decide +kernel
theorem D136_1 : pgDecT 136 1 = some (.getfield 20, 3) := by decide +kernel
theorem F136_20 : pgFf 136 20 = some (0, 0, 3) := by decide +kernel
theorem D136_4 : pgDecT 136 4 = some (.invokevirtual 139, 3) := by decide +kernel
theorem I136_139 : pgIi 136 139 = some (137, 0, 9) := by decide +kernel
theorem D136_7 : pgDecT 136 7 = some (.istore_n 1, 1) := by decide +kernel
theorem D136_8 : pgDecT 136 8 = some (.aload_n 0, 1) := by decide +kernel
theorem D136_9 : pgDecT 136 9 = some (.getfield 17, 3) := by decide +kernel
theorem F136_17 : pgFf 136 17 = some (0, 8, 3) := by decide +kernel
theorem D136_12 : pgDecT 136 12 = some (.iconst 0, 1) := by decide +kernel
theorem D136_13 : pgDecT 136 13 = some (.aload_n 0, 1) := by decide +kernel
theorem D136_14 : pgDecT 136 14 = some (.getfield 46, 3) := by decide +kernel
theorem F136_46 : pgFf 136 46 = some (0, 5, 3) := by decide +kernel
theorem D136_17 : pgDecT 136 17 = some (.invokevirtual 142, 3) := by decide +kernel
theorem I136_142 : pgIi 136 142 = some (106, 0, 5) := by decide +kernel
theorem D136_20 : pgDecT 136 20 = some (.iconst (-1), 1) := by decide +kernel
theorem D136_21 : pgDecT 136 21 = some (.invokestatic 143, 3) := by decide +kernel
theorem I136_143 : pgIi 136 143 = some (99, 4, 100) := by decide +kernel
theorem D136_24 : pgDecT 136 24 = some (.aload_n 0, 1) := by decide +kernel
theorem D136_25 : pgDecT 136 25 = some (.aload_n 0, 1) := by decide +kernel
theorem D136_26 : pgDecT 136 26 = some (.getfield 46, 3) := by decide +kernel
theorem D136_29 : pgDecT 136 29 = some (.aload_n 0, 1) := by decide +kernel
theorem D136_30 : pgDecT 136 30 = some (.getfield 32, 3) := by decide +kernel
theorem F136_32 : pgFf 136 32 = some (0, 3, 3) := by decide +kernel
theorem D136_33 : pgDecT 136 33 = some (.invokevirtual 66, 3) := by decide +kernel
theorem I136_66 : pgIi 136 66 = some (129, 0, 10) := by decide +kernel
theorem D136_36 : pgDecT 136 36 = some (.invokevirtual 149, 3) := by decide +kernel
theorem I136_149 : pgIi 136 149 = some (80, 1, 5) := by decide +kernel
theorem D136_39 : pgDecT 136 39 = some (.iconst 0, 1) := by decide +kernel
theorem D136_40 : pgDecT 136 40 = some (.invokevirtual 152, 3) := by decide +kernel
theorem I136_152 : pgIi 136 152 = some (138, 2, 0) := by decide +kernel
theorem D136_43 : pgDecT 136 43 = some (.istore_n 2, 1) := by decide +kernel
theorem D136_44 : pgDecT 136 44 = some (.iload_n 2, 1) := by decide +kernel
theorem D136_45 : pgDecT 136 45 = some (.iconst (-1), 1) := by decide +kernel
theorem D136_46 : pgDecT 136 46 = some (.if_icmp .ne 11, 3) := by decide +kernel
theorem D136_57 : pgDecT 136 57 = some (.iload_n 2, 1) := by decide +kernel
theorem D136_58 : pgDecT 136 58 = some (.ireturn, 1) := by decide +kernel
theorem D136_49 : pgDecT 136 49 = some (.aload_n 0, 1) := by decide +kernel
theorem D136_50 : pgDecT 136 50 = some (.getfield 20, 3) := by decide +kernel
theorem D136_53 : pgDecT 136 53 = some (.iload_n 1, 1) := by decide +kernel
theorem D136_54 : pgDecT 136 54 = some (.invokevirtual 155, 3) := by decide +kernel
theorem I136_155 : pgIi 136 155 = some (140, 1, 9) := by decide +kernel
/-! 136: DictionaryHouse$Checker.numberedTypeOfWhole ()I -/
def f136 (M : Mm) : Option (Int × Mm) := (f137 M).bind (fun q2 => (f106 M).bind (fun q7 => (f99_44 M 0 q7 (-1)).bind (fun zq12 => (f129 zq12.2).bind (fun q18 => (f80 zq12.2 q18).bind (fun zq23 => (f138 40 zq23.2 zq23.1 0).bind (fun zq29 => if ¬ zq29.1 = (-1) then (some (zq29.1, zq29.2)) else (f140 zq29.2 q2).bind (fun zq36 => some (zq29.1, zq36.2))))))))
theorem c136 {L : Nat} {xs : Nat → Int32} {h : mvH} {M : Mm} {v : Int} {M' : Mm} (R : rp h M)  (hs : f136 M  = some (v, M')) : evx L xs 43 136 0 [(0, .inr (.inr (.inl (some 42))))] [] h (.inl (some (.inl v)), 0) M' := by
  unfold f136 at hs
  refine evx_F E136 D136_0 rfl rfl ?_
  refine evx_gfr E136 D136_1 F136_20 H42 rfl R ?_
  obtain ⟨q2, e1, hs⟩ := Option.bind_eq_some_iff.mp hs
  refine evx_cv (D := 42) E136 D136_4 I136_139 rfl rfl H1 ⟨Nat.le_of_ble_eq_true rfl, Nat.le_of_ble_eq_true rfl⟩ ⟨rfl, Nat.le_of_ble_eq_true rfl⟩ rfl R (evx_up (Nat.le_of_ble_eq_true rfl) (c137 R  e1)) ?_
  intro h3 R4 w5
  have w5 : rg q2 := w5
  show evx _ _ _ _ _ _ (.inl (iz q2) :: _) _ _ _
  refine evx_F E136 D136_7 rfl rfl ?_
  refine evx_F E136 D136_8 rfl rfl ?_
  refine evx_gfr E136 D136_9 F136_17 H42 rfl R4 ?_
  refine evx_F E136 D136_12 rfl rfl ?_
  refine evx_F E136 D136_13 rfl rfl ?_
  refine evx_gfr E136 D136_14 F136_46 H42 rfl R4 ?_
  obtain ⟨q7, e6, hs⟩ := Option.bind_eq_some_iff.mp hs
  refine evx_cv (D := 42) E136 D136_17 I136_142 rfl rfl H25 ⟨Nat.le_of_ble_eq_true rfl, Nat.le_of_ble_eq_true rfl⟩ ⟨rfl, Nat.le_of_ble_eq_true rfl⟩ rfl R4 (evx_up (Nat.le_of_ble_eq_true rfl) (c106 R4  e6)) ?_
  intro h8 R9 w10
  have w10 : rg q7 := w10
  show evx _ _ _ _ _ _ (.inl (iz q7) :: _) _ _ _
  refine evx_F E136 D136_20 rfl rfl ?_
  obtain ⟨⟨q12, M16⟩, e11, hs⟩ := Option.bind_eq_some_iff.mp hs
  dsimp only at hs
  refine evx_cs (D := 42) E136 D136_21 I136_143 rfl rfl (Nat.le_of_ble_eq_true rfl) ⟨rfl, Nat.le_of_ble_eq_true rfl⟩ rfl (evx_up (Nat.le_of_ble_eq_true rfl) (c99_44 R9 (by decide) w10 (by decide) e11)) ?_
  intro h13 R14 w15
  refine evx_F E136 D136_24 rfl rfl ?_
  refine evx_F E136 D136_25 rfl rfl ?_
  refine evx_gfr E136 D136_26 F136_46 H42 rfl R14 ?_
  refine evx_F E136 D136_29 rfl rfl ?_
  refine evx_gfr E136 D136_30 F136_32 H42 rfl R14 ?_
  obtain ⟨q18, e17, hs⟩ := Option.bind_eq_some_iff.mp hs
  refine evx_cv (D := 42) E136 D136_33 I136_66 rfl rfl H24 ⟨Nat.le_of_ble_eq_true rfl, Nat.le_of_ble_eq_true rfl⟩ ⟨rfl, Nat.le_of_ble_eq_true rfl⟩ rfl R14 (evx_up (Nat.le_of_ble_eq_true rfl) (c129 R14  e17)) ?_
  intro h19 R20 w21
  have w21 : rg q18 := w21
  show evx _ _ _ _ _ _ (.inl (iz q18) :: _) _ _ _
  obtain ⟨⟨q23, M27⟩, e22, hs⟩ := Option.bind_eq_some_iff.mp hs
  dsimp only at hs
  refine evx_cv (D := 42) E136 D136_36 I136_149 rfl rfl H25 ⟨Nat.le_of_ble_eq_true rfl, Nat.le_of_ble_eq_true rfl⟩ ⟨rfl, Nat.le_of_ble_eq_true rfl⟩ rfl R20 (evx_up (Nat.le_of_ble_eq_true rfl) (c80 R20 w21 e22)) ?_
  intro h24 R25 w26
  have w26 : rg q23 := w26
  show evx _ _ _ _ _ _ (.inl (iz q23) :: _) _ _ _
  refine evx_F E136 D136_39 rfl rfl ?_
  obtain ⟨⟨q29, M33⟩, e28, hs⟩ := Option.bind_eq_some_iff.mp hs
  dsimp only at hs
  refine evx_cv (D := 42) E136 D136_40 I136_152 rfl rfl H42 ⟨Nat.le_of_ble_eq_true rfl, Nat.le_of_ble_eq_true rfl⟩ ⟨rfl, Nat.le_of_ble_eq_true rfl⟩ rfl R25 (evx_up (Nat.le_of_ble_eq_true rfl) (c138 40 R25 w26 (by decide) e28)) ?_
  intro h30 R31 w32
  have w32 : rg q29 := w32
  show evx _ _ _ _ _ _ (.inl (iz q29) :: _) _ _ _
  refine evx_F E136 D136_43 rfl rfl ?_
  refine evx_F E136 D136_44 rfl rfl ?_
  refine evx_F E136 D136_45 rfl rfl ?_
  by_cases cb34 : ¬ q29 = (-1)
  · rw [if_pos cb34] at hs
    refine evx_F E136 D136_46 rfl (ifT (c2_ne_T w32 (by decide) cb34)) ?_
    refine evx_F E136 D136_57 rfl rfl ?_
    cases hs
    exact evx_ret E136 D136_58 rfl (fun d => rfl) rfl (show rg _ from w32) R31
  · rw [if_neg cb34] at hs
    refine evx_F E136 D136_46 rfl (ifF (c2_ne_F w32 (by decide) (by omega))) ?_
    refine evx_F E136 D136_49 rfl rfl ?_
    refine evx_gfr E136 D136_50 F136_20 H42 rfl R31 ?_
    refine evx_F E136 D136_53 rfl rfl ?_
    obtain ⟨⟨q36, M40⟩, e35, hs⟩ := Option.bind_eq_some_iff.mp hs
    dsimp only at hs
    refine evx_cv (D := 42) E136 D136_54 I136_155 rfl rfl H1 ⟨Nat.le_of_ble_eq_true rfl, Nat.le_of_ble_eq_true rfl⟩ ⟨rfl, Nat.le_of_ble_eq_true rfl⟩ rfl R31 (evx_up (Nat.le_of_ble_eq_true rfl) (c140 R31 w5 e35)) ?_
    intro h37 R38 w39
    refine evx_F E136 D136_57 rfl rfl ?_
    cases hs
    exact evx_ret E136 D136_58 rfl (fun d => rfl) rfl (show rg _ from w32) R38
set_option maxRecDepth 20000 in
theorem E158 : pgMm 158 = some (⟨"DictionaryHouse$Machine", "evaluate", "()V"⟩, prog_9_method_11_code, 4, none, []) := rfl
theorem D158_0 : pgDecT 158 0 = some (.aload_n 0, 1) := by decide +kernel
theorem D158_1 : pgDecT 158 1 = some (.invokevirtual 129, 3) := by decide +kernel
theorem I158_129 : pgIi 158 129 = some (159, 0, 7) := by decide +kernel
theorem D158_4 : pgDecT 158 4 = some (.ifCond .ne 4, 3) := by decide +kernel
theorem D158_8 : pgDecT 158 8 = some (.aload_n 0, 1) := by decide +kernel
theorem D158_9 : pgDecT 158 9 = some (.getfield 84, 3) := by decide +kernel
theorem F158_84 : pgFf 158 84 = some (7, 10, 0) := by decide +kernel
theorem D158_12 : pgDecT 158 12 = some (.istore_n 1, 1) := by decide +kernel
theorem D158_13 : pgDecT 158 13 = some (.aload_n 0, 1) := by decide +kernel
theorem D158_14 : pgDecT 158 14 = some (.getfield 33, 3) := by decide +kernel
theorem F158_33 : pgFf 158 33 = some (7, 1, 3) := by decide +kernel
theorem D158_17 : pgDecT 158 17 = some (.iload_n 1, 1) := by decide +kernel
theorem D158_18 : pgDecT 158 18 = some (.invokevirtual 132, 3) := by decide +kernel
theorem I158_132 : pgIi 158 132 = some (70, 1, 4) := by decide +kernel
theorem D158_21 : pgDecT 158 21 = some (.istore_n 2, 1) := by decide +kernel
theorem D158_22 : pgDecT 158 22 = some (.aload_n 0, 1) := by decide +kernel
theorem D158_23 : pgDecT 158 23 = some (.getfield 33, 3) := by decide +kernel
theorem D158_26 : pgDecT 158 26 = some (.iload_n 1, 1) := by decide +kernel
theorem D158_27 : pgDecT 158 27 = some (.invokevirtual 137, 3) := by decide +kernel
theorem I158_137 : pgIi 158 137 = some (69, 1, 4) := by decide +kernel
theorem D158_30 : pgDecT 158 30 = some (.tableswitch 186 0 5 #[38, 53, 65, 84, 114, 170], 38) := by decide +kernel
theorem D158_68 : pgDecT 158 68 = some (.aload_n 0, 1) := by decide +kernel
theorem D158_69 : pgDecT 158 69 = some (.aload_n 0, 1) := by decide +kernel
theorem D158_70 : pgDecT 158 70 = some (.getfield 12, 3) := by decide +kernel
theorem F158_12 : pgFf 158 12 = some (7, 4, 3) := by decide +kernel
theorem D158_73 : pgDecT 158 73 = some (.iload_n 2, 1) := by decide +kernel
theorem D158_74 : pgDecT 158 74 = some (.invokevirtual 138, 3) := by decide +kernel
theorem I158_138 : pgIi 158 138 = some (160, 1, 6) := by decide +kernel
theorem D158_77 : pgDecT 158 77 = some (.invokevirtual 141, 3) := by decide +kernel
theorem I158_141 : pgIi 158 141 = some (162, 1, 7) := by decide +kernel
theorem D158_80 : pgDecT 158 80 = some (.goto 141, 3) := by decide +kernel
theorem D158_221 : pgDecT 158 221 = some (.return_, 1) := by decide +kernel
theorem D158_83 : pgDecT 158 83 = some (.aload_n 0, 1) := by decide +kernel
theorem D158_84 : pgDecT 158 84 = some (.aload_n 0, 1) := by decide +kernel
theorem D158_85 : pgDecT 158 85 = some (.iload_n 2, 1) := by decide +kernel
theorem D158_86 : pgDecT 158 86 = some (.invokevirtual 145, 3) := by decide +kernel
theorem I158_145 : pgIi 158 145 = some (163, 1, 7) := by decide +kernel
theorem D158_89 : pgDecT 158 89 = some (.invokevirtual 141, 3) := by decide +kernel
theorem D158_92 : pgDecT 158 92 = some (.goto 129, 3) := by decide +kernel
theorem D158_95 : pgDecT 158 95 = some (.aload_n 0, 1) := by decide +kernel
theorem D158_96 : pgDecT 158 96 = some (.aload_n 0, 1) := by decide +kernel
theorem D158_97 : pgDecT 158 97 = some (.getfield 12, 3) := by decide +kernel
theorem D158_100 : pgDecT 158 100 = some (.aload_n 0, 1) := by decide +kernel
theorem D158_101 : pgDecT 158 101 = some (.getfield 123, 3) := by decide +kernel
theorem F158_123 : pgFf 158 123 = some (7, 12, 0) := by decide +kernel
theorem D158_104 : pgDecT 158 104 = some (.iload_n 2, 1) := by decide +kernel
theorem D158_105 : pgDecT 158 105 = some (.invokevirtual 117, 3) := by decide +kernel
theorem I158_117 : pgIi 158 117 = some (164, 2, 6) := by decide +kernel
theorem D158_108 : pgDecT 158 108 = some (.invokevirtual 141, 3) := by decide +kernel
theorem D158_111 : pgDecT 158 111 = some (.goto 110, 3) := by decide +kernel
theorem D158_114 : pgDecT 158 114 = some (.aload_n 0, 1) := by decide +kernel
theorem D158_115 : pgDecT 158 115 = some (.aload_n 0, 1) := by decide +kernel
theorem D158_116 : pgDecT 158 116 = some (.getfield 12, 3) := by decide +kernel
theorem D158_119 : pgDecT 158 119 = some (.iconst 3, 1) := by decide +kernel
theorem D158_120 : pgDecT 158 120 = some (.iload_n 2, 1) := by decide +kernel
theorem D158_121 : pgDecT 158 121 = some (.aload_n 0, 1) := by decide +kernel
theorem D158_122 : pgDecT 158 122 = some (.getfield 120, 3) := by decide +kernel
theorem F158_120 : pgFf 158 120 = some (7, 11, 0) := by decide +kernel
theorem D158_125 : pgDecT 158 125 = some (.iconst 1, 1) := by decide +kernel
theorem D158_126 : pgDecT 158 126 = some (.iadd, 1) := by decide +kernel
theorem D158_127 : pgDecT 158 127 = some (.aload_n 0, 1) := by decide +kernel
theorem D158_128 : pgDecT 158 128 = some (.getfield 123, 3) := by decide +kernel
theorem D158_131 : pgDecT 158 131 = some (.aload_n 0, 1) := by decide +kernel
theorem D158_132 : pgDecT 158 132 = some (.getfield 126, 3) := by decide +kernel
theorem F158_126 : pgFf 158 126 = some (7, 13, 0) := by decide +kernel
theorem D158_135 : pgDecT 158 135 = some (.invokevirtual 148, 3) := by decide +kernel
theorem I158_148 : pgIi 158 148 = some (161, 5, 6) := by decide +kernel
theorem D158_138 : pgDecT 158 138 = some (.invokevirtual 141, 3) := by decide +kernel
theorem D158_141 : pgDecT 158 141 = some (.goto 80, 3) := by decide +kernel
theorem D158_144 : pgDecT 158 144 = some (.aload_n 0, 1) := by decide +kernel
theorem D158_145 : pgDecT 158 145 = some (.getfield 120, 3) := by decide +kernel
theorem D158_148 : pgDecT 158 148 = some (.iconst 1, 1) := by decide +kernel
theorem D158_149 : pgDecT 158 149 = some (.iadd, 1) := by decide +kernel
theorem D158_150 : pgDecT 158 150 = some (.aload_n 0, 1) := by decide +kernel
theorem D158_151 : pgDecT 158 151 = some (.getfield 33, 3) := by decide +kernel
theorem D158_154 : pgDecT 158 154 = some (.iload_n 2, 1) := by decide +kernel
theorem D158_155 : pgDecT 158 155 = some (.invokevirtual 152, 3) := by decide +kernel
theorem I158_152 : pgIi 158 152 = some (67, 1, 4) := by decide +kernel
theorem D158_158 : pgDecT 158 158 = some (.iadd, 1) := by decide +kernel
theorem D158_159 : pgDecT 158 159 = some (.istore_n 3, 1) := by decide +kernel
theorem D158_160 : pgDecT 158 160 = some (.aload_n 0, 1) := by decide +kernel
theorem D158_161 : pgDecT 158 161 = some (.iconst 0, 1) := by decide +kernel
theorem D158_162 : pgDecT 158 162 = some (.aload_n 0, 1) := by decide +kernel
theorem D158_163 : pgDecT 158 163 = some (.getfield 33, 3) := by decide +kernel
theorem D158_166 : pgDecT 158 166 = some (.iload_n 1, 1) := by decide +kernel
theorem D158_167 : pgDecT 158 167 = some (.invokevirtual 155, 3) := by decide +kernel
theorem I158_155 : pgIi 158 155 = some (72, 1, 4) := by decide +kernel
theorem D158_170 : pgDecT 158 170 = some (.iload_n 3, 1) := by decide +kernel
theorem D158_171 : pgDecT 158 171 = some (.aload_n 0, 1) := by decide +kernel
theorem D158_172 : pgDecT 158 172 = some (.getfield 123, 3) := by decide +kernel
theorem D158_175 : pgDecT 158 175 = some (.aload_n 0, 1) := by decide +kernel
theorem D158_176 : pgDecT 158 176 = some (.getfield 126, 3) := by decide +kernel
theorem D158_179 : pgDecT 158 179 = some (.invokevirtual 158, 3) := by decide +kernel
theorem I158_158 : pgIi 158 158 = some (166, 5, 7) := by decide +kernel
theorem D158_182 : pgDecT 158 182 = some (.aload_n 0, 1) := by decide +kernel
theorem D158_183 : pgDecT 158 183 = some (.iload_n 2, 1) := by decide +kernel
theorem D158_184 : pgDecT 158 184 = some (.putfield 84, 3) := by decide +kernel
theorem D158_187 : pgDecT 158 187 = some (.aload_n 0, 1) := by decide +kernel
theorem D158_188 : pgDecT 158 188 = some (.dup, 1) := by decide +kernel
theorem D158_189 : pgDecT 158 189 = some (.getfield 120, 3) := by decide +kernel
theorem D158_192 : pgDecT 158 192 = some (.iconst 1, 1) := by decide +kernel
theorem D158_193 : pgDecT 158 193 = some (.iadd, 1) := by decide +kernel
theorem D158_194 : pgDecT 158 194 = some (.putfield 120, 3) := by decide +kernel
theorem D158_197 : pgDecT 158 197 = some (.goto 24, 3) := by decide +kernel
theorem D158_200 : pgDecT 158 200 = some (.aload_n 0, 1) := by decide +kernel
theorem D158_201 : pgDecT 158 201 = some (.iload_n 2, 1) := by decide +kernel
theorem D158_202 : pgDecT 158 202 = some (.aload_n 0, 1) := by decide +kernel
theorem D158_203 : pgDecT 158 203 = some (.getfield 33, 3) := by decide +kernel
theorem D158_206 : pgDecT 158 206 = some (.iload_n 1, 1) := by decide +kernel
theorem D158_207 : pgDecT 158 207 = some (.invokevirtual 155, 3) := by decide +kernel
theorem D158_210 : pgDecT 158 210 = some (.invokevirtual 162, 3) := by decide +kernel
theorem I158_162 : pgIi 158 162 = some (167, 2, 7) := by decide +kernel
theorem D158_213 : pgDecT 158 213 = some (.goto 8, 3) := by decide +kernel
theorem D158_216 : pgDecT 158 216 = some (.aload_n 0, 1) := by decide +kernel
theorem D158_217 : pgDecT 158 217 = some (.iload_n 2, 1) := by decide +kernel
theorem D158_218 : pgDecT 158 218 = some (.invokevirtual 166, 3) := by decide +kernel
theorem I158_166 : pgIi 158 166 = some (173, 1, 7) := by decide +kernel
theorem D158_7 : pgDecT 158 7 = some (.return_, 1) := by decide +kernel
/-! 158: DictionaryHouse$Machine.evaluate ()V -/
def f158 (M : Mm) : Option (Int × Mm) := (f159 M).bind (fun zq2 => if ¬ zq2.1 = 0 then (f70 zq2.2 (zq2.2 47 10)).bind (fun q9 => (f69 zq2.2 (zq2.2 47 10)).bind (fun q14 => if q14 = 0 then (f160 zq2.2 q9).bind (fun zq20 => (f162 zq20.2 zq20.1).bind (fun zq26 => some (0, zq26.2))) else (if q14 = 1 then (f163 zq2.2 q9).bind (fun zq33 => (f162 zq33.2 zq33.1).bind (fun zq39 => some (0, zq39.2))) else (if q14 = 2 then (f164 zq2.2 (zq2.2 47 12) q9).bind (fun q46 => (f162 zq2.2 q46).bind (fun zq51 => some (0, zq51.2))) else (if q14 = 3 then (if rg ((zq2.2 47 11) + 1) then (f161 zq2.2 3 q9 ((zq2.2 47 11) + 1) (zq2.2 47 12) (zq2.2 47 13)).bind (fun zq59 => (f162 zq59.2 zq59.1).bind (fun zq65 => some (0, zq65.2))) else none) else (if q14 = 4 then (f67 zq2.2 q9).bind (fun q72 => (f72 zq2.2 (zq2.2 47 10)).bind (fun q77 => if rg (((zq2.2 47 11) + 1) + q72) then (f166 zq2.2 0 q77 (((zq2.2 47 11) + 1) + q72) (zq2.2 47 12) (zq2.2 47 13)).bind (fun zq83 => if rg ((zq83.2 47 11) + 1) then (some (0, (up (up zq83.2 47 10 q9) 47 11 ((zq83.2 47 11) + 1)))) else none) else none)) else (if q14 = 5 then (f72 zq2.2 (zq2.2 47 10)).bind (fun q95 => (f167 zq2.2 q9 q95).bind (fun zq100 => some (0, zq100.2))) else ((f173 zq2.2 q9).bind (fun zq106 => some (0, zq106.2)))))))))) else (some (0, zq2.2)))
theorem c158 {L : Nat} {xs : Nat → Int32} {h : mvH} {M : Mm} {v : Int} {M' : Mm} (R : rp h M)  (hs : f158 M  = some (v, M')) : evx L xs 5 158 0 [(0, .inr (.inr (.inl (some 47))))] [] h (.inl none, 0) M' := by
  unfold f158 at hs
  refine evx_F E158 D158_0 rfl rfl ?_
  obtain ⟨⟨q2, M6⟩, e1, hs⟩ := Option.bind_eq_some_iff.mp hs
  dsimp only at hs
  refine evx_cv (D := 4) E158 D158_1 I158_129 rfl rfl H47 ⟨Nat.le_of_ble_eq_true rfl, Nat.le_of_ble_eq_true rfl⟩ ⟨rfl, Nat.le_of_ble_eq_true rfl⟩ rfl R (evx_up (Nat.le_of_ble_eq_true rfl) (c159 R  e1)) ?_
  intro h3 R4 w5
  have w5 : rg q2 := w5
  show evx _ _ _ _ _ _ (.inl (iz q2) :: _) _ _ _
  by_cases cb7 : ¬ q2 = 0
  · rw [if_pos cb7] at hs
    refine evx_F E158 D158_4 rfl (ifT (c1_ne_T w5 cb7)) ?_
    refine evx_F E158 D158_8 rfl rfl ?_
    refine evx_gfi (k := 10) E158 D158_9 F158_84 H47 rfl R4 ?_
    refine evx_F E158 D158_12 rfl rfl ?_
    refine evx_F E158 D158_13 rfl rfl ?_
    refine evx_gfr E158 D158_14 F158_33 H47 rfl R4 ?_
    refine evx_F E158 D158_17 rfl rfl ?_
    obtain ⟨q9, e8, hs⟩ := Option.bind_eq_some_iff.mp hs
    refine evx_cv (D := 4) E158 D158_18 I158_132 rfl rfl H12 ⟨Nat.le_of_ble_eq_true rfl, Nat.le_of_ble_eq_true rfl⟩ ⟨rfl, Nat.le_of_ble_eq_true rfl⟩ rfl R4 (evx_up (Nat.le_of_ble_eq_true rfl) (c70 R4 (R4.1 47 10) e8)) ?_
    intro h10 R11 w12
    have w12 : rg q9 := w12
    show evx _ _ _ _ _ _ (.inl (iz q9) :: _) _ _ _
    refine evx_F E158 D158_21 rfl rfl ?_
    refine evx_F E158 D158_22 rfl rfl ?_
    refine evx_gfr E158 D158_23 F158_33 H47 rfl R11 ?_
    refine evx_F E158 D158_26 rfl rfl ?_
    obtain ⟨q14, e13, hs⟩ := Option.bind_eq_some_iff.mp hs
    refine evx_cv (D := 4) E158 D158_27 I158_137 rfl rfl H12 ⟨Nat.le_of_ble_eq_true rfl, Nat.le_of_ble_eq_true rfl⟩ ⟨rfl, Nat.le_of_ble_eq_true rfl⟩ rfl R11 (evx_up (Nat.le_of_ble_eq_true rfl) (c69 R11 (R4.1 47 10) e13)) ?_
    intro h15 R16 w17
    have w17 : rg q14 := w17
    show evx _ _ _ _ _ _ (.inl (iz q14) :: _) _ _ _
    by_cases cb18 : q14 = 0
    · rw [if_pos cb18] at hs
      refine evx_tsi (0) E158 D158_30 cb18 (by decide) (by decide) rfl rfl ?_
      refine evx_F E158 D158_68 rfl rfl ?_
      refine evx_F E158 D158_69 rfl rfl ?_
      refine evx_gfr E158 D158_70 F158_12 H47 rfl R16 ?_
      refine evx_F E158 D158_73 rfl rfl ?_
      obtain ⟨⟨q20, M24⟩, e19, hs⟩ := Option.bind_eq_some_iff.mp hs
      dsimp only at hs
      refine evx_cv (D := 4) E158 D158_74 I158_138 rfl rfl H48 ⟨Nat.le_of_ble_eq_true rfl, Nat.le_of_ble_eq_true rfl⟩ ⟨rfl, Nat.le_of_ble_eq_true rfl⟩ rfl R16 (evx_up (Nat.le_of_ble_eq_true rfl) (c160 R16 w12 e19)) ?_
      intro h21 R22 w23
      have w23 : rg q20 := w23
      show evx _ _ _ _ _ _ (.inl (iz q20) :: _) _ _ _
      obtain ⟨⟨q26, M30⟩, e25, hs⟩ := Option.bind_eq_some_iff.mp hs
      dsimp only at hs
      refine evx_cv (D := 4) E158 D158_77 I158_141 rfl rfl H47 ⟨Nat.le_of_ble_eq_true rfl, Nat.le_of_ble_eq_true rfl⟩ ⟨rfl, Nat.le_of_ble_eq_true rfl⟩ rfl R22 (evx_up (Nat.le_of_ble_eq_true rfl) (c162 R22 w23 e25)) ?_
      intro h27 R28 w29
      refine evx_F E158 D158_80 rfl rfl ?_
      cases hs
      exact evx_ret E158 D158_221 rfl (fun d => rfl) rfl trivial R28
    · rw [if_neg cb18] at hs
      by_cases cb31 : q14 = 1
      · rw [if_pos cb31] at hs
        refine evx_tsi (1) E158 D158_30 cb31 (by decide) (by decide) rfl rfl ?_
        refine evx_F E158 D158_83 rfl rfl ?_
        refine evx_F E158 D158_84 rfl rfl ?_
        refine evx_F E158 D158_85 rfl rfl ?_
        obtain ⟨⟨q33, M37⟩, e32, hs⟩ := Option.bind_eq_some_iff.mp hs
        dsimp only at hs
        refine evx_cv (D := 4) E158 D158_86 I158_145 rfl rfl H47 ⟨Nat.le_of_ble_eq_true rfl, Nat.le_of_ble_eq_true rfl⟩ ⟨rfl, Nat.le_of_ble_eq_true rfl⟩ rfl R16 (evx_up (Nat.le_of_ble_eq_true rfl) (c163 R16 w12 e32)) ?_
        intro h34 R35 w36
        have w36 : rg q33 := w36
        show evx _ _ _ _ _ _ (.inl (iz q33) :: _) _ _ _
        obtain ⟨⟨q39, M43⟩, e38, hs⟩ := Option.bind_eq_some_iff.mp hs
        dsimp only at hs
        refine evx_cv (D := 4) E158 D158_89 I158_141 rfl rfl H47 ⟨Nat.le_of_ble_eq_true rfl, Nat.le_of_ble_eq_true rfl⟩ ⟨rfl, Nat.le_of_ble_eq_true rfl⟩ rfl R35 (evx_up (Nat.le_of_ble_eq_true rfl) (c162 R35 w36 e38)) ?_
        intro h40 R41 w42
        refine evx_F E158 D158_92 rfl rfl ?_
        cases hs
        exact evx_ret E158 D158_221 rfl (fun d => rfl) rfl trivial R41
      · rw [if_neg cb31] at hs
        by_cases cb44 : q14 = 2
        · rw [if_pos cb44] at hs
          refine evx_tsi (2) E158 D158_30 cb44 (by decide) (by decide) rfl rfl ?_
          refine evx_F E158 D158_95 rfl rfl ?_
          refine evx_F E158 D158_96 rfl rfl ?_
          refine evx_gfr E158 D158_97 F158_12 H47 rfl R16 ?_
          refine evx_F E158 D158_100 rfl rfl ?_
          refine evx_gfi (k := 12) E158 D158_101 F158_123 H47 rfl R16 ?_
          refine evx_F E158 D158_104 rfl rfl ?_
          obtain ⟨q46, e45, hs⟩ := Option.bind_eq_some_iff.mp hs
          refine evx_cv (D := 4) E158 D158_105 I158_117 rfl rfl H48 ⟨Nat.le_of_ble_eq_true rfl, Nat.le_of_ble_eq_true rfl⟩ ⟨rfl, Nat.le_of_ble_eq_true rfl⟩ rfl R16 (evx_up (Nat.le_of_ble_eq_true rfl) (c164 R16 (R16.1 47 12) w12 e45)) ?_
          intro h47 R48 w49
          have w49 : rg q46 := w49
          show evx _ _ _ _ _ _ (.inl (iz q46) :: _) _ _ _
          obtain ⟨⟨q51, M55⟩, e50, hs⟩ := Option.bind_eq_some_iff.mp hs
          dsimp only at hs
          refine evx_cv (D := 4) E158 D158_108 I158_141 rfl rfl H47 ⟨Nat.le_of_ble_eq_true rfl, Nat.le_of_ble_eq_true rfl⟩ ⟨rfl, Nat.le_of_ble_eq_true rfl⟩ rfl R48 (evx_up (Nat.le_of_ble_eq_true rfl) (c162 R48 w49 e50)) ?_
          intro h52 R53 w54
          refine evx_F E158 D158_111 rfl rfl ?_
          cases hs
          exact evx_ret E158 D158_221 rfl (fun d => rfl) rfl trivial R53
        · rw [if_neg cb44] at hs
          by_cases cb56 : q14 = 3
          · rw [if_pos cb56] at hs
            refine evx_tsi (3) E158 D158_30 cb56 (by decide) (by decide) rfl rfl ?_
            refine evx_F E158 D158_114 rfl rfl ?_
            refine evx_F E158 D158_115 rfl rfl ?_
            refine evx_gfr E158 D158_116 F158_12 H47 rfl R16 ?_
            refine evx_F E158 D158_119 rfl rfl ?_
            refine evx_F E158 D158_120 rfl rfl ?_
            refine evx_F E158 D158_121 rfl rfl ?_
            refine evx_gfi (k := 11) E158 D158_122 F158_120 H47 rfl R16 ?_
            refine evx_F E158 D158_125 rfl rfl ?_
            refine evx_add E158 D158_126 ?_
            refine evx_F E158 D158_127 rfl rfl ?_
            refine evx_gfi (k := 12) E158 D158_128 F158_123 H47 rfl R16 ?_
            refine evx_F E158 D158_131 rfl rfl ?_
            refine evx_gfi (k := 13) E158 D158_132 F158_126 H47 rfl R16 ?_
            obtain ⟨k57, hs⟩ := ck hs
            obtain ⟨⟨q59, M63⟩, e58, hs⟩ := Option.bind_eq_some_iff.mp hs
            dsimp only at hs
            refine evx_cv (D := 4) E158 D158_135 I158_148 rfl rfl H48 ⟨Nat.le_of_ble_eq_true rfl, Nat.le_of_ble_eq_true rfl⟩ ⟨rfl, Nat.le_of_ble_eq_true rfl⟩ rfl R16 (evx_up (Nat.le_of_ble_eq_true rfl) (c161 R16 (by decide) w12 k57 (R16.1 47 12) (R16.1 47 13) e58)) ?_
            intro h60 R61 w62
            have w62 : rg q59 := w62
            show evx _ _ _ _ _ _ (.inl (iz q59) :: _) _ _ _
            obtain ⟨⟨q65, M69⟩, e64, hs⟩ := Option.bind_eq_some_iff.mp hs
            dsimp only at hs
            refine evx_cv (D := 4) E158 D158_138 I158_141 rfl rfl H47 ⟨Nat.le_of_ble_eq_true rfl, Nat.le_of_ble_eq_true rfl⟩ ⟨rfl, Nat.le_of_ble_eq_true rfl⟩ rfl R61 (evx_up (Nat.le_of_ble_eq_true rfl) (c162 R61 w62 e64)) ?_
            intro h66 R67 w68
            refine evx_F E158 D158_141 rfl rfl ?_
            cases hs
            exact evx_ret E158 D158_221 rfl (fun d => rfl) rfl trivial R67
          · rw [if_neg cb56] at hs
            by_cases cb70 : q14 = 4
            · rw [if_pos cb70] at hs
              refine evx_tsi (4) E158 D158_30 cb70 (by decide) (by decide) rfl rfl ?_
              refine evx_F E158 D158_144 rfl rfl ?_
              refine evx_gfi (k := 11) E158 D158_145 F158_120 H47 rfl R16 ?_
              refine evx_F E158 D158_148 rfl rfl ?_
              refine evx_add E158 D158_149 ?_
              refine evx_F E158 D158_150 rfl rfl ?_
              refine evx_gfr E158 D158_151 F158_33 H47 rfl R16 ?_
              refine evx_F E158 D158_154 rfl rfl ?_
              obtain ⟨q72, e71, hs⟩ := Option.bind_eq_some_iff.mp hs
              refine evx_cv (D := 4) E158 D158_155 I158_152 rfl rfl H12 ⟨Nat.le_of_ble_eq_true rfl, Nat.le_of_ble_eq_true rfl⟩ ⟨rfl, Nat.le_of_ble_eq_true rfl⟩ rfl R16 (evx_up (Nat.le_of_ble_eq_true rfl) (c67 R16 w12 e71)) ?_
              intro h73 R74 w75
              have w75 : rg q72 := w75
              show evx _ _ _ _ _ _ (.inl (iz q72) :: _) _ _ _
              refine evx_add E158 D158_158 ?_
              refine evx_F E158 D158_159 rfl rfl ?_
              refine evx_F E158 D158_160 rfl rfl ?_
              refine evx_F E158 D158_161 rfl rfl ?_
              refine evx_F E158 D158_162 rfl rfl ?_
              refine evx_gfr E158 D158_163 F158_33 H47 rfl R74 ?_
              refine evx_F E158 D158_166 rfl rfl ?_
              obtain ⟨q77, e76, hs⟩ := Option.bind_eq_some_iff.mp hs
              refine evx_cv (D := 4) E158 D158_167 I158_155 rfl rfl H12 ⟨Nat.le_of_ble_eq_true rfl, Nat.le_of_ble_eq_true rfl⟩ ⟨rfl, Nat.le_of_ble_eq_true rfl⟩ rfl R74 (evx_up (Nat.le_of_ble_eq_true rfl) (c72 R74 (R4.1 47 10) e76)) ?_
              intro h78 R79 w80
              have w80 : rg q77 := w80
              show evx _ _ _ _ _ _ (.inl (iz q77) :: _) _ _ _
              refine evx_F E158 D158_170 rfl rfl ?_
              refine evx_F E158 D158_171 rfl rfl ?_
              refine evx_gfi (k := 12) E158 D158_172 F158_123 H47 rfl R79 ?_
              refine evx_F E158 D158_175 rfl rfl ?_
              refine evx_gfi (k := 13) E158 D158_176 F158_126 H47 rfl R79 ?_
              obtain ⟨k81, hs⟩ := ck hs
              obtain ⟨⟨q83, M87⟩, e82, hs⟩ := Option.bind_eq_some_iff.mp hs
              dsimp only at hs
              refine evx_cv (D := 4) E158 D158_179 I158_158 rfl rfl H47 ⟨Nat.le_of_ble_eq_true rfl, Nat.le_of_ble_eq_true rfl⟩ ⟨rfl, Nat.le_of_ble_eq_true rfl⟩ rfl R79 (evx_up (Nat.le_of_ble_eq_true rfl) (c166 R79 (by decide) w80 k81 (R79.1 47 12) (R79.1 47 13) e82)) ?_
              intro h84 R85 w86
              refine evx_F E158 D158_182 rfl rfl ?_
              refine evx_F E158 D158_183 rfl rfl ?_
              refine evx_pfi (k := 10) E158 D158_184 F158_84 H47 rfl R85 w12 rfl ?_
              intro h88 R89
              refine evx_F E158 D158_187 rfl rfl ?_
              refine evx_F E158 D158_188 rfl rfl ?_
              refine evx_gfi (k := 11) E158 D158_189 F158_120 H47 rfl R89 ?_
              show evx _ _ _ _ _ _ (.inl (iz (M87 47 11)) :: _) _ _ _
              refine evx_F E158 D158_192 rfl rfl ?_
              refine evx_add E158 D158_193 ?_
              obtain ⟨k90, hs⟩ := ck hs
              refine evx_pfi (k := 11) E158 D158_194 F158_120 H47 rfl R89 k90 rfl ?_
              intro h91 R92
              refine evx_F E158 D158_197 rfl rfl ?_
              cases hs
              exact evx_ret E158 D158_221 rfl (fun d => rfl) rfl trivial R92
            · rw [if_neg cb70] at hs
              by_cases cb93 : q14 = 5
              · rw [if_pos cb93] at hs
                refine evx_tsi (5) E158 D158_30 cb93 (by decide) (by decide) rfl rfl ?_
                refine evx_F E158 D158_200 rfl rfl ?_
                refine evx_F E158 D158_201 rfl rfl ?_
                refine evx_F E158 D158_202 rfl rfl ?_
                refine evx_gfr E158 D158_203 F158_33 H47 rfl R16 ?_
                refine evx_F E158 D158_206 rfl rfl ?_
                obtain ⟨q95, e94, hs⟩ := Option.bind_eq_some_iff.mp hs
                refine evx_cv (D := 4) E158 D158_207 I158_155 rfl rfl H12 ⟨Nat.le_of_ble_eq_true rfl, Nat.le_of_ble_eq_true rfl⟩ ⟨rfl, Nat.le_of_ble_eq_true rfl⟩ rfl R16 (evx_up (Nat.le_of_ble_eq_true rfl) (c72 R16 (R4.1 47 10) e94)) ?_
                intro h96 R97 w98
                have w98 : rg q95 := w98
                show evx _ _ _ _ _ _ (.inl (iz q95) :: _) _ _ _
                obtain ⟨⟨q100, M104⟩, e99, hs⟩ := Option.bind_eq_some_iff.mp hs
                dsimp only at hs
                refine evx_cv (D := 4) E158 D158_210 I158_162 rfl rfl H47 ⟨Nat.le_of_ble_eq_true rfl, Nat.le_of_ble_eq_true rfl⟩ ⟨rfl, Nat.le_of_ble_eq_true rfl⟩ rfl R97 (evx_up (Nat.le_of_ble_eq_true rfl) (c167 R97 w12 w98 e99)) ?_
                intro h101 R102 w103
                refine evx_F E158 D158_213 rfl rfl ?_
                cases hs
                exact evx_ret E158 D158_221 rfl (fun d => rfl) rfl trivial R102
              · rw [if_neg cb93] at hs
                refine evx_tso E158 D158_30 w17 (by omega) rfl ?_
                refine evx_F E158 D158_216 rfl rfl ?_
                refine evx_F E158 D158_217 rfl rfl ?_
                obtain ⟨⟨q106, M110⟩, e105, hs⟩ := Option.bind_eq_some_iff.mp hs
                dsimp only at hs
                refine evx_cv (D := 4) E158 D158_218 I158_166 rfl rfl H47 ⟨Nat.le_of_ble_eq_true rfl, Nat.le_of_ble_eq_true rfl⟩ ⟨rfl, Nat.le_of_ble_eq_true rfl⟩ rfl R16 (evx_up (Nat.le_of_ble_eq_true rfl) (c173 R16 w12 e105)) ?_
                intro h107 R108 w109
                cases hs
                exact evx_ret E158 D158_221 rfl (fun d => rfl) rfl trivial R108
  · rw [if_neg cb7] at hs
    refine evx_F E158 D158_4 rfl (ifF (c1_ne_F w5 (by omega))) ?_
    cases hs
    exact evx_ret E158 D158_7 rfl (fun d => rfl) rfl trivial R4
set_option maxRecDepth 20000 in
theorem E175 : pgMm 175 = some (⟨"DictionaryHouse$Machine", "call", "(II)V"⟩, prog_9_method_16_code, 5, none, []) := rfl
theorem D175_0 : pgDecT 175 0 = some (.aload_n 0, 1) := by decide +kernel
theorem D175_1 : pgDecT 175 1 = some (.getfield 12, 3) := by decide +kernel
theorem F175_12 : pgFf 175 12 = some (7, 4, 3) := by decide +kernel
theorem D175_4 : pgDecT 175 4 = some (.iload_n 1, 1) := by decide +kernel
theorem D175_5 : pgDecT 175 5 = some (.invokevirtual 102, 3) := by decide +kernel
theorem I175_102 : pgIi 175 102 = some (176, 1, 6) := by decide +kernel
theorem D175_8 : pgDecT 175 8 = some (.iconst 3, 1) := by decide +kernel
theorem D175_9 : pgDecT 175 9 = some (.if_icmp .ne 67, 3) := by decide +kernel
theorem D175_76 : pgDecT 175 76 = some (.aload_n 0, 1) := by decide +kernel
theorem D175_77 : pgDecT 175 77 = some (.getfield 12, 3) := by decide +kernel
theorem D175_80 : pgDecT 175 80 = some (.iload_n 1, 1) := by decide +kernel
theorem D175_81 : pgDecT 175 81 = some (.iconst 0, 1) := by decide +kernel
theorem D175_82 : pgDecT 175 82 = some (.invokevirtual 206, 3) := by decide +kernel
theorem I175_206 : pgIi 175 206 = some (165, 2, 6) := by decide +kernel
theorem D175_85 : pgDecT 175 85 = some (.istore_n 3, 1) := by decide +kernel
theorem D175_86 : pgDecT 175 86 = some (.aload_n 0, 1) := by decide +kernel
theorem D175_87 : pgDecT 175 87 = some (.getfield 12, 3) := by decide +kernel
theorem D175_90 : pgDecT 175 90 = some (.iload_n 1, 1) := by decide +kernel
theorem D175_91 : pgDecT 175 91 = some (.iconst 1, 1) := by decide +kernel
theorem D175_92 : pgDecT 175 92 = some (.invokevirtual 206, 3) := by decide +kernel
theorem D175_95 : pgDecT 175 95 = some (.istore 4, 2) := by decide +kernel
theorem D175_97 : pgDecT 175 97 = some (.iload 4, 2) := by decide +kernel
theorem D175_99 : pgDecT 175 99 = some (.iconst 1, 1) := by decide +kernel
theorem D175_100 : pgDecT 175 100 = some (.iadd, 1) := by decide +kernel
theorem D175_101 : pgDecT 175 101 = some (.getstatic 209, 3) := by decide +kernel
theorem D175_104 : pgDecT 175 104 = some (.iload_n 3, 1) := by decide +kernel
theorem D175_105 : pgDecT 175 105 = some (.iaload, 1) := by decide +kernel
theorem D175_106 : pgDecT 175 106 = some (.if_icmp .ne 30, 3) := by decide +kernel
theorem D175_136 : pgDecT 175 136 = some (.iload 4, 2) := by decide +kernel
theorem D175_138 : pgDecT 175 138 = some (.ifCond .ne 22, 3) := by decide +kernel
theorem D175_160 : pgDecT 175 160 = some (.aload_n 0, 1) := by decide +kernel
theorem D175_161 : pgDecT 175 161 = some (.aload_n 0, 1) := by decide +kernel
theorem D175_162 : pgDecT 175 162 = some (.getfield 12, 3) := by decide +kernel
theorem D175_165 : pgDecT 175 165 = some (.iconst 4, 1) := by decide +kernel
theorem D175_166 : pgDecT 175 166 = some (.iload_n 3, 1) := by decide +kernel
theorem D175_167 : pgDecT 175 167 = some (.iconst 2, 1) := by decide +kernel
theorem D175_168 : pgDecT 175 168 = some (.aload_n 0, 1) := by decide +kernel
theorem D175_169 : pgDecT 175 169 = some (.getfield 12, 3) := by decide +kernel
theorem D175_172 : pgDecT 175 172 = some (.iload_n 1, 1) := by decide +kernel
theorem D175_173 : pgDecT 175 173 = some (.iconst 2, 1) := by decide +kernel
theorem D175_174 : pgDecT 175 174 = some (.invokevirtual 206, 3) := by decide +kernel
theorem D175_177 : pgDecT 175 177 = some (.iload_n 2, 1) := by decide +kernel
theorem D175_178 : pgDecT 175 178 = some (.invokevirtual 148, 3) := by decide +kernel
theorem I175_148 : pgIi 175 148 = some (161, 5, 6) := by decide +kernel
theorem D175_181 : pgDecT 175 181 = some (.invokevirtual 141, 3) := by decide +kernel
theorem I175_141 : pgIi 175 141 = some (162, 1, 7) := by decide +kernel
theorem D175_184 : pgDecT 175 184 = some (.return_, 1) := by decide +kernel
theorem D175_141 : pgDecT 175 141 = some (.aload_n 0, 1) := by decide +kernel
theorem D175_142 : pgDecT 175 142 = some (.aload_n 0, 1) := by decide +kernel
theorem D175_143 : pgDecT 175 143 = some (.getfield 12, 3) := by decide +kernel
theorem D175_146 : pgDecT 175 146 = some (.iconst 4, 1) := by decide +kernel
theorem D175_147 : pgDecT 175 147 = some (.iload_n 3, 1) := by decide +kernel
theorem D175_148 : pgDecT 175 148 = some (.iconst 1, 1) := by decide +kernel
theorem D175_149 : pgDecT 175 149 = some (.iload_n 2, 1) := by decide +kernel
theorem D175_150 : pgDecT 175 150 = some (.iconst (-1), 1) := by decide +kernel
theorem D175_151 : pgDecT 175 151 = some (.invokevirtual 148, 3) := by decide +kernel
theorem D175_154 : pgDecT 175 154 = some (.invokevirtual 141, 3) := by decide +kernel
theorem D175_157 : pgDecT 175 157 = some (.goto 27, 3) := by decide +kernel
theorem D175_109 : pgDecT 175 109 = some (.aload_n 0, 1) := by decide +kernel
theorem D175_110 : pgDecT 175 110 = some (.iload_n 3, 1) := by decide +kernel
theorem D175_111 : pgDecT 175 111 = some (.aload_n 0, 1) := by decide +kernel
theorem D175_112 : pgDecT 175 112 = some (.getfield 12, 3) := by decide +kernel
theorem D175_115 : pgDecT 175 115 = some (.iload_n 1, 1) := by decide +kernel
theorem D175_116 : pgDecT 175 116 = some (.iconst 2, 1) := by decide +kernel
theorem D175_117 : pgDecT 175 117 = some (.invokevirtual 206, 3) := by decide +kernel
theorem D175_120 : pgDecT 175 120 = some (.aload_n 0, 1) := by decide +kernel
theorem D175_121 : pgDecT 175 121 = some (.getfield 12, 3) := by decide +kernel
theorem D175_124 : pgDecT 175 124 = some (.iload_n 1, 1) := by decide +kernel
theorem D175_125 : pgDecT 175 125 = some (.iconst 3, 1) := by decide +kernel
theorem D175_126 : pgDecT 175 126 = some (.invokevirtual 206, 3) := by decide +kernel
theorem D175_129 : pgDecT 175 129 = some (.iload_n 2, 1) := by decide +kernel
theorem D175_130 : pgDecT 175 130 = some (.invokevirtual 212, 3) := by decide +kernel
theorem I175_212 : pgIi 175 212 = some (177, 4, 7) := by decide +kernel
theorem D175_133 : pgDecT 175 133 = some (.goto 51, 3) := by decide +kernel
theorem D175_12 : pgDecT 175 12 = some (.aload_n 0, 1) := by decide +kernel
theorem D175_13 : pgDecT 175 13 = some (.aload_n 0, 1) := by decide +kernel
theorem D175_14 : pgDecT 175 14 = some (.getfield 12, 3) := by decide +kernel
theorem D175_17 : pgDecT 175 17 = some (.iload_n 1, 1) := by decide +kernel
theorem D175_18 : pgDecT 175 18 = some (.iconst 0, 1) := by decide +kernel
theorem D175_19 : pgDecT 175 19 = some (.invokevirtual 206, 3) := by decide +kernel
theorem D175_22 : pgDecT 175 22 = some (.putfield 84, 3) := by decide +kernel
theorem F175_84 : pgFf 175 84 = some (7, 10, 0) := by decide +kernel
theorem D175_25 : pgDecT 175 25 = some (.aload_n 0, 1) := by decide +kernel
theorem D175_26 : pgDecT 175 26 = some (.aload_n 0, 1) := by decide +kernel
theorem D175_27 : pgDecT 175 27 = some (.getfield 12, 3) := by decide +kernel
theorem D175_30 : pgDecT 175 30 = some (.iload_n 1, 1) := by decide +kernel
theorem D175_31 : pgDecT 175 31 = some (.iconst 1, 1) := by decide +kernel
theorem D175_32 : pgDecT 175 32 = some (.invokevirtual 206, 3) := by decide +kernel
theorem D175_35 : pgDecT 175 35 = some (.putfield 120, 3) := by decide +kernel
theorem F175_120 : pgFf 175 120 = some (7, 11, 0) := by decide +kernel
theorem D175_38 : pgDecT 175 38 = some (.aload_n 0, 1) := by decide +kernel
theorem D175_39 : pgDecT 175 39 = some (.aload_n 0, 1) := by decide +kernel
theorem D175_40 : pgDecT 175 40 = some (.getfield 12, 3) := by decide +kernel
theorem D175_43 : pgDecT 175 43 = some (.iconst 5, 1) := by decide +kernel
theorem D175_44 : pgDecT 175 44 = some (.iload_n 2, 1) := by decide +kernel
theorem D175_45 : pgDecT 175 45 = some (.aload_n 0, 1) := by decide +kernel
theorem D175_46 : pgDecT 175 46 = some (.getfield 12, 3) := by decide +kernel
theorem D175_49 : pgDecT 175 49 = some (.iload_n 1, 1) := by decide +kernel
theorem D175_50 : pgDecT 175 50 = some (.iconst 2, 1) := by decide +kernel
theorem D175_51 : pgDecT 175 51 = some (.invokevirtual 206, 3) := by decide +kernel
theorem D175_54 : pgDecT 175 54 = some (.iconst (-1), 1) := by decide +kernel
theorem D175_55 : pgDecT 175 55 = some (.iconst (-1), 1) := by decide +kernel
theorem D175_56 : pgDecT 175 56 = some (.invokevirtual 148, 3) := by decide +kernel
theorem D175_59 : pgDecT 175 59 = some (.putfield 123, 3) := by decide +kernel
theorem F175_123 : pgFf 175 123 = some (7, 12, 0) := by decide +kernel
theorem D175_62 : pgDecT 175 62 = some (.aload_n 0, 1) := by decide +kernel
theorem D175_63 : pgDecT 175 63 = some (.aload_n 0, 1) := by decide +kernel
theorem D175_64 : pgDecT 175 64 = some (.getfield 12, 3) := by decide +kernel
theorem D175_67 : pgDecT 175 67 = some (.iload_n 1, 1) := by decide +kernel
theorem D175_68 : pgDecT 175 68 = some (.iconst 3, 1) := by decide +kernel
theorem D175_69 : pgDecT 175 69 = some (.invokevirtual 206, 3) := by decide +kernel
theorem D175_72 : pgDecT 175 72 = some (.putfield 126, 3) := by decide +kernel
theorem F175_126 : pgFf 175 126 = some (7, 13, 0) := by decide +kernel
theorem D175_75 : pgDecT 175 75 = some (.return_, 1) := by decide +kernel
/-! 175: DictionaryHouse$Machine.call (II)V -/
def f175 (M : Mm) (x1 : Int) (x2 : Int) : Option (Int × Mm) := (f176 M x1).bind (fun q2 => if ¬ q2 = 3 then (f165 M x1 0).bind (fun q8 => (f165 M x1 1).bind (fun q13 => if 0 ≤ q8 ∧ q8 < 8 then (if rg (q13 + 1) then (if ¬ (q13 + 1) = (aAa q8) then (if ¬ q13 = 0 then (f165 M x1 2).bind (fun q22 => (f161 M 4 q8 2 q22 x2).bind (fun zq27 => (f162 zq27.2 zq27.1).bind (fun zq33 => some (0, zq33.2)))) else (f161 M 4 q8 1 x2 (-1)).bind (fun zq39 => (f162 zq39.2 zq39.1).bind (fun zq45 => some (0, zq45.2)))) else (f165 M x1 2).bind (fun q51 => (f165 M x1 3).bind (fun q56 => (f177 M q8 q51 q56 x2).bind (fun zq61 => some (0, zq61.2))))) else none) else none)) else (f165 M x1 0).bind (fun q67 => (f165 (up M 47 10 q67) x1 1).bind (fun q74 => (f165 (up (up M 47 10 q67) 47 11 q74) x1 2).bind (fun q81 => (f161 (up (up M 47 10 q67) 47 11 q74) 5 x2 q81 (-1) (-1)).bind (fun zq86 => (f165 (up zq86.2 47 12 zq86.1) x1 3).bind (fun q94 => some (0, (up (up zq86.2 47 12 zq86.1) 47 13 q94))))))))
theorem c175 {L : Nat} {xs : Nat → Int32} {h : mvH} {M : Mm} {x1 x2 : Int} {v : Int} {M' : Mm} (R : rp h M) (rx1 : rg x1) (rx2 : rg x2) (hs : f175 M x1 x2 = some (v, M')) : evx L xs 5 175 0 [(0, .inr (.inr (.inl (some 47)))), (1, .inl (iz x1)), (2, .inl (iz x2))] [] h (.inl none, 0) M' := by
  unfold f175 at hs
  refine evx_F E175 D175_0 rfl rfl ?_
  refine evx_gfr E175 D175_1 F175_12 H47 rfl R ?_
  refine evx_F E175 D175_4 rfl rfl ?_
  obtain ⟨q2, e1, hs⟩ := Option.bind_eq_some_iff.mp hs
  refine evx_cv (D := 4) E175 D175_5 I175_102 rfl rfl H48 ⟨Nat.le_of_ble_eq_true rfl, Nat.le_of_ble_eq_true rfl⟩ ⟨rfl, Nat.le_of_ble_eq_true rfl⟩ rfl R (evx_up (Nat.le_of_ble_eq_true rfl) (c176 R rx1 e1)) ?_
  intro h3 R4 w5
  have w5 : rg q2 := w5
  show evx _ _ _ _ _ _ (.inl (iz q2) :: _) _ _ _
  refine evx_F E175 D175_8 rfl rfl ?_
  by_cases cb6 : ¬ q2 = 3
  · rw [if_pos cb6] at hs
    refine evx_F E175 D175_9 rfl (ifT (c2_ne_T w5 (by decide) cb6)) ?_
    refine evx_F E175 D175_76 rfl rfl ?_
    refine evx_gfr E175 D175_77 F175_12 H47 rfl R4 ?_
    refine evx_F E175 D175_80 rfl rfl ?_
    refine evx_F E175 D175_81 rfl rfl ?_
    obtain ⟨q8, e7, hs⟩ := Option.bind_eq_some_iff.mp hs
    refine evx_cv (D := 4) E175 D175_82 I175_206 rfl rfl H48 ⟨Nat.le_of_ble_eq_true rfl, Nat.le_of_ble_eq_true rfl⟩ ⟨rfl, Nat.le_of_ble_eq_true rfl⟩ rfl R4 (evx_up (Nat.le_of_ble_eq_true rfl) (c165 R4 rx1 (by decide) e7)) ?_
    intro h9 R10 w11
    have w11 : rg q8 := w11
    show evx _ _ _ _ _ _ (.inl (iz q8) :: _) _ _ _
    refine evx_F E175 D175_85 rfl rfl ?_
    refine evx_F E175 D175_86 rfl rfl ?_
    refine evx_gfr E175 D175_87 F175_12 H47 rfl R10 ?_
    refine evx_F E175 D175_90 rfl rfl ?_
    refine evx_F E175 D175_91 rfl rfl ?_
    obtain ⟨q13, e12, hs⟩ := Option.bind_eq_some_iff.mp hs
    refine evx_cv (D := 4) E175 D175_92 I175_206 rfl rfl H48 ⟨Nat.le_of_ble_eq_true rfl, Nat.le_of_ble_eq_true rfl⟩ ⟨rfl, Nat.le_of_ble_eq_true rfl⟩ rfl R10 (evx_up (Nat.le_of_ble_eq_true rfl) (c165 R10 rx1 (by decide) e12)) ?_
    intro h14 R15 w16
    have w16 : rg q13 := w16
    show evx _ _ _ _ _ _ (.inl (iz q13) :: _) _ _ _
    refine evx_F E175 D175_95 rfl rfl ?_
    refine evx_F E175 D175_97 rfl rfl ?_
    refine evx_F E175 D175_99 rfl rfl ?_
    refine evx_add E175 D175_100 ?_
    refine evx_G E175 D175_101 rfl (fun d _ => rfl) ?_
    refine evx_F E175 D175_104 rfl rfl ?_
    obtain ⟨k17, hs⟩ := ck hs
    refine evx_tab E175 D175_105 (by decide) rfl (by decide) k17 (aAa_eq _) ?_
    obtain ⟨k18, hs⟩ := ck hs
    by_cases cb19 : ¬ (q13 + 1) = (aAa q8)
    · rw [if_pos cb19] at hs
      refine evx_F E175 D175_106 rfl (ifT (c2_ne_T k18 (aAa_rg _) cb19)) ?_
      refine evx_F E175 D175_136 rfl rfl ?_
      by_cases cb20 : ¬ q13 = 0
      · rw [if_pos cb20] at hs
        refine evx_F E175 D175_138 rfl (ifT (c1_ne_T w16 cb20)) ?_
        refine evx_F E175 D175_160 rfl rfl ?_
        refine evx_F E175 D175_161 rfl rfl ?_
        refine evx_gfr E175 D175_162 F175_12 H47 rfl R15 ?_
        refine evx_F E175 D175_165 rfl rfl ?_
        refine evx_F E175 D175_166 rfl rfl ?_
        refine evx_F E175 D175_167 rfl rfl ?_
        refine evx_F E175 D175_168 rfl rfl ?_
        refine evx_gfr E175 D175_169 F175_12 H47 rfl R15 ?_
        refine evx_F E175 D175_172 rfl rfl ?_
        refine evx_F E175 D175_173 rfl rfl ?_
        obtain ⟨q22, e21, hs⟩ := Option.bind_eq_some_iff.mp hs
        refine evx_cv (D := 4) E175 D175_174 I175_206 rfl rfl H48 ⟨Nat.le_of_ble_eq_true rfl, Nat.le_of_ble_eq_true rfl⟩ ⟨rfl, Nat.le_of_ble_eq_true rfl⟩ rfl R15 (evx_up (Nat.le_of_ble_eq_true rfl) (c165 R15 rx1 (by decide) e21)) ?_
        intro h23 R24 w25
        have w25 : rg q22 := w25
        show evx _ _ _ _ _ _ (.inl (iz q22) :: _) _ _ _
        refine evx_F E175 D175_177 rfl rfl ?_
        obtain ⟨⟨q27, M31⟩, e26, hs⟩ := Option.bind_eq_some_iff.mp hs
        dsimp only at hs
        refine evx_cv (D := 4) E175 D175_178 I175_148 rfl rfl H48 ⟨Nat.le_of_ble_eq_true rfl, Nat.le_of_ble_eq_true rfl⟩ ⟨rfl, Nat.le_of_ble_eq_true rfl⟩ rfl R24 (evx_up (Nat.le_of_ble_eq_true rfl) (c161 R24 (by decide) w11 (by decide) w25 rx2 e26)) ?_
        intro h28 R29 w30
        have w30 : rg q27 := w30
        show evx _ _ _ _ _ _ (.inl (iz q27) :: _) _ _ _
        obtain ⟨⟨q33, M37⟩, e32, hs⟩ := Option.bind_eq_some_iff.mp hs
        dsimp only at hs
        refine evx_cv (D := 4) E175 D175_181 I175_141 rfl rfl H47 ⟨Nat.le_of_ble_eq_true rfl, Nat.le_of_ble_eq_true rfl⟩ ⟨rfl, Nat.le_of_ble_eq_true rfl⟩ rfl R29 (evx_up (Nat.le_of_ble_eq_true rfl) (c162 R29 w30 e32)) ?_
        intro h34 R35 w36
        cases hs
        exact evx_ret E175 D175_184 rfl (fun d => rfl) rfl trivial R35
      · rw [if_neg cb20] at hs
        refine evx_F E175 D175_138 rfl (ifF (c1_ne_F w16 (by omega))) ?_
        refine evx_F E175 D175_141 rfl rfl ?_
        refine evx_F E175 D175_142 rfl rfl ?_
        refine evx_gfr E175 D175_143 F175_12 H47 rfl R15 ?_
        refine evx_F E175 D175_146 rfl rfl ?_
        refine evx_F E175 D175_147 rfl rfl ?_
        refine evx_F E175 D175_148 rfl rfl ?_
        refine evx_F E175 D175_149 rfl rfl ?_
        refine evx_F E175 D175_150 rfl rfl ?_
        obtain ⟨⟨q39, M43⟩, e38, hs⟩ := Option.bind_eq_some_iff.mp hs
        dsimp only at hs
        refine evx_cv (D := 4) E175 D175_151 I175_148 rfl rfl H48 ⟨Nat.le_of_ble_eq_true rfl, Nat.le_of_ble_eq_true rfl⟩ ⟨rfl, Nat.le_of_ble_eq_true rfl⟩ rfl R15 (evx_up (Nat.le_of_ble_eq_true rfl) (c161 R15 (by decide) w11 (by decide) rx2 (by decide) e38)) ?_
        intro h40 R41 w42
        have w42 : rg q39 := w42
        show evx _ _ _ _ _ _ (.inl (iz q39) :: _) _ _ _
        obtain ⟨⟨q45, M49⟩, e44, hs⟩ := Option.bind_eq_some_iff.mp hs
        dsimp only at hs
        refine evx_cv (D := 4) E175 D175_154 I175_141 rfl rfl H47 ⟨Nat.le_of_ble_eq_true rfl, Nat.le_of_ble_eq_true rfl⟩ ⟨rfl, Nat.le_of_ble_eq_true rfl⟩ rfl R41 (evx_up (Nat.le_of_ble_eq_true rfl) (c162 R41 w42 e44)) ?_
        intro h46 R47 w48
        refine evx_F E175 D175_157 rfl rfl ?_
        cases hs
        exact evx_ret E175 D175_184 rfl (fun d => rfl) rfl trivial R47
    · rw [if_neg cb19] at hs
      refine evx_F E175 D175_106 rfl (ifF (c2_ne_F k18 (aAa_rg _) (by omega))) ?_
      refine evx_F E175 D175_109 rfl rfl ?_
      refine evx_F E175 D175_110 rfl rfl ?_
      refine evx_F E175 D175_111 rfl rfl ?_
      refine evx_gfr E175 D175_112 F175_12 H47 rfl R15 ?_
      refine evx_F E175 D175_115 rfl rfl ?_
      refine evx_F E175 D175_116 rfl rfl ?_
      obtain ⟨q51, e50, hs⟩ := Option.bind_eq_some_iff.mp hs
      refine evx_cv (D := 4) E175 D175_117 I175_206 rfl rfl H48 ⟨Nat.le_of_ble_eq_true rfl, Nat.le_of_ble_eq_true rfl⟩ ⟨rfl, Nat.le_of_ble_eq_true rfl⟩ rfl R15 (evx_up (Nat.le_of_ble_eq_true rfl) (c165 R15 rx1 (by decide) e50)) ?_
      intro h52 R53 w54
      have w54 : rg q51 := w54
      show evx _ _ _ _ _ _ (.inl (iz q51) :: _) _ _ _
      refine evx_F E175 D175_120 rfl rfl ?_
      refine evx_gfr E175 D175_121 F175_12 H47 rfl R53 ?_
      refine evx_F E175 D175_124 rfl rfl ?_
      refine evx_F E175 D175_125 rfl rfl ?_
      obtain ⟨q56, e55, hs⟩ := Option.bind_eq_some_iff.mp hs
      refine evx_cv (D := 4) E175 D175_126 I175_206 rfl rfl H48 ⟨Nat.le_of_ble_eq_true rfl, Nat.le_of_ble_eq_true rfl⟩ ⟨rfl, Nat.le_of_ble_eq_true rfl⟩ rfl R53 (evx_up (Nat.le_of_ble_eq_true rfl) (c165 R53 rx1 (by decide) e55)) ?_
      intro h57 R58 w59
      have w59 : rg q56 := w59
      show evx _ _ _ _ _ _ (.inl (iz q56) :: _) _ _ _
      refine evx_F E175 D175_129 rfl rfl ?_
      obtain ⟨⟨q61, M65⟩, e60, hs⟩ := Option.bind_eq_some_iff.mp hs
      dsimp only at hs
      refine evx_cv (D := 4) E175 D175_130 I175_212 rfl rfl H47 ⟨Nat.le_of_ble_eq_true rfl, Nat.le_of_ble_eq_true rfl⟩ ⟨rfl, Nat.le_of_ble_eq_true rfl⟩ rfl R58 (evx_up (Nat.le_of_ble_eq_true rfl) (c177 R58 w11 w54 w59 rx2 e60)) ?_
      intro h62 R63 w64
      refine evx_F E175 D175_133 rfl rfl ?_
      cases hs
      exact evx_ret E175 D175_184 rfl (fun d => rfl) rfl trivial R63
  · rw [if_neg cb6] at hs
    refine evx_F E175 D175_9 rfl (ifF (c2_ne_F w5 (by decide) (by omega))) ?_
    refine evx_F E175 D175_12 rfl rfl ?_
    refine evx_F E175 D175_13 rfl rfl ?_
    refine evx_gfr E175 D175_14 F175_12 H47 rfl R4 ?_
    refine evx_F E175 D175_17 rfl rfl ?_
    refine evx_F E175 D175_18 rfl rfl ?_
    obtain ⟨q67, e66, hs⟩ := Option.bind_eq_some_iff.mp hs
    refine evx_cv (D := 4) E175 D175_19 I175_206 rfl rfl H48 ⟨Nat.le_of_ble_eq_true rfl, Nat.le_of_ble_eq_true rfl⟩ ⟨rfl, Nat.le_of_ble_eq_true rfl⟩ rfl R4 (evx_up (Nat.le_of_ble_eq_true rfl) (c165 R4 rx1 (by decide) e66)) ?_
    intro h68 R69 w70
    have w70 : rg q67 := w70
    show evx _ _ _ _ _ _ (.inl (iz q67) :: _) _ _ _
    refine evx_pfi (k := 10) E175 D175_22 F175_84 H47 rfl R69 w70 rfl ?_
    intro h71 R72
    refine evx_F E175 D175_25 rfl rfl ?_
    refine evx_F E175 D175_26 rfl rfl ?_
    refine evx_gfr E175 D175_27 F175_12 H47 rfl R72 ?_
    refine evx_F E175 D175_30 rfl rfl ?_
    refine evx_F E175 D175_31 rfl rfl ?_
    obtain ⟨q74, e73, hs⟩ := Option.bind_eq_some_iff.mp hs
    refine evx_cv (D := 4) E175 D175_32 I175_206 rfl rfl H48 ⟨Nat.le_of_ble_eq_true rfl, Nat.le_of_ble_eq_true rfl⟩ ⟨rfl, Nat.le_of_ble_eq_true rfl⟩ rfl R72 (evx_up (Nat.le_of_ble_eq_true rfl) (c165 R72 rx1 (by decide) e73)) ?_
    intro h75 R76 w77
    have w77 : rg q74 := w77
    show evx _ _ _ _ _ _ (.inl (iz q74) :: _) _ _ _
    refine evx_pfi (k := 11) E175 D175_35 F175_120 H47 rfl R76 w77 rfl ?_
    intro h78 R79
    refine evx_F E175 D175_38 rfl rfl ?_
    refine evx_F E175 D175_39 rfl rfl ?_
    refine evx_gfr E175 D175_40 F175_12 H47 rfl R79 ?_
    refine evx_F E175 D175_43 rfl rfl ?_
    refine evx_F E175 D175_44 rfl rfl ?_
    refine evx_F E175 D175_45 rfl rfl ?_
    refine evx_gfr E175 D175_46 F175_12 H47 rfl R79 ?_
    refine evx_F E175 D175_49 rfl rfl ?_
    refine evx_F E175 D175_50 rfl rfl ?_
    obtain ⟨q81, e80, hs⟩ := Option.bind_eq_some_iff.mp hs
    refine evx_cv (D := 4) E175 D175_51 I175_206 rfl rfl H48 ⟨Nat.le_of_ble_eq_true rfl, Nat.le_of_ble_eq_true rfl⟩ ⟨rfl, Nat.le_of_ble_eq_true rfl⟩ rfl R79 (evx_up (Nat.le_of_ble_eq_true rfl) (c165 R79 rx1 (by decide) e80)) ?_
    intro h82 R83 w84
    have w84 : rg q81 := w84
    show evx _ _ _ _ _ _ (.inl (iz q81) :: _) _ _ _
    refine evx_F E175 D175_54 rfl rfl ?_
    refine evx_F E175 D175_55 rfl rfl ?_
    obtain ⟨⟨q86, M90⟩, e85, hs⟩ := Option.bind_eq_some_iff.mp hs
    dsimp only at hs
    refine evx_cv (D := 4) E175 D175_56 I175_148 rfl rfl H48 ⟨Nat.le_of_ble_eq_true rfl, Nat.le_of_ble_eq_true rfl⟩ ⟨rfl, Nat.le_of_ble_eq_true rfl⟩ rfl R83 (evx_up (Nat.le_of_ble_eq_true rfl) (c161 R83 (by decide) rx2 w84 (by decide) (by decide) e85)) ?_
    intro h87 R88 w89
    have w89 : rg q86 := w89
    show evx _ _ _ _ _ _ (.inl (iz q86) :: _) _ _ _
    refine evx_pfi (k := 12) E175 D175_59 F175_123 H47 rfl R88 w89 rfl ?_
    intro h91 R92
    refine evx_F E175 D175_62 rfl rfl ?_
    refine evx_F E175 D175_63 rfl rfl ?_
    refine evx_gfr E175 D175_64 F175_12 H47 rfl R92 ?_
    refine evx_F E175 D175_67 rfl rfl ?_
    refine evx_F E175 D175_68 rfl rfl ?_
    obtain ⟨q94, e93, hs⟩ := Option.bind_eq_some_iff.mp hs
    refine evx_cv (D := 4) E175 D175_69 I175_206 rfl rfl H48 ⟨Nat.le_of_ble_eq_true rfl, Nat.le_of_ble_eq_true rfl⟩ ⟨rfl, Nat.le_of_ble_eq_true rfl⟩ rfl R92 (evx_up (Nat.le_of_ble_eq_true rfl) (c165 R92 rx1 (by decide) e93)) ?_
    intro h95 R96 w97
    have w97 : rg q94 := w97
    show evx _ _ _ _ _ _ (.inl (iz q94) :: _) _ _ _
    refine evx_pfi (k := 13) E175 D175_72 F175_126 H47 rfl R96 w97 rfl ?_
    intro h98 R99
    cases hs
    exact evx_ret E175 D175_75 rfl (fun d => rfl) rfl trivial R99
set_option maxRecDepth 20000 in
theorem E211 : pgMm 211 = some (⟨"DictionaryHouseModel", "typeAll", "(I)Z"⟩, prog_14_method_39_code, 3, (some .boolean), []) := rfl
theorem D211_0 : pgDecT 211 0 = some (.aload_n 0, 1) := by decide +kernel
theorem D211_1 : pgDecT 211 1 = some (.iconst 0, 1) := by decide +kernel
theorem D211_2 : pgDecT 211 2 = some (.putfield 226, 3) := by decide +kernel
theorem F211_226 : pgFf 211 226 = some (12, 28, 0) := by decide +kernel
theorem D211_5 : pgDecT 211 5 = some (.aload_n 0, 1) := by decide +kernel
theorem D211_6 : pgDecT 211 6 = some (.iconst 0, 1) := by decide +kernel
theorem D211_7 : pgDecT 211 7 = some (.putfield 246, 3) := by decide +kernel
theorem F211_246 : pgFf 211 246 = some (12, 43, 0) := by decide +kernel
theorem D211_10 : pgDecT 211 10 = some (.aload_n 0, 1) := by decide +kernel
theorem D211_11 : pgDecT 211 11 = some (.iload_n 1, 1) := by decide +kernel
theorem D211_12 : pgDecT 211 12 = some (.invokevirtual 272, 3) := by decide +kernel
theorem I211_272 : pgIi 211 272 = some (212, 1, 12) := by decide +kernel
theorem D211_15 : pgDecT 211 15 = some (.iconst 0, 1) := by decide +kernel
theorem D211_16 : pgDecT 211 16 = some (.istore_n 2, 1) := by decide +kernel
theorem D211_17 : pgDecT 211 17 = some (.iload_n 2, 1) := by decide +kernel
theorem D211_18 : pgDecT 211 18 = some (.aload_n 0, 1) := by decide +kernel
theorem D211_19 : pgDecT 211 19 = some (.getfield 243, 3) := by decide +kernel
theorem F211_243 : pgFf 211 243 = some (12, 46, 0) := by decide +kernel
theorem D211_22 : pgDecT 211 22 = some (.if_icmp .ge 19, 3) := by decide +kernel
theorem D211_41 : pgDecT 211 41 = some (.iconst 1, 1) := by decide +kernel
theorem D211_42 : pgDecT 211 42 = some (.ireturn, 1) := by decide +kernel
theorem D211_25 : pgDecT 211 25 = some (.aload_n 0, 1) := by decide +kernel
theorem D211_26 : pgDecT 211 26 = some (.iload_n 2, 1) := by decide +kernel
theorem D211_27 : pgDecT 211 27 = some (.invokevirtual 276, 3) := by decide +kernel
theorem I211_276 : pgIi 211 276 = some (215, 1, 12) := by decide +kernel
theorem D211_30 : pgDecT 211 30 = some (.ifCond .ne 5, 3) := by decide +kernel
theorem D211_35 : pgDecT 211 35 = some (.iinc 2 1, 3) := by decide +kernel
theorem D211_38 : pgDecT 211 38 = some (.goto (-21), 3) := by decide +kernel
theorem D211_33 : pgDecT 211 33 = some (.iconst 0, 1) := by decide +kernel
theorem D211_34 : pgDecT 211 34 = some (.ireturn, 1) := by decide +kernel
/-! 211: DictionaryHouseModel.typeAll (I)Z -/
def l211 : Nat → Nat → Mm → Int → Int → Option (Int × Mm)
  | 0, _, _, _, _ => none
  | f + 1, 17, M, x1, x2 => if (M 53 46) ≤ x2 then (some (1, M)) else (f215 M x2).bind (fun zq13 => if ¬ zq13.1 = 0 then (if rg (x2 + 1) then (l211 f 17 zq13.2 x1 (x2 + 1)) else none) else (some (0, zq13.2)))
  | _, _, _, _, _ => none
theorem d211 {L : Nat} {xs : Nat → Int32} (f : Nat) : (∀ (M : Mm) (x1 x2 : Int) (h : mvH) (v : Int) (M' : Mm), l211 f 17 M x1 x2 = some (v, M') → rp h M → rg x1 → rg x2 → evx L xs 6 211 17 [(0, .inr (.inr (.inl (some 53)))), (1, .inl (iz x1)), (2, .inl (iz x2))] [] h (.inl (some (.inl v)), 0) M') := by
  induction f with
  | zero => exact (fun M x1 x2 h v M' hs _ _ _ => by cases hs)
  | succ f ih =>
    intro M x1 x2 h v M' hs R rx1 rx2
    rw [l211] at hs
    refine evx_F E211 D211_17 rfl rfl ?_
    refine evx_F E211 D211_18 rfl rfl ?_
    refine evx_gfi (k := 46) E211 D211_19 F211_243 H53 rfl R ?_
    by_cases cb11 : (M 53 46) ≤ x2
    · rw [if_pos cb11] at hs
      refine evx_F E211 D211_22 rfl (ifT (c2_ge_T rx2 (R.1 53 46) cb11)) ?_
      refine evx_F E211 D211_41 rfl rfl ?_
      cases hs
      exact evx_ret E211 D211_42 rfl (fun d => rfl) rfl (show rg _ from (by decide)) R
    · rw [if_neg cb11] at hs
      refine evx_F E211 D211_22 rfl (ifF (c2_ge_F rx2 (R.1 53 46) (by omega))) ?_
      refine evx_F E211 D211_25 rfl rfl ?_
      refine evx_F E211 D211_26 rfl rfl ?_
      obtain ⟨⟨q13, M17⟩, e12, hs⟩ := Option.bind_eq_some_iff.mp hs
      dsimp only at hs
      refine evx_cv (D := 5) E211 D211_27 I211_276 rfl rfl H53 ⟨Nat.le_of_ble_eq_true rfl, Nat.le_of_ble_eq_true rfl⟩ ⟨rfl, Nat.le_of_ble_eq_true rfl⟩ rfl R (evx_up (Nat.le_of_ble_eq_true rfl) (c215 R rx2 e12)) ?_
      intro h14 R15 w16
      have w16 : rg q13 := w16
      show evx _ _ _ _ _ _ (.inl (iz q13) :: _) _ _ _
      by_cases cb18 : ¬ q13 = 0
      · rw [if_pos cb18] at hs
        refine evx_F E211 D211_30 rfl (ifT (c1_ne_T w16 cb18)) ?_
        refine evx_inc E211 D211_35 (Nat.le_of_ble_eq_true rfl) rfl ?_
        refine evx_F E211 D211_38 rfl rfl ?_
        obtain ⟨k19, hs⟩ := ck hs
        show evx _ _ _ _ _ [(2, .inl (iz (x2 + 1))), (0, .inr (.inr (.inl (some 53)))), (1, .inl (iz x1))] _ _ _ _
        exact evx_lv (lvLe_mk (fm rfl (fm rfl (fm rfl fn))) (fm rfl (fm rfl (fm rfl fn))) (fm rfl (fm rfl (fm rfl fn)))) (ih _ _ _ _ _ _ hs R15 rx1 k19)
      · rw [if_neg cb18] at hs
        refine evx_F E211 D211_30 rfl (ifF (c1_ne_F w16 (by omega))) ?_
        refine evx_F E211 D211_33 rfl rfl ?_
        cases hs
        exact evx_ret E211 D211_34 rfl (fun d => rfl) rfl (show rg _ from (by decide)) R15
def f211 (M : Mm) (x1 : Int) : Option (Int × Mm) := (f212 (up (up M 53 28 0) 53 43 0) x1).bind (fun zq6 => l211 FU 17 zq6.2 x1 0)
theorem c211 {L : Nat} {xs : Nat → Int32} {h : mvH} {M : Mm} {x1 : Int} {v : Int} {M' : Mm} (R : rp h M) (rx1 : rg x1) (hs : f211 M x1 = some (v, M')) : evx L xs 6 211 0 [(0, .inr (.inr (.inl (some 53)))), (1, .inl (iz x1))] [] h (.inl (some (.inl v)), 0) M' := by
  unfold f211 at hs
  refine evx_F E211 D211_0 rfl rfl ?_
  refine evx_F E211 D211_1 rfl rfl ?_
  refine evx_pfi (k := 28) E211 D211_2 F211_226 H53 rfl R (by decide) rfl ?_
  intro h1 R2
  refine evx_F E211 D211_5 rfl rfl ?_
  refine evx_F E211 D211_6 rfl rfl ?_
  refine evx_pfi (k := 43) E211 D211_7 F211_246 H53 rfl R2 (by decide) rfl ?_
  intro h3 R4
  refine evx_F E211 D211_10 rfl rfl ?_
  refine evx_F E211 D211_11 rfl rfl ?_
  obtain ⟨⟨q6, M10⟩, e5, hs⟩ := Option.bind_eq_some_iff.mp hs
  dsimp only at hs
  refine evx_cv (D := 5) E211 D211_12 I211_272 rfl rfl H53 ⟨Nat.le_of_ble_eq_true rfl, Nat.le_of_ble_eq_true rfl⟩ ⟨rfl, Nat.le_of_ble_eq_true rfl⟩ rfl R4 (evx_up (Nat.le_of_ble_eq_true rfl) (c212 R4 rx1 e5)) ?_
  intro h7 R8 w9
  refine evx_F E211 D211_15 rfl rfl ?_
  refine evx_F E211 D211_16 rfl rfl ?_
  show evx _ _ _ _ _ [(2, .inl (iz 0)), (0, .inr (.inr (.inl (some 53)))), (1, .inl (iz x1))] _ _ _ _
  exact evx_lv (lvLe_mk (fm rfl (fm rfl (fm rfl fn))) (fm rfl (fm rfl (fm rfl fn))) (fm rfl (fm rfl (fm rfl fn)))) ((d211 FU) _ _ _ _ _ _ hs R8 rx1 (by decide))
