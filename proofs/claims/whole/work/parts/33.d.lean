/-! More methods as functions, printed by a program. -/
set_option maxRecDepth 20000 in
theorem E190 : pgMm 190 = some (⟨"DictionaryHouseModel", "isType", "(I)Z"⟩, prog_14_method_3_code, 2, (some .boolean), []) := rfl
theorem D190_0 : pgDecT 190 0 = some (.iload_n 1, 1) := by decide +kernel
theorem D190_1 : pgDecT 190 1 = some (.ifCond .lt 15, 3) := by decide +kernel
theorem D190_16 : pgDecT 190 16 = some (.iconst 0, 1) := by decide +kernel
theorem D190_17 : pgDecT 190 17 = some (.ireturn, 1) := by decide +kernel
theorem D190_4 : pgDecT 190 4 = some (.iload_n 1, 1) := by decide +kernel
theorem D190_5 : pgDecT 190 5 = some (.aload_n 0, 1) := by decide +kernel
theorem D190_6 : pgDecT 190 6 = some (.getfield 178, 3) := by decide +kernel
theorem F190_178 : pgFf 190 178 = some (12, 1, 0) := by decide +kernel
theorem D190_9 : pgDecT 190 9 = some (.if_icmp .ge 7, 3) := by decide +kernel
theorem D190_12 : pgDecT 190 12 = some (.iconst 1, 1) := by decide +kernel
theorem D190_13 : pgDecT 190 13 = some (.goto 4, 3) := by decide +kernel
/-! 190: DictionaryHouseModel.isType (I)Z -/
def f190 (M : Mm) (x1 : Int) : Option Int := if x1 < 0 then (some 0) else (if (M 53 1) ≤ x1 then (some 0) else (some 1))
theorem c190 {L : Nat} {xs : Nat → Int32} {h : mvH} {M : Mm} {x1 : Int} {v : Int} (R : rp h M) (rx1 : rg x1) (hs : f190 M x1 = some v) : evx L xs 1 190 0 [(0, .inr (.inr (.inl (some 53)))), (1, .inl (iz x1))] [] h (.inl (some (.inl v)), 0) M := by
  unfold f190 at hs
  refine evx_F E190 D190_0 rfl rfl ?_
  by_cases cb1 : x1 < 0
  · rw [if_pos cb1] at hs
    refine evx_F E190 D190_1 rfl (ifT (c1_lt_T rx1 cb1)) ?_
    refine evx_F E190 D190_16 rfl rfl ?_
    cases hs
    exact evx_ret E190 D190_17 rfl (fun d => rfl) rfl (show rg _ from (by decide)) R
  · rw [if_neg cb1] at hs
    refine evx_F E190 D190_1 rfl (ifF (c1_lt_F rx1 (by omega))) ?_
    refine evx_F E190 D190_4 rfl rfl ?_
    refine evx_F E190 D190_5 rfl rfl ?_
    refine evx_gfi (k := 1) E190 D190_6 F190_178 H53 rfl R ?_
    by_cases cb2 : (M 53 1) ≤ x1
    · rw [if_pos cb2] at hs
      refine evx_F E190 D190_9 rfl (ifT (c2_ge_T rx1 (R.1 53 1) cb2)) ?_
      refine evx_F E190 D190_16 rfl rfl ?_
      cases hs
      exact evx_ret E190 D190_17 rfl (fun d => rfl) rfl (show rg _ from (by decide)) R
    · rw [if_neg cb2] at hs
      refine evx_F E190 D190_9 rfl (ifF (c2_ge_F rx1 (R.1 53 1) (by omega))) ?_
      refine evx_F E190 D190_12 rfl rfl ?_
      refine evx_F E190 D190_13 rfl rfl ?_
      cases hs
      exact evx_ret E190 D190_17 rfl (fun d => rfl) rfl (show rg _ from (by decide)) R
set_option maxRecDepth 20000 in
theorem E192 : pgMm 192 = some (⟨"DictionaryHouseModel", "find", "(III)I"⟩, prog_14_method_4_code, 5, (some .int), []) := rfl
theorem D192_0 : pgDecT 192 0 = some (.bipush 10, 2) := by decide +kernel
theorem D192_2 : pgDecT 192 2 = some (.istore 4, 2) := by decide +kernel
theorem D192_4 : pgDecT 192 4 = some (.iload 4, 2) := by decide +kernel
theorem D192_6 : pgDecT 192 6 = some (.aload_n 0, 1) := by decide +kernel
theorem D192_7 : pgDecT 192 7 = some (.getfield 178, 3) := by decide +kernel
theorem F192_178 : pgFf 192 178 = some (12, 1, 0) := by decide +kernel
theorem D192_10 : pgDecT 192 10 = some (.if_icmp .ge 45, 3) := by decide +kernel
theorem D192_55 : pgDecT 192 55 = some (.iconst (-1), 1) := by decide +kernel
theorem D192_56 : pgDecT 192 56 = some (.ireturn, 1) := by decide +kernel
theorem D192_13 : pgDecT 192 13 = some (.aload_n 0, 1) := by decide +kernel
theorem D192_14 : pgDecT 192 14 = some (.getfield 7, 3) := by decide +kernel
theorem F192_7 : pgFf 192 7 = some (12, 2, 3) := by decide +kernel
theorem D192_17 : pgDecT 192 17 = some (.iload 4, 2) := by decide +kernel
theorem D192_19 : pgDecT 192 19 = some (.iaload, 1) := by decide +kernel
theorem D192_20 : pgDecT 192 20 = some (.iload_n 1, 1) := by decide +kernel
theorem D192_21 : pgDecT 192 21 = some (.if_icmp .ne 28, 3) := by decide +kernel
theorem D192_49 : pgDecT 192 49 = some (.iinc 4 1, 3) := by decide +kernel
theorem D192_52 : pgDecT 192 52 = some (.goto (-48), 3) := by decide +kernel
theorem D192_24 : pgDecT 192 24 = some (.aload_n 0, 1) := by decide +kernel
theorem D192_25 : pgDecT 192 25 = some (.getfield 13, 3) := by decide +kernel
theorem F192_13 : pgFf 192 13 = some (12, 3, 3) := by decide +kernel
theorem D192_28 : pgDecT 192 28 = some (.iload 4, 2) := by decide +kernel
theorem D192_30 : pgDecT 192 30 = some (.iaload, 1) := by decide +kernel
theorem D192_31 : pgDecT 192 31 = some (.iload_n 2, 1) := by decide +kernel
theorem D192_32 : pgDecT 192 32 = some (.if_icmp .ne 17, 3) := by decide +kernel
theorem D192_35 : pgDecT 192 35 = some (.aload_n 0, 1) := by decide +kernel
theorem D192_36 : pgDecT 192 36 = some (.getfield 16, 3) := by decide +kernel
theorem F192_16 : pgFf 192 16 = some (12, 4, 3) := by decide +kernel
theorem D192_39 : pgDecT 192 39 = some (.iload 4, 2) := by decide +kernel
theorem D192_41 : pgDecT 192 41 = some (.iaload, 1) := by decide +kernel
theorem D192_42 : pgDecT 192 42 = some (.iload_n 3, 1) := by decide +kernel
theorem D192_43 : pgDecT 192 43 = some (.if_icmp .ne 6, 3) := by decide +kernel
theorem D192_46 : pgDecT 192 46 = some (.iload 4, 2) := by decide +kernel
theorem D192_48 : pgDecT 192 48 = some (.ireturn, 1) := by decide +kernel
/-! 192: DictionaryHouseModel.find (III)I -/
def l192 : Nat → Nat → Mm → Int → Int → Int → Int → Option Int
  | 0, _, _, _, _, _, _ => none
  | f + 1, 4, M, x1, x2, x3, x4 => if (M 53 1) ≤ x4 then (some (-1)) else (if 0 ≤ x4 ∧ x4 < 40 then (if ¬ (M 54 (Int.toNat x4)) = x1 then (if rg (x4 + 1) then (l192 f 4 M x1 x2 x3 (x4 + 1)) else none) else (if ¬ (M 55 (Int.toNat x4)) = x2 then (if rg (x4 + 1) then (l192 f 4 M x1 x2 x3 (x4 + 1)) else none) else (if ¬ (M 56 (Int.toNat x4)) = x3 then (if rg (x4 + 1) then (l192 f 4 M x1 x2 x3 (x4 + 1)) else none) else (some x4)))) else none)
  | _, _, _, _, _, _, _ => none
theorem d192 {L : Nat} {xs : Nat → Int32} (f : Nat) : (∀ (M : Mm) (x1 x2 x3 x4 : Int) (h : mvH) (v : Int) , l192 f 4 M x1 x2 x3 x4 = some v → rp h M → rg x1 → rg x2 → rg x3 → rg x4 → evx L xs 1 192 4 [(0, .inr (.inr (.inl (some 53)))), (1, .inl (iz x1)), (2, .inl (iz x2)), (3, .inl (iz x3)), (4, .inl (iz x4))] [] h (.inl (some (.inl v)), 0) M) := by
  induction f with
  | zero => exact (fun M x1 x2 x3 x4 h v hs _ _ _ _ _ => by cases hs)
  | succ f ih =>
    intro M x1 x2 x3 x4 h v hs R rx1 rx2 rx3 rx4
    rw [l192] at hs
    refine evx_F E192 D192_4 rfl rfl ?_
    refine evx_F E192 D192_6 rfl rfl ?_
    refine evx_gfi (k := 1) E192 D192_7 F192_178 H53 rfl R ?_
    by_cases cb1 : (M 53 1) ≤ x4
    · rw [if_pos cb1] at hs
      refine evx_F E192 D192_10 rfl (ifT (c2_ge_T rx4 (R.1 53 1) cb1)) ?_
      refine evx_F E192 D192_55 rfl rfl ?_
      cases hs
      exact evx_ret E192 D192_56 rfl (fun d => rfl) rfl (show rg _ from (by decide)) R
    · rw [if_neg cb1] at hs
      refine evx_F E192 D192_10 rfl (ifF (c2_ge_F rx4 (R.1 53 1) (by omega))) ?_
      refine evx_F E192 D192_13 rfl rfl ?_
      refine evx_gfr E192 D192_14 F192_7 H53 rfl R ?_
      refine evx_F E192 D192_17 rfl rfl ?_
      obtain ⟨k2, hs⟩ := ck hs
      refine evx_ial E192 D192_19 H54 (by decide) R k2 ?_
      refine evx_F E192 D192_20 rfl rfl ?_
      by_cases cb3 : ¬ (M 54 (Int.toNat x4)) = x1
      · rw [if_pos cb3] at hs
        refine evx_F E192 D192_21 rfl (ifT (c2_ne_T (R.1 54 (Int.toNat x4)) rx1 cb3)) ?_
        refine evx_inc E192 D192_49 (Nat.le_of_ble_eq_true rfl) rfl ?_
        refine evx_F E192 D192_52 rfl rfl ?_
        obtain ⟨k4, hs⟩ := ck hs
        show evx _ _ _ _ _ [(4, .inl (iz (x4 + 1))), (0, .inr (.inr (.inl (some 53)))), (1, .inl (iz x1)), (2, .inl (iz x2)), (3, .inl (iz x3))] _ _ _ _
        exact evx_lv (lvLe_mk (fm rfl (fm rfl (fm rfl (fm rfl (fm rfl fn))))) (fm rfl (fm rfl (fm rfl (fm rfl (fm rfl fn))))) (fm rfl (fm rfl (fm rfl (fm rfl (fm rfl fn)))))) (ih _ _ _ _ _ _ _ hs R rx1 rx2 rx3 k4)
      · rw [if_neg cb3] at hs
        refine evx_F E192 D192_21 rfl (ifF (c2_ne_F (R.1 54 (Int.toNat x4)) rx1 (by omega))) ?_
        refine evx_F E192 D192_24 rfl rfl ?_
        refine evx_gfr E192 D192_25 F192_13 H53 rfl R ?_
        refine evx_F E192 D192_28 rfl rfl ?_
        refine evx_ial E192 D192_30 H55 (by decide) R k2 ?_
        refine evx_F E192 D192_31 rfl rfl ?_
        by_cases cb5 : ¬ (M 55 (Int.toNat x4)) = x2
        · rw [if_pos cb5] at hs
          refine evx_F E192 D192_32 rfl (ifT (c2_ne_T (R.1 55 (Int.toNat x4)) rx2 cb5)) ?_
          refine evx_inc E192 D192_49 (Nat.le_of_ble_eq_true rfl) rfl ?_
          refine evx_F E192 D192_52 rfl rfl ?_
          obtain ⟨k6, hs⟩ := ck hs
          show evx _ _ _ _ _ [(4, .inl (iz (x4 + 1))), (0, .inr (.inr (.inl (some 53)))), (1, .inl (iz x1)), (2, .inl (iz x2)), (3, .inl (iz x3))] _ _ _ _
          exact evx_lv (lvLe_mk (fm rfl (fm rfl (fm rfl (fm rfl (fm rfl fn))))) (fm rfl (fm rfl (fm rfl (fm rfl (fm rfl fn))))) (fm rfl (fm rfl (fm rfl (fm rfl (fm rfl fn)))))) (ih _ _ _ _ _ _ _ hs R rx1 rx2 rx3 k6)
        · rw [if_neg cb5] at hs
          refine evx_F E192 D192_32 rfl (ifF (c2_ne_F (R.1 55 (Int.toNat x4)) rx2 (by omega))) ?_
          refine evx_F E192 D192_35 rfl rfl ?_
          refine evx_gfr E192 D192_36 F192_16 H53 rfl R ?_
          refine evx_F E192 D192_39 rfl rfl ?_
          refine evx_ial E192 D192_41 H56 (by decide) R k2 ?_
          refine evx_F E192 D192_42 rfl rfl ?_
          by_cases cb7 : ¬ (M 56 (Int.toNat x4)) = x3
          · rw [if_pos cb7] at hs
            refine evx_F E192 D192_43 rfl (ifT (c2_ne_T (R.1 56 (Int.toNat x4)) rx3 cb7)) ?_
            refine evx_inc E192 D192_49 (Nat.le_of_ble_eq_true rfl) rfl ?_
            refine evx_F E192 D192_52 rfl rfl ?_
            obtain ⟨k8, hs⟩ := ck hs
            show evx _ _ _ _ _ [(4, .inl (iz (x4 + 1))), (0, .inr (.inr (.inl (some 53)))), (1, .inl (iz x1)), (2, .inl (iz x2)), (3, .inl (iz x3))] _ _ _ _
            exact evx_lv (lvLe_mk (fm rfl (fm rfl (fm rfl (fm rfl (fm rfl fn))))) (fm rfl (fm rfl (fm rfl (fm rfl (fm rfl fn))))) (fm rfl (fm rfl (fm rfl (fm rfl (fm rfl fn)))))) (ih _ _ _ _ _ _ _ hs R rx1 rx2 rx3 k8)
          · rw [if_neg cb7] at hs
            refine evx_F E192 D192_43 rfl (ifF (c2_ne_F (R.1 56 (Int.toNat x4)) rx3 (by omega))) ?_
            refine evx_F E192 D192_46 rfl rfl ?_
            cases hs
            exact evx_ret E192 D192_48 rfl (fun d => rfl) rfl (show rg _ from rx4) R
def f192 (M : Mm) (x1 : Int) (x2 : Int) (x3 : Int) : Option Int := l192 FU 4 M x1 x2 x3 10
theorem c192 {L : Nat} {xs : Nat → Int32} {h : mvH} {M : Mm} {x1 x2 x3 : Int} {v : Int} (R : rp h M) (rx1 : rg x1) (rx2 : rg x2) (rx3 : rg x3) (hs : f192 M x1 x2 x3 = some v) : evx L xs 1 192 0 [(0, .inr (.inr (.inl (some 53)))), (1, .inl (iz x1)), (2, .inl (iz x2)), (3, .inl (iz x3))] [] h (.inl (some (.inl v)), 0) M := by
  unfold f192 at hs
  refine evx_k (k := 10) E192 D192_0 rfl (by decide) ?_
  refine evx_F E192 D192_2 rfl rfl ?_
  show evx _ _ _ _ _ [(4, .inl (iz 10)), (0, .inr (.inr (.inl (some 53)))), (1, .inl (iz x1)), (2, .inl (iz x2)), (3, .inl (iz x3))] _ _ _ _
  exact evx_lv (lvLe_mk (fm rfl (fm rfl (fm rfl (fm rfl (fm rfl fn))))) (fm rfl (fm rfl (fm rfl (fm rfl (fm rfl fn))))) (fm rfl (fm rfl (fm rfl (fm rfl (fm rfl fn)))))) ((d192 FU) _ _ _ _ _ _ _ hs R rx1 rx2 rx3 (by decide))
set_option maxRecDepth 20000 in
theorem E195 : pgMm 195 = some (⟨"DictionaryHouseModel", "isClass", "(I)Z"⟩, prog_14_method_8_code, 2, (some .boolean), []) := rfl
theorem D195_0 : pgDecT 195 0 = some (.iload_n 1, 1) := by decide +kernel
theorem D195_1 : pgDecT 195 1 = some (.ifCond .lt 15, 3) := by decide +kernel
theorem D195_16 : pgDecT 195 16 = some (.iconst 0, 1) := by decide +kernel
theorem D195_17 : pgDecT 195 17 = some (.ireturn, 1) := by decide +kernel
theorem D195_4 : pgDecT 195 4 = some (.iload_n 1, 1) := by decide +kernel
theorem D195_5 : pgDecT 195 5 = some (.aload_n 0, 1) := by decide +kernel
theorem D195_6 : pgDecT 195 6 = some (.getfield 196, 3) := by decide +kernel
theorem F195_196 : pgFf 195 196 = some (12, 5, 0) := by decide +kernel
theorem D195_9 : pgDecT 195 9 = some (.if_icmp .ge 7, 3) := by decide +kernel
theorem D195_12 : pgDecT 195 12 = some (.iconst 1, 1) := by decide +kernel
theorem D195_13 : pgDecT 195 13 = some (.goto 4, 3) := by decide +kernel
/-! 195: DictionaryHouseModel.isClass (I)Z -/
def f195 (M : Mm) (x1 : Int) : Option Int := if x1 < 0 then (some 0) else (if (M 53 5) ≤ x1 then (some 0) else (some 1))
theorem c195 {L : Nat} {xs : Nat → Int32} {h : mvH} {M : Mm} {x1 : Int} {v : Int} (R : rp h M) (rx1 : rg x1) (hs : f195 M x1 = some v) : evx L xs 1 195 0 [(0, .inr (.inr (.inl (some 53)))), (1, .inl (iz x1))] [] h (.inl (some (.inl v)), 0) M := by
  unfold f195 at hs
  refine evx_F E195 D195_0 rfl rfl ?_
  by_cases cb1 : x1 < 0
  · rw [if_pos cb1] at hs
    refine evx_F E195 D195_1 rfl (ifT (c1_lt_T rx1 cb1)) ?_
    refine evx_F E195 D195_16 rfl rfl ?_
    cases hs
    exact evx_ret E195 D195_17 rfl (fun d => rfl) rfl (show rg _ from (by decide)) R
  · rw [if_neg cb1] at hs
    refine evx_F E195 D195_1 rfl (ifF (c1_lt_F rx1 (by omega))) ?_
    refine evx_F E195 D195_4 rfl rfl ?_
    refine evx_F E195 D195_5 rfl rfl ?_
    refine evx_gfi (k := 5) E195 D195_6 F195_196 H53 rfl R ?_
    by_cases cb2 : (M 53 5) ≤ x1
    · rw [if_pos cb2] at hs
      refine evx_F E195 D195_9 rfl (ifT (c2_ge_T rx1 (R.1 53 5) cb2)) ?_
      refine evx_F E195 D195_16 rfl rfl ?_
      cases hs
      exact evx_ret E195 D195_17 rfl (fun d => rfl) rfl (show rg _ from (by decide)) R
    · rw [if_neg cb2] at hs
      refine evx_F E195 D195_9 rfl (ifF (c2_ge_F rx1 (R.1 53 5) (by omega))) ?_
      refine evx_F E195 D195_12 rfl rfl ?_
      refine evx_F E195 D195_13 rfl rfl ?_
      cases hs
      exact evx_ret E195 D195_17 rfl (fun d => rfl) rfl (show rg _ from (by decide)) R
set_option maxRecDepth 20000 in
theorem E197 : pgMm 197 = some (⟨"DictionaryHouseModel", "variablesOf", "(I)I"⟩, prog_14_method_10_code, 3, (some .int), []) := rfl
theorem D197_0 : pgDecT 197 0 = some (.iconst 0, 1) := by decide +kernel
theorem D197_1 : pgDecT 197 1 = some (.istore_n 2, 1) := by decide +kernel
theorem D197_2 : pgDecT 197 2 = some (.iload_n 2, 1) := by decide +kernel
theorem D197_3 : pgDecT 197 3 = some (.iload_n 1, 1) := by decide +kernel
theorem D197_4 : pgDecT 197 4 = some (.if_icmp .gt 106, 3) := by decide +kernel
theorem D197_110 : pgDecT 197 110 = some (.aload_n 0, 1) := by decide +kernel
theorem D197_111 : pgDecT 197 111 = some (.getfield 91, 3) := by decide +kernel
theorem F197_91 : pgFf 197 91 = some (12, 33, 3) := by decide +kernel
theorem D197_114 : pgDecT 197 114 = some (.iload_n 1, 1) := by decide +kernel
theorem D197_115 : pgDecT 197 115 = some (.iaload, 1) := by decide +kernel
theorem D197_116 : pgDecT 197 116 = some (.ireturn, 1) := by decide +kernel
theorem D197_7 : pgDecT 197 7 = some (.aload_n 0, 1) := by decide +kernel
theorem D197_8 : pgDecT 197 8 = some (.getfield 7, 3) := by decide +kernel
theorem F197_7 : pgFf 197 7 = some (12, 2, 3) := by decide +kernel
theorem D197_11 : pgDecT 197 11 = some (.iload_n 2, 1) := by decide +kernel
theorem D197_12 : pgDecT 197 12 = some (.iaload, 1) := by decide +kernel
theorem D197_13 : pgDecT 197 13 = some (.iconst 3, 1) := by decide +kernel
theorem D197_14 : pgDecT 197 14 = some (.if_icmp .ne 23, 3) := by decide +kernel
theorem D197_37 : pgDecT 197 37 = some (.aload_n 0, 1) := by decide +kernel
theorem D197_38 : pgDecT 197 38 = some (.getfield 7, 3) := by decide +kernel
theorem D197_41 : pgDecT 197 41 = some (.iload_n 2, 1) := by decide +kernel
theorem D197_42 : pgDecT 197 42 = some (.iaload, 1) := by decide +kernel
theorem D197_43 : pgDecT 197 43 = some (.iconst 4, 1) := by decide +kernel
theorem D197_44 : pgDecT 197 44 = some (.if_icmp .ne 35, 3) := by decide +kernel
theorem D197_79 : pgDecT 197 79 = some (.aload_n 0, 1) := by decide +kernel
theorem D197_80 : pgDecT 197 80 = some (.getfield 91, 3) := by decide +kernel
theorem D197_83 : pgDecT 197 83 = some (.iload_n 2, 1) := by decide +kernel
theorem D197_84 : pgDecT 197 84 = some (.aload_n 0, 1) := by decide +kernel
theorem D197_85 : pgDecT 197 85 = some (.getfield 7, 3) := by decide +kernel
theorem D197_88 : pgDecT 197 88 = some (.iload_n 2, 1) := by decide +kernel
theorem D197_89 : pgDecT 197 89 = some (.iaload, 1) := by decide +kernel
theorem D197_90 : pgDecT 197 90 = some (.iconst 2, 1) := by decide +kernel
theorem D197_91 : pgDecT 197 91 = some (.if_icmp .ne 11, 3) := by decide +kernel
theorem D197_102 : pgDecT 197 102 = some (.iconst 0, 1) := by decide +kernel
theorem D197_103 : pgDecT 197 103 = some (.iastore, 1) := by decide +kernel
theorem D197_104 : pgDecT 197 104 = some (.iinc 2 1, 3) := by decide +kernel
theorem D197_107 : pgDecT 197 107 = some (.goto (-105), 3) := by decide +kernel
theorem D197_94 : pgDecT 197 94 = some (.iconst 1, 1) := by decide +kernel
theorem D197_95 : pgDecT 197 95 = some (.iload_n 2, 1) := by decide +kernel
theorem D197_96 : pgDecT 197 96 = some (.iconst 2, 1) := by decide +kernel
theorem D197_97 : pgDecT 197 97 = some (.isub, 1) := by decide +kernel
theorem D197_98 : pgDecT 197 98 = some (.ishl, 1) := by decide +kernel
theorem D197_99 : pgDecT 197 99 = some (.goto 4, 3) := by decide +kernel
theorem D197_47 : pgDecT 197 47 = some (.aload_n 0, 1) := by decide +kernel
theorem D197_48 : pgDecT 197 48 = some (.getfield 91, 3) := by decide +kernel
theorem D197_51 : pgDecT 197 51 = some (.iload_n 2, 1) := by decide +kernel
theorem D197_52 : pgDecT 197 52 = some (.aload_n 0, 1) := by decide +kernel
theorem D197_53 : pgDecT 197 53 = some (.getfield 91, 3) := by decide +kernel
theorem D197_56 : pgDecT 197 56 = some (.aload_n 0, 1) := by decide +kernel
theorem D197_57 : pgDecT 197 57 = some (.getfield 13, 3) := by decide +kernel
theorem F197_13 : pgFf 197 13 = some (12, 3, 3) := by decide +kernel
theorem D197_60 : pgDecT 197 60 = some (.iload_n 2, 1) := by decide +kernel
theorem D197_61 : pgDecT 197 61 = some (.iaload, 1) := by decide +kernel
theorem D197_62 : pgDecT 197 62 = some (.iaload, 1) := by decide +kernel
theorem D197_63 : pgDecT 197 63 = some (.aload_n 0, 1) := by decide +kernel
theorem D197_64 : pgDecT 197 64 = some (.getfield 91, 3) := by decide +kernel
theorem D197_67 : pgDecT 197 67 = some (.aload_n 0, 1) := by decide +kernel
theorem D197_68 : pgDecT 197 68 = some (.getfield 16, 3) := by decide +kernel
theorem F197_16 : pgFf 197 16 = some (12, 4, 3) := by decide +kernel
theorem D197_71 : pgDecT 197 71 = some (.iload_n 2, 1) := by decide +kernel
theorem D197_72 : pgDecT 197 72 = some (.iaload, 1) := by decide +kernel
theorem D197_73 : pgDecT 197 73 = some (.iaload, 1) := by decide +kernel
theorem D197_74 : pgDecT 197 74 = some (.ior, 1) := by decide +kernel
theorem D197_75 : pgDecT 197 75 = some (.iastore, 1) := by decide +kernel
theorem D197_76 : pgDecT 197 76 = some (.goto 28, 3) := by decide +kernel
theorem D197_17 : pgDecT 197 17 = some (.aload_n 0, 1) := by decide +kernel
theorem D197_18 : pgDecT 197 18 = some (.getfield 91, 3) := by decide +kernel
theorem D197_21 : pgDecT 197 21 = some (.iload_n 2, 1) := by decide +kernel
theorem D197_22 : pgDecT 197 22 = some (.aload_n 0, 1) := by decide +kernel
theorem D197_23 : pgDecT 197 23 = some (.getfield 91, 3) := by decide +kernel
theorem D197_26 : pgDecT 197 26 = some (.aload_n 0, 1) := by decide +kernel
theorem D197_27 : pgDecT 197 27 = some (.getfield 13, 3) := by decide +kernel
theorem D197_30 : pgDecT 197 30 = some (.iload_n 2, 1) := by decide +kernel
theorem D197_31 : pgDecT 197 31 = some (.iaload, 1) := by decide +kernel
theorem D197_32 : pgDecT 197 32 = some (.iaload, 1) := by decide +kernel
theorem D197_33 : pgDecT 197 33 = some (.iastore, 1) := by decide +kernel
theorem D197_34 : pgDecT 197 34 = some (.goto 70, 3) := by decide +kernel
/-! 197: DictionaryHouseModel.variablesOf (I)I -/
def l197 : Nat → Nat → Mm → Int → Int → Option (Int × Mm)
  | 0, _, _, _, _ => none
  | f + 1, 2, M, x1, x2 => if x1 < x2 then (if 0 ≤ x1 ∧ x1 < 4000 then (some ((M 80 (Int.toNat x1)), M)) else none) else (if 0 ≤ x2 ∧ x2 < 40 then (if ¬ (M 54 (Int.toNat x2)) = 3 then (if ¬ (M 54 (Int.toNat x2)) = 4 then (if ¬ (M 54 (Int.toNat x2)) = 2 then (if 0 ≤ x2 ∧ x2 < 4000 then (if rg (x2 + 1) then (l197 f 2 (up M 80 (Int.toNat x2) 0) x1 (x2 + 1)) else none) else none) else (if 0 ≤ x2 ∧ x2 < 4000 then (if rg (x2 + 1) then (l197 f 2 (up M 80 (Int.toNat x2) (bShl 1 (x2 - 2))) x1 (x2 + 1)) else none) else none)) else (if 0 ≤ (M 55 (Int.toNat x2)) ∧ (M 55 (Int.toNat x2)) < 4000 then (if 0 ≤ (M 56 (Int.toNat x2)) ∧ (M 56 (Int.toNat x2)) < 4000 then (if 0 ≤ x2 ∧ x2 < 4000 then (if rg (x2 + 1) then (l197 f 2 (up M 80 (Int.toNat x2) (bOr (M 80 (Int.toNat (M 55 (Int.toNat x2)))) (M 80 (Int.toNat (M 56 (Int.toNat x2)))))) x1 (x2 + 1)) else none) else none) else none) else none)) else (if 0 ≤ (M 55 (Int.toNat x2)) ∧ (M 55 (Int.toNat x2)) < 4000 then (if 0 ≤ x2 ∧ x2 < 4000 then (if rg (x2 + 1) then (l197 f 2 (up M 80 (Int.toNat x2) (M 80 (Int.toNat (M 55 (Int.toNat x2))))) x1 (x2 + 1)) else none) else none) else none)) else none)
  | _, _, _, _, _ => none
theorem d197 {L : Nat} {xs : Nat → Int32} (f : Nat) : (∀ (M : Mm) (x1 x2 : Int) (h : mvH) (v : Int) (M' : Mm), l197 f 2 M x1 x2 = some (v, M') → rp h M → rg x1 → rg x2 → evx L xs 1 197 2 [(0, .inr (.inr (.inl (some 53)))), (1, .inl (iz x1)), (2, .inl (iz x2))] [] h (.inl (some (.inl v)), 0) M') := by
  induction f with
  | zero => exact (fun M x1 x2 h v M' hs _ _ _ => by cases hs)
  | succ f ih =>
    intro M x1 x2 h v M' hs R rx1 rx2
    rw [l197] at hs
    refine evx_F E197 D197_2 rfl rfl ?_
    refine evx_F E197 D197_3 rfl rfl ?_
    by_cases cb1 : x1 < x2
    · rw [if_pos cb1] at hs
      refine evx_F E197 D197_4 rfl (ifT (c2_gt_T rx2 rx1 cb1)) ?_
      refine evx_F E197 D197_110 rfl rfl ?_
      refine evx_gfr E197 D197_111 F197_91 H53 rfl R ?_
      refine evx_F E197 D197_114 rfl rfl ?_
      obtain ⟨k2, hs⟩ := ck hs
      refine evx_ial E197 D197_115 H80 (by decide) R k2 ?_
      cases hs
      exact evx_ret E197 D197_116 rfl (fun d => rfl) rfl (show rg _ from (R.1 80 (Int.toNat x1))) R
    · rw [if_neg cb1] at hs
      refine evx_F E197 D197_4 rfl (ifF (c2_gt_F rx2 rx1 (by omega))) ?_
      refine evx_F E197 D197_7 rfl rfl ?_
      refine evx_gfr E197 D197_8 F197_7 H53 rfl R ?_
      refine evx_F E197 D197_11 rfl rfl ?_
      obtain ⟨k3, hs⟩ := ck hs
      refine evx_ial E197 D197_12 H54 (by decide) R k3 ?_
      refine evx_F E197 D197_13 rfl rfl ?_
      by_cases cb4 : ¬ (M 54 (Int.toNat x2)) = 3
      · rw [if_pos cb4] at hs
        refine evx_F E197 D197_14 rfl (ifT (c2_ne_T (R.1 54 (Int.toNat x2)) (by decide) cb4)) ?_
        refine evx_F E197 D197_37 rfl rfl ?_
        refine evx_gfr E197 D197_38 F197_7 H53 rfl R ?_
        refine evx_F E197 D197_41 rfl rfl ?_
        refine evx_ial E197 D197_42 H54 (by decide) R k3 ?_
        refine evx_F E197 D197_43 rfl rfl ?_
        by_cases cb5 : ¬ (M 54 (Int.toNat x2)) = 4
        · rw [if_pos cb5] at hs
          refine evx_F E197 D197_44 rfl (ifT (c2_ne_T (R.1 54 (Int.toNat x2)) (by decide) cb5)) ?_
          refine evx_F E197 D197_79 rfl rfl ?_
          refine evx_gfr E197 D197_80 F197_91 H53 rfl R ?_
          refine evx_F E197 D197_83 rfl rfl ?_
          refine evx_F E197 D197_84 rfl rfl ?_
          refine evx_gfr E197 D197_85 F197_7 H53 rfl R ?_
          refine evx_F E197 D197_88 rfl rfl ?_
          refine evx_ial E197 D197_89 H54 (by decide) R k3 ?_
          refine evx_F E197 D197_90 rfl rfl ?_
          by_cases cb6 : ¬ (M 54 (Int.toNat x2)) = 2
          · rw [if_pos cb6] at hs
            refine evx_F E197 D197_91 rfl (ifT (c2_ne_T (R.1 54 (Int.toNat x2)) (by decide) cb6)) ?_
            refine evx_F E197 D197_102 rfl rfl ?_
            obtain ⟨k7, hs⟩ := ck hs
            refine evx_ias E197 D197_103 H80 (by decide) R k7 (by decide) ?_
            intro h8 R9
            refine evx_inc E197 D197_104 (Nat.le_of_ble_eq_true rfl) rfl ?_
            refine evx_F E197 D197_107 rfl rfl ?_
            obtain ⟨k10, hs⟩ := ck hs
            show evx _ _ _ _ _ [(2, .inl (iz (x2 + 1))), (0, .inr (.inr (.inl (some 53)))), (1, .inl (iz x1))] _ _ _ _
            exact evx_lv (lvLe_mk (fm rfl (fm rfl (fm rfl fn))) (fm rfl (fm rfl (fm rfl fn))) (fm rfl (fm rfl (fm rfl fn)))) (ih _ _ _ _ _ _ hs R9 rx1 k10)
          · rw [if_neg cb6] at hs
            refine evx_F E197 D197_91 rfl (ifF (c2_ne_F (R.1 54 (Int.toNat x2)) (by decide) (by omega))) ?_
            refine evx_F E197 D197_94 rfl rfl ?_
            refine evx_F E197 D197_95 rfl rfl ?_
            refine evx_F E197 D197_96 rfl rfl ?_
            refine evx_sub E197 D197_97 ?_
            refine evx_ishl E197 D197_98 ?_
            refine evx_F E197 D197_99 rfl rfl ?_
            obtain ⟨k11, hs⟩ := ck hs
            refine evx_ias E197 D197_103 H80 (by decide) R k11 (iz_rg _) ?_
            intro h12 R13
            refine evx_inc E197 D197_104 (Nat.le_of_ble_eq_true rfl) rfl ?_
            refine evx_F E197 D197_107 rfl rfl ?_
            obtain ⟨k14, hs⟩ := ck hs
            show evx _ _ _ _ _ [(2, .inl (iz (x2 + 1))), (0, .inr (.inr (.inl (some 53)))), (1, .inl (iz x1))] _ _ _ _
            exact evx_lv (lvLe_mk (fm rfl (fm rfl (fm rfl fn))) (fm rfl (fm rfl (fm rfl fn))) (fm rfl (fm rfl (fm rfl fn)))) (ih _ _ _ _ _ _ hs R13 rx1 k14)
        · rw [if_neg cb5] at hs
          refine evx_F E197 D197_44 rfl (ifF (c2_ne_F (R.1 54 (Int.toNat x2)) (by decide) (by omega))) ?_
          refine evx_F E197 D197_47 rfl rfl ?_
          refine evx_gfr E197 D197_48 F197_91 H53 rfl R ?_
          refine evx_F E197 D197_51 rfl rfl ?_
          refine evx_F E197 D197_52 rfl rfl ?_
          refine evx_gfr E197 D197_53 F197_91 H53 rfl R ?_
          refine evx_F E197 D197_56 rfl rfl ?_
          refine evx_gfr E197 D197_57 F197_13 H53 rfl R ?_
          refine evx_F E197 D197_60 rfl rfl ?_
          refine evx_ial E197 D197_61 H55 (by decide) R k3 ?_
          obtain ⟨k15, hs⟩ := ck hs
          refine evx_ial E197 D197_62 H80 (by decide) R k15 ?_
          refine evx_F E197 D197_63 rfl rfl ?_
          refine evx_gfr E197 D197_64 F197_91 H53 rfl R ?_
          refine evx_F E197 D197_67 rfl rfl ?_
          refine evx_gfr E197 D197_68 F197_16 H53 rfl R ?_
          refine evx_F E197 D197_71 rfl rfl ?_
          refine evx_ial E197 D197_72 H56 (by decide) R k3 ?_
          obtain ⟨k16, hs⟩ := ck hs
          refine evx_ial E197 D197_73 H80 (by decide) R k16 ?_
          refine evx_ior E197 D197_74 ?_
          obtain ⟨k17, hs⟩ := ck hs
          refine evx_ias E197 D197_75 H80 (by decide) R k17 (iz_rg _) ?_
          intro h18 R19
          refine evx_F E197 D197_76 rfl rfl ?_
          refine evx_inc E197 D197_104 (Nat.le_of_ble_eq_true rfl) rfl ?_
          refine evx_F E197 D197_107 rfl rfl ?_
          obtain ⟨k20, hs⟩ := ck hs
          show evx _ _ _ _ _ [(2, .inl (iz (x2 + 1))), (0, .inr (.inr (.inl (some 53)))), (1, .inl (iz x1))] _ _ _ _
          exact evx_lv (lvLe_mk (fm rfl (fm rfl (fm rfl fn))) (fm rfl (fm rfl (fm rfl fn))) (fm rfl (fm rfl (fm rfl fn)))) (ih _ _ _ _ _ _ hs R19 rx1 k20)
      · rw [if_neg cb4] at hs
        refine evx_F E197 D197_14 rfl (ifF (c2_ne_F (R.1 54 (Int.toNat x2)) (by decide) (by omega))) ?_
        refine evx_F E197 D197_17 rfl rfl ?_
        refine evx_gfr E197 D197_18 F197_91 H53 rfl R ?_
        refine evx_F E197 D197_21 rfl rfl ?_
        refine evx_F E197 D197_22 rfl rfl ?_
        refine evx_gfr E197 D197_23 F197_91 H53 rfl R ?_
        refine evx_F E197 D197_26 rfl rfl ?_
        refine evx_gfr E197 D197_27 F197_13 H53 rfl R ?_
        refine evx_F E197 D197_30 rfl rfl ?_
        refine evx_ial E197 D197_31 H55 (by decide) R k3 ?_
        obtain ⟨k21, hs⟩ := ck hs
        refine evx_ial E197 D197_32 H80 (by decide) R k21 ?_
        obtain ⟨k22, hs⟩ := ck hs
        refine evx_ias E197 D197_33 H80 (by decide) R k22 (R.1 80 (Int.toNat (M 55 (Int.toNat x2)))) ?_
        intro h23 R24
        refine evx_F E197 D197_34 rfl rfl ?_
        refine evx_inc E197 D197_104 (Nat.le_of_ble_eq_true rfl) rfl ?_
        refine evx_F E197 D197_107 rfl rfl ?_
        obtain ⟨k25, hs⟩ := ck hs
        show evx _ _ _ _ _ [(2, .inl (iz (x2 + 1))), (0, .inr (.inr (.inl (some 53)))), (1, .inl (iz x1))] _ _ _ _
        exact evx_lv (lvLe_mk (fm rfl (fm rfl (fm rfl fn))) (fm rfl (fm rfl (fm rfl fn))) (fm rfl (fm rfl (fm rfl fn)))) (ih _ _ _ _ _ _ hs R24 rx1 k25)
def f197 (M : Mm) (x1 : Int) : Option (Int × Mm) := l197 FU 2 M x1 0
theorem c197 {L : Nat} {xs : Nat → Int32} {h : mvH} {M : Mm} {x1 : Int} {v : Int} {M' : Mm} (R : rp h M) (rx1 : rg x1) (hs : f197 M x1 = some (v, M')) : evx L xs 1 197 0 [(0, .inr (.inr (.inl (some 53)))), (1, .inl (iz x1))] [] h (.inl (some (.inl v)), 0) M' := by
  unfold f197 at hs
  refine evx_F E197 D197_0 rfl rfl ?_
  refine evx_F E197 D197_1 rfl rfl ?_
  show evx _ _ _ _ _ [(2, .inl (iz 0)), (0, .inr (.inr (.inl (some 53)))), (1, .inl (iz x1))] _ _ _ _
  exact evx_lv (lvLe_mk (fm rfl (fm rfl (fm rfl fn))) (fm rfl (fm rfl (fm rfl fn))) (fm rfl (fm rfl (fm rfl fn)))) ((d197 FU) _ _ _ _ _ _ hs R rx1 (by decide))
set_option maxRecDepth 20000 in
theorem E198 : pgMm 198 = some (⟨"DictionaryHouseModel", "hasInstance", "(I)Z"⟩, prog_14_method_11_code, 2, (some .boolean), []) := rfl
theorem D198_0 : pgDecT 198 0 = some (.aload_n 0, 1) := by decide +kernel
theorem D198_1 : pgDecT 198 1 = some (.getfield 28, 3) := by decide +kernel
theorem F198_28 : pgFf 198 28 = some (12, 9, 3) := by decide +kernel
theorem D198_4 : pgDecT 198 4 = some (.iconst 3, 1) := by decide +kernel
theorem D198_5 : pgDecT 198 5 = some (.iload_n 1, 1) := by decide +kernel
theorem D198_6 : pgDecT 198 6 = some (.imul, 1) := by decide +kernel
theorem D198_7 : pgDecT 198 7 = some (.baload, 1) := by decide +kernel
theorem D198_8 : pgDecT 198 8 = some (.ifCond .ne 29, 3) := by decide +kernel
theorem D198_37 : pgDecT 198 37 = some (.iconst 1, 1) := by decide +kernel
theorem D198_38 : pgDecT 198 38 = some (.goto 4, 3) := by decide +kernel
theorem D198_42 : pgDecT 198 42 = some (.ireturn, 1) := by decide +kernel
theorem D198_11 : pgDecT 198 11 = some (.aload_n 0, 1) := by decide +kernel
theorem D198_12 : pgDecT 198 12 = some (.getfield 28, 3) := by decide +kernel
theorem D198_15 : pgDecT 198 15 = some (.iconst 3, 1) := by decide +kernel
theorem D198_16 : pgDecT 198 16 = some (.iload_n 1, 1) := by decide +kernel
theorem D198_17 : pgDecT 198 17 = some (.imul, 1) := by decide +kernel
theorem D198_18 : pgDecT 198 18 = some (.iconst 1, 1) := by decide +kernel
theorem D198_19 : pgDecT 198 19 = some (.iadd, 1) := by decide +kernel
theorem D198_20 : pgDecT 198 20 = some (.baload, 1) := by decide +kernel
theorem D198_21 : pgDecT 198 21 = some (.ifCond .ne 16, 3) := by decide +kernel
theorem D198_24 : pgDecT 198 24 = some (.aload_n 0, 1) := by decide +kernel
theorem D198_25 : pgDecT 198 25 = some (.getfield 28, 3) := by decide +kernel
theorem D198_28 : pgDecT 198 28 = some (.iconst 3, 1) := by decide +kernel
theorem D198_29 : pgDecT 198 29 = some (.iload_n 1, 1) := by decide +kernel
theorem D198_30 : pgDecT 198 30 = some (.imul, 1) := by decide +kernel
theorem D198_31 : pgDecT 198 31 = some (.iconst 2, 1) := by decide +kernel
theorem D198_32 : pgDecT 198 32 = some (.iadd, 1) := by decide +kernel
theorem D198_33 : pgDecT 198 33 = some (.baload, 1) := by decide +kernel
theorem D198_34 : pgDecT 198 34 = some (.ifCond .eq 7, 3) := by decide +kernel
theorem D198_41 : pgDecT 198 41 = some (.iconst 0, 1) := by decide +kernel
/-! 198: DictionaryHouseModel.hasInstance (I)Z -/
def f198 (M : Mm) (x1 : Int) : Option Int := if 0 ≤ ((3 : Int) * x1) ∧ ((3 : Int) * x1) < 18 then (if ¬ (M 60 (Int.toNat ((3 : Int) * x1))) = 0 then (some 1) else (if 0 ≤ (((3 : Int) * x1) + 1) ∧ (((3 : Int) * x1) + 1) < 18 then (if ¬ (M 60 (Int.toNat (((3 : Int) * x1) + 1))) = 0 then (some 1) else (if 0 ≤ (((3 : Int) * x1) + 2) ∧ (((3 : Int) * x1) + 2) < 18 then (if (M 60 (Int.toNat (((3 : Int) * x1) + 2))) = 0 then (some 0) else (some 1)) else none)) else none)) else none
theorem c198 {L : Nat} {xs : Nat → Int32} {h : mvH} {M : Mm} {x1 : Int} {v : Int} (R : rp h M) (rx1 : rg x1) (hs : f198 M x1 = some v) : evx L xs 1 198 0 [(0, .inr (.inr (.inl (some 53)))), (1, .inl (iz x1))] [] h (.inl (some (.inl v)), 0) M := by
  unfold f198 at hs
  refine evx_F E198 D198_0 rfl rfl ?_
  refine evx_gfr E198 D198_1 F198_28 H53 rfl R ?_
  refine evx_F E198 D198_4 rfl rfl ?_
  refine evx_F E198 D198_5 rfl rfl ?_
  refine evx_mul E198 D198_6 ?_
  obtain ⟨k1, hs⟩ := ck hs
  refine evx_bal E198 D198_7 H60 (by decide) R k1 ?_
  by_cases cb2 : ¬ (M 60 (Int.toNat ((3 : Int) * x1))) = 0
  · rw [if_pos cb2] at hs
    refine evx_F E198 D198_8 rfl (ifT (c1_ne_T (R.1 60 (Int.toNat ((3 : Int) * x1))) cb2)) ?_
    refine evx_F E198 D198_37 rfl rfl ?_
    refine evx_F E198 D198_38 rfl rfl ?_
    cases hs
    exact evx_ret E198 D198_42 rfl (fun d => rfl) rfl (show rg _ from (by decide)) R
  · rw [if_neg cb2] at hs
    refine evx_F E198 D198_8 rfl (ifF (c1_ne_F (R.1 60 (Int.toNat ((3 : Int) * x1))) (by omega))) ?_
    refine evx_F E198 D198_11 rfl rfl ?_
    refine evx_gfr E198 D198_12 F198_28 H53 rfl R ?_
    refine evx_F E198 D198_15 rfl rfl ?_
    refine evx_F E198 D198_16 rfl rfl ?_
    refine evx_mul E198 D198_17 ?_
    refine evx_F E198 D198_18 rfl rfl ?_
    refine evx_add E198 D198_19 ?_
    obtain ⟨k3, hs⟩ := ck hs
    refine evx_bal E198 D198_20 H60 (by decide) R k3 ?_
    by_cases cb4 : ¬ (M 60 (Int.toNat (((3 : Int) * x1) + 1))) = 0
    · rw [if_pos cb4] at hs
      refine evx_F E198 D198_21 rfl (ifT (c1_ne_T (R.1 60 (Int.toNat (((3 : Int) * x1) + 1))) cb4)) ?_
      refine evx_F E198 D198_37 rfl rfl ?_
      refine evx_F E198 D198_38 rfl rfl ?_
      cases hs
      exact evx_ret E198 D198_42 rfl (fun d => rfl) rfl (show rg _ from (by decide)) R
    · rw [if_neg cb4] at hs
      refine evx_F E198 D198_21 rfl (ifF (c1_ne_F (R.1 60 (Int.toNat (((3 : Int) * x1) + 1))) (by omega))) ?_
      refine evx_F E198 D198_24 rfl rfl ?_
      refine evx_gfr E198 D198_25 F198_28 H53 rfl R ?_
      refine evx_F E198 D198_28 rfl rfl ?_
      refine evx_F E198 D198_29 rfl rfl ?_
      refine evx_mul E198 D198_30 ?_
      refine evx_F E198 D198_31 rfl rfl ?_
      refine evx_add E198 D198_32 ?_
      obtain ⟨k5, hs⟩ := ck hs
      refine evx_bal E198 D198_33 H60 (by decide) R k5 ?_
      by_cases cb6 : (M 60 (Int.toNat (((3 : Int) * x1) + 2))) = 0
      · rw [if_pos cb6] at hs
        refine evx_F E198 D198_34 rfl (ifT (c1_eq_T (R.1 60 (Int.toNat (((3 : Int) * x1) + 2))) cb6)) ?_
        refine evx_F E198 D198_41 rfl rfl ?_
        cases hs
        exact evx_ret E198 D198_42 rfl (fun d => rfl) rfl (show rg _ from (by decide)) R
      · rw [if_neg cb6] at hs
        refine evx_F E198 D198_34 rfl (ifF (c1_eq_F (R.1 60 (Int.toNat (((3 : Int) * x1) + 2))) (by omega))) ?_
        refine evx_F E198 D198_37 rfl rfl ?_
        refine evx_F E198 D198_38 rfl rfl ?_
        cases hs
        exact evx_ret E198 D198_42 rfl (fun d => rfl) rfl (show rg _ from (by decide)) R
set_option maxRecDepth 20000 in
theorem E199 : pgMm 199 = some (⟨"DictionaryHouseModel", "is", "(II)Z"⟩, prog_14_method_14_code, 6, (some .boolean), []) := rfl
theorem D199_0 : pgDecT 199 0 = some (.aload_n 0, 1) := by decide +kernel
theorem D199_1 : pgDecT 199 1 = some (.aload_n 0, 1) := by decide +kernel
theorem D199_2 : pgDecT 199 2 = some (.iload_n 1, 1) := by decide +kernel
theorem D199_3 : pgDecT 199 3 = some (.invokevirtual 199, 3) := by decide +kernel
theorem I199_199 : pgIi 199 199 = some (195, 1, 12) := by decide +kernel
theorem D199_6 : pgDecT 199 6 = some (.ifCond .eq 15, 3) := by decide +kernel
theorem D199_21 : pgDecT 199 21 = some (.iconst 1, 1) := by decide +kernel
theorem D199_22 : pgDecT 199 22 = some (.putfield 182, 3) := by decide +kernel
theorem F199_182 : pgFf 199 182 = some (12, 0, 0) := by decide +kernel
theorem D199_25 : pgDecT 199 25 = some (.aload_n 0, 1) := by decide +kernel
theorem D199_26 : pgDecT 199 26 = some (.getfield 182, 3) := by decide +kernel
theorem D199_29 : pgDecT 199 29 = some (.ifCond .eq 5, 3) := by decide +kernel
theorem D199_32 : pgDecT 199 32 = some (.iconst 0, 1) := by decide +kernel
theorem D199_33 : pgDecT 199 33 = some (.ireturn, 1) := by decide +kernel
theorem D199_9 : pgDecT 199 9 = some (.aload_n 0, 1) := by decide +kernel
theorem D199_10 : pgDecT 199 10 = some (.iload_n 2, 1) := by decide +kernel
theorem D199_11 : pgDecT 199 11 = some (.invokevirtual 189, 3) := by decide +kernel
theorem I199_189 : pgIi 199 189 = some (190, 1, 12) := by decide +kernel
theorem D199_14 : pgDecT 199 14 = some (.ifCond .eq 7, 3) := by decide +kernel
theorem D199_17 : pgDecT 199 17 = some (.iconst 0, 1) := by decide +kernel
theorem D199_18 : pgDecT 199 18 = some (.goto 4, 3) := by decide +kernel
theorem D199_34 : pgDecT 199 34 = some (.iload_n 1, 1) := by decide +kernel
theorem D199_35 : pgDecT 199 35 = some (.istore_n 3, 1) := by decide +kernel
theorem D199_36 : pgDecT 199 36 = some (.iload_n 2, 1) := by decide +kernel
theorem D199_37 : pgDecT 199 37 = some (.istore 4, 2) := by decide +kernel
theorem D199_39 : pgDecT 199 39 = some (.aload_n 0, 1) := by decide +kernel
theorem D199_40 : pgDecT 199 40 = some (.getfield 7, 3) := by decide +kernel
theorem F199_7 : pgFf 199 7 = some (12, 2, 3) := by decide +kernel
theorem D199_43 : pgDecT 199 43 = some (.iload 4, 2) := by decide +kernel
theorem D199_45 : pgDecT 199 45 = some (.iaload, 1) := by decide +kernel
theorem D199_46 : pgDecT 199 46 = some (.iconst 3, 1) := by decide +kernel
theorem D199_47 : pgDecT 199 47 = some (.if_icmp .ne 53, 3) := by decide +kernel
theorem D199_100 : pgDecT 199 100 = some (.aload_n 0, 1) := by decide +kernel
theorem D199_101 : pgDecT 199 101 = some (.getfield 7, 3) := by decide +kernel
theorem D199_104 : pgDecT 199 104 = some (.iload 4, 2) := by decide +kernel
theorem D199_106 : pgDecT 199 106 = some (.iaload, 1) := by decide +kernel
theorem D199_107 : pgDecT 199 107 = some (.istore 5, 2) := by decide +kernel
theorem D199_109 : pgDecT 199 109 = some (.iload 5, 2) := by decide +kernel
theorem D199_111 : pgDecT 199 111 = some (.iconst 3, 1) := by decide +kernel
theorem D199_112 : pgDecT 199 112 = some (.if_icmp .ne 16, 3) := by decide +kernel
theorem D199_128 : pgDecT 199 128 = some (.iload 5, 2) := by decide +kernel
theorem D199_130 : pgDecT 199 130 = some (.iconst 2, 1) := by decide +kernel
theorem D199_131 : pgDecT 199 131 = some (.if_icmp .ge 21, 3) := by decide +kernel
theorem D199_152 : pgDecT 199 152 = some (.iconst 0, 1) := by decide +kernel
theorem D199_153 : pgDecT 199 153 = some (.ireturn, 1) := by decide +kernel
theorem D199_134 : pgDecT 199 134 = some (.aload_n 0, 1) := by decide +kernel
theorem D199_135 : pgDecT 199 135 = some (.getfield 28, 3) := by decide +kernel
theorem F199_28 : pgFf 199 28 = some (12, 9, 3) := by decide +kernel
theorem D199_138 : pgDecT 199 138 = some (.iconst 3, 1) := by decide +kernel
theorem D199_139 : pgDecT 199 139 = some (.iload_n 3, 1) := by decide +kernel
theorem D199_140 : pgDecT 199 140 = some (.imul, 1) := by decide +kernel
theorem D199_141 : pgDecT 199 141 = some (.iload 5, 2) := by decide +kernel
theorem D199_143 : pgDecT 199 143 = some (.iadd, 1) := by decide +kernel
theorem D199_144 : pgDecT 199 144 = some (.baload, 1) := by decide +kernel
theorem D199_145 : pgDecT 199 145 = some (.ifCond .eq 7, 3) := by decide +kernel
theorem D199_148 : pgDecT 199 148 = some (.iconst 1, 1) := by decide +kernel
theorem D199_149 : pgDecT 199 149 = some (.goto 4, 3) := by decide +kernel
theorem D199_115 : pgDecT 199 115 = some (.aload_n 0, 1) := by decide +kernel
theorem D199_116 : pgDecT 199 116 = some (.getfield 28, 3) := by decide +kernel
theorem D199_119 : pgDecT 199 119 = some (.iconst 3, 1) := by decide +kernel
theorem D199_120 : pgDecT 199 120 = some (.iload_n 3, 1) := by decide +kernel
theorem D199_121 : pgDecT 199 121 = some (.imul, 1) := by decide +kernel
theorem D199_122 : pgDecT 199 122 = some (.iconst 2, 1) := by decide +kernel
theorem D199_123 : pgDecT 199 123 = some (.iadd, 1) := by decide +kernel
theorem D199_124 : pgDecT 199 124 = some (.baload, 1) := by decide +kernel
theorem D199_125 : pgDecT 199 125 = some (.goto 28, 3) := by decide +kernel
theorem D199_50 : pgDecT 199 50 = some (.aload_n 0, 1) := by decide +kernel
theorem D199_51 : pgDecT 199 51 = some (.getfield 28, 3) := by decide +kernel
theorem D199_54 : pgDecT 199 54 = some (.iconst 3, 1) := by decide +kernel
theorem D199_55 : pgDecT 199 55 = some (.iload_n 3, 1) := by decide +kernel
theorem D199_56 : pgDecT 199 56 = some (.imul, 1) := by decide +kernel
theorem D199_57 : pgDecT 199 57 = some (.iconst 2, 1) := by decide +kernel
theorem D199_58 : pgDecT 199 58 = some (.iadd, 1) := by decide +kernel
theorem D199_59 : pgDecT 199 59 = some (.baload, 1) := by decide +kernel
theorem D199_60 : pgDecT 199 60 = some (.ifCond .eq 40, 3) := by decide +kernel
theorem D199_63 : pgDecT 199 63 = some (.aload_n 0, 1) := by decide +kernel
theorem D199_64 : pgDecT 199 64 = some (.getfield 32, 3) := by decide +kernel
theorem F199_32 : pgFf 199 32 = some (12, 10, 3) := by decide +kernel
theorem D199_67 : pgDecT 199 67 = some (.iconst 3, 1) := by decide +kernel
theorem D199_68 : pgDecT 199 68 = some (.iload_n 3, 1) := by decide +kernel
theorem D199_69 : pgDecT 199 69 = some (.imul, 1) := by decide +kernel
theorem D199_70 : pgDecT 199 70 = some (.iconst 2, 1) := by decide +kernel
theorem D199_71 : pgDecT 199 71 = some (.iadd, 1) := by decide +kernel
theorem D199_72 : pgDecT 199 72 = some (.iaload, 1) := by decide +kernel
theorem D199_73 : pgDecT 199 73 = some (.iconst (-1), 1) := by decide +kernel
theorem D199_74 : pgDecT 199 74 = some (.if_icmp .eq 26, 3) := by decide +kernel
theorem D199_77 : pgDecT 199 77 = some (.aload_n 0, 1) := by decide +kernel
theorem D199_78 : pgDecT 199 78 = some (.getfield 32, 3) := by decide +kernel
theorem D199_81 : pgDecT 199 81 = some (.iconst 3, 1) := by decide +kernel
theorem D199_82 : pgDecT 199 82 = some (.iload_n 3, 1) := by decide +kernel
theorem D199_83 : pgDecT 199 83 = some (.imul, 1) := by decide +kernel
theorem D199_84 : pgDecT 199 84 = some (.iconst 2, 1) := by decide +kernel
theorem D199_85 : pgDecT 199 85 = some (.iadd, 1) := by decide +kernel
theorem D199_86 : pgDecT 199 86 = some (.iaload, 1) := by decide +kernel
theorem D199_87 : pgDecT 199 87 = some (.istore_n 3, 1) := by decide +kernel
theorem D199_88 : pgDecT 199 88 = some (.aload_n 0, 1) := by decide +kernel
theorem D199_89 : pgDecT 199 89 = some (.getfield 13, 3) := by decide +kernel
theorem F199_13 : pgFf 199 13 = some (12, 3, 3) := by decide +kernel
theorem D199_92 : pgDecT 199 92 = some (.iload 4, 2) := by decide +kernel
theorem D199_94 : pgDecT 199 94 = some (.iaload, 1) := by decide +kernel
theorem D199_95 : pgDecT 199 95 = some (.istore 4, 2) := by decide +kernel
theorem D199_97 : pgDecT 199 97 = some (.goto (-58), 3) := by decide +kernel
/-! 199: DictionaryHouseModel.is (II)Z -/
def l199 : Nat → Nat → Mm → Int → Int → Int → Int → Option (Int × Mm)
  | 0, _, _, _, _, _, _ => none
  | f + 1, 39, M, x1, x2, x3, x4 => if 0 ≤ x4 ∧ x4 < 40 then (if ¬ (M 54 (Int.toNat x4)) = 3 then (if ¬ (M 54 (Int.toNat x4)) = 3 then (if 2 ≤ (M 54 (Int.toNat x4)) then (some (0, M)) else (if 0 ≤ (((3 : Int) * x3) + (M 54 (Int.toNat x4))) ∧ (((3 : Int) * x3) + (M 54 (Int.toNat x4))) < 18 then (if (M 60 (Int.toNat (((3 : Int) * x3) + (M 54 (Int.toNat x4))))) = 0 then (some (0, M)) else (some (1, M))) else none)) else (if 0 ≤ (((3 : Int) * x3) + 2) ∧ (((3 : Int) * x3) + 2) < 18 then (if (M 60 (Int.toNat (((3 : Int) * x3) + 2))) = 0 ∨ (M 60 (Int.toNat (((3 : Int) * x3) + 2))) = 1 then (some ((M 60 (Int.toNat (((3 : Int) * x3) + 2))), M)) else none) else none)) else (if 0 ≤ (((3 : Int) * x3) + 2) ∧ (((3 : Int) * x3) + 2) < 18 then (if (M 60 (Int.toNat (((3 : Int) * x3) + 2))) = 0 then (if ¬ (M 54 (Int.toNat x4)) = 3 then (if 2 ≤ (M 54 (Int.toNat x4)) then (some (0, M)) else (if 0 ≤ (((3 : Int) * x3) + (M 54 (Int.toNat x4))) ∧ (((3 : Int) * x3) + (M 54 (Int.toNat x4))) < 18 then (if (M 60 (Int.toNat (((3 : Int) * x3) + (M 54 (Int.toNat x4))))) = 0 then (some (0, M)) else (some (1, M))) else none)) else (if (M 60 (Int.toNat (((3 : Int) * x3) + 2))) = 0 ∨ (M 60 (Int.toNat (((3 : Int) * x3) + 2))) = 1 then (some ((M 60 (Int.toNat (((3 : Int) * x3) + 2))), M)) else none)) else (if (M 61 (Int.toNat (((3 : Int) * x3) + 2))) = (-1) then (if ¬ (M 54 (Int.toNat x4)) = 3 then (if 2 ≤ (M 54 (Int.toNat x4)) then (some (0, M)) else (if 0 ≤ (((3 : Int) * x3) + (M 54 (Int.toNat x4))) ∧ (((3 : Int) * x3) + (M 54 (Int.toNat x4))) < 18 then (if (M 60 (Int.toNat (((3 : Int) * x3) + (M 54 (Int.toNat x4))))) = 0 then (some (0, M)) else (some (1, M))) else none)) else (if (M 60 (Int.toNat (((3 : Int) * x3) + 2))) = 0 ∨ (M 60 (Int.toNat (((3 : Int) * x3) + 2))) = 1 then (some ((M 60 (Int.toNat (((3 : Int) * x3) + 2))), M)) else none)) else (l199 f 39 M x1 x2 (M 61 (Int.toNat (((3 : Int) * x3) + 2))) (M 55 (Int.toNat x4))))) else none)) else none
  | _, _, _, _, _, _, _ => none
theorem d199 {L : Nat} {xs : Nat → Int32} (f : Nat) : (∀ (M : Mm) (x1 x2 x3 x4 : Int) (h : mvH) (v : Int) (M' : Mm), l199 f 39 M x1 x2 x3 x4 = some (v, M') → rp h M → rg x1 → rg x2 → rg x3 → rg x4 → evx L xs 2 199 39 [(0, .inr (.inr (.inl (some 53)))), (1, .inl (iz x1)), (2, .inl (iz x2)), (3, .inl (iz x3)), (4, .inl (iz x4))] [] h (.inl (some (.inl v)), 0) M') := by
  induction f with
  | zero => exact (fun M x1 x2 x3 x4 h v M' hs _ _ _ _ _ => by cases hs)
  | succ f ih =>
    intro M x1 x2 x3 x4 h v M' hs R rx1 rx2 rx3 rx4
    rw [l199] at hs
    refine evx_F E199 D199_39 rfl rfl ?_
    refine evx_gfr E199 D199_40 F199_7 H53 rfl R ?_
    refine evx_F E199 D199_43 rfl rfl ?_
    obtain ⟨k19, hs⟩ := ck hs
    refine evx_ial E199 D199_45 H54 (by decide) R k19 ?_
    refine evx_F E199 D199_46 rfl rfl ?_
    by_cases cb20 : ¬ (M 54 (Int.toNat x4)) = 3
    · rw [if_pos cb20] at hs
      refine evx_F E199 D199_47 rfl (ifT (c2_ne_T (R.1 54 (Int.toNat x4)) (by decide) cb20)) ?_
      refine evx_F E199 D199_100 rfl rfl ?_
      refine evx_gfr E199 D199_101 F199_7 H53 rfl R ?_
      refine evx_F E199 D199_104 rfl rfl ?_
      refine evx_ial E199 D199_106 H54 (by decide) R k19 ?_
      refine evx_F E199 D199_107 rfl rfl ?_
      refine evx_F E199 D199_109 rfl rfl ?_
      refine evx_F E199 D199_111 rfl rfl ?_
      by_cases cb21 : ¬ (M 54 (Int.toNat x4)) = 3
      · rw [if_pos cb21] at hs
        refine evx_F E199 D199_112 rfl (ifT (c2_ne_T (R.1 54 (Int.toNat x4)) (by decide) cb21)) ?_
        refine evx_F E199 D199_128 rfl rfl ?_
        refine evx_F E199 D199_130 rfl rfl ?_
        by_cases cb22 : 2 ≤ (M 54 (Int.toNat x4))
        · rw [if_pos cb22] at hs
          refine evx_F E199 D199_131 rfl (ifT (c2_ge_T (R.1 54 (Int.toNat x4)) (by decide) cb22)) ?_
          refine evx_F E199 D199_152 rfl rfl ?_
          cases hs
          exact evx_ret E199 D199_153 rfl (fun d => rfl) rfl (show rg _ from (by decide)) R
        · rw [if_neg cb22] at hs
          refine evx_F E199 D199_131 rfl (ifF (c2_ge_F (R.1 54 (Int.toNat x4)) (by decide) (by omega))) ?_
          refine evx_F E199 D199_134 rfl rfl ?_
          refine evx_gfr E199 D199_135 F199_28 H53 rfl R ?_
          refine evx_F E199 D199_138 rfl rfl ?_
          refine evx_F E199 D199_139 rfl rfl ?_
          refine evx_mul E199 D199_140 ?_
          refine evx_F E199 D199_141 rfl rfl ?_
          refine evx_add E199 D199_143 ?_
          obtain ⟨k23, hs⟩ := ck hs
          refine evx_bal E199 D199_144 H60 (by decide) R k23 ?_
          by_cases cb24 : (M 60 (Int.toNat (((3 : Int) * x3) + (M 54 (Int.toNat x4))))) = 0
          · rw [if_pos cb24] at hs
            refine evx_F E199 D199_145 rfl (ifT (c1_eq_T (R.1 60 (Int.toNat (((3 : Int) * x3) + (M 54 (Int.toNat x4))))) cb24)) ?_
            refine evx_F E199 D199_152 rfl rfl ?_
            cases hs
            exact evx_ret E199 D199_153 rfl (fun d => rfl) rfl (show rg _ from (by decide)) R
          · rw [if_neg cb24] at hs
            refine evx_F E199 D199_145 rfl (ifF (c1_eq_F (R.1 60 (Int.toNat (((3 : Int) * x3) + (M 54 (Int.toNat x4))))) (by omega))) ?_
            refine evx_F E199 D199_148 rfl rfl ?_
            refine evx_F E199 D199_149 rfl rfl ?_
            cases hs
            exact evx_ret E199 D199_153 rfl (fun d => rfl) rfl (show rg _ from (by decide)) R
      · rw [if_neg cb21] at hs
        refine evx_F E199 D199_112 rfl (ifF (c2_ne_F (R.1 54 (Int.toNat x4)) (by decide) (by omega))) ?_
        refine evx_F E199 D199_115 rfl rfl ?_
        refine evx_gfr E199 D199_116 F199_28 H53 rfl R ?_
        refine evx_F E199 D199_119 rfl rfl ?_
        refine evx_F E199 D199_120 rfl rfl ?_
        refine evx_mul E199 D199_121 ?_
        refine evx_F E199 D199_122 rfl rfl ?_
        refine evx_add E199 D199_123 ?_
        obtain ⟨k25, hs⟩ := ck hs
        refine evx_bal E199 D199_124 H60 (by decide) R k25 ?_
        refine evx_F E199 D199_125 rfl rfl ?_
        obtain ⟨k26, hs⟩ := ck hs
        cases hs
        exact evx_retb E199 D199_153 rfl k26 R
    · rw [if_neg cb20] at hs
      refine evx_F E199 D199_47 rfl (ifF (c2_ne_F (R.1 54 (Int.toNat x4)) (by decide) (by omega))) ?_
      refine evx_F E199 D199_50 rfl rfl ?_
      refine evx_gfr E199 D199_51 F199_28 H53 rfl R ?_
      refine evx_F E199 D199_54 rfl rfl ?_
      refine evx_F E199 D199_55 rfl rfl ?_
      refine evx_mul E199 D199_56 ?_
      refine evx_F E199 D199_57 rfl rfl ?_
      refine evx_add E199 D199_58 ?_
      obtain ⟨k27, hs⟩ := ck hs
      refine evx_bal E199 D199_59 H60 (by decide) R k27 ?_
      by_cases cb28 : (M 60 (Int.toNat (((3 : Int) * x3) + 2))) = 0
      · rw [if_pos cb28] at hs
        refine evx_F E199 D199_60 rfl (ifT (c1_eq_T (R.1 60 (Int.toNat (((3 : Int) * x3) + 2))) cb28)) ?_
        refine evx_F E199 D199_100 rfl rfl ?_
        refine evx_gfr E199 D199_101 F199_7 H53 rfl R ?_
        refine evx_F E199 D199_104 rfl rfl ?_
        refine evx_ial E199 D199_106 H54 (by decide) R k19 ?_
        refine evx_F E199 D199_107 rfl rfl ?_
        refine evx_F E199 D199_109 rfl rfl ?_
        refine evx_F E199 D199_111 rfl rfl ?_
        by_cases cb29 : ¬ (M 54 (Int.toNat x4)) = 3
        · rw [if_pos cb29] at hs
          refine evx_F E199 D199_112 rfl (ifT (c2_ne_T (R.1 54 (Int.toNat x4)) (by decide) cb29)) ?_
          refine evx_F E199 D199_128 rfl rfl ?_
          refine evx_F E199 D199_130 rfl rfl ?_
          by_cases cb30 : 2 ≤ (M 54 (Int.toNat x4))
          · rw [if_pos cb30] at hs
            refine evx_F E199 D199_131 rfl (ifT (c2_ge_T (R.1 54 (Int.toNat x4)) (by decide) cb30)) ?_
            refine evx_F E199 D199_152 rfl rfl ?_
            cases hs
            exact evx_ret E199 D199_153 rfl (fun d => rfl) rfl (show rg _ from (by decide)) R
          · rw [if_neg cb30] at hs
            refine evx_F E199 D199_131 rfl (ifF (c2_ge_F (R.1 54 (Int.toNat x4)) (by decide) (by omega))) ?_
            refine evx_F E199 D199_134 rfl rfl ?_
            refine evx_gfr E199 D199_135 F199_28 H53 rfl R ?_
            refine evx_F E199 D199_138 rfl rfl ?_
            refine evx_F E199 D199_139 rfl rfl ?_
            refine evx_mul E199 D199_140 ?_
            refine evx_F E199 D199_141 rfl rfl ?_
            refine evx_add E199 D199_143 ?_
            obtain ⟨k31, hs⟩ := ck hs
            refine evx_bal E199 D199_144 H60 (by decide) R k31 ?_
            by_cases cb32 : (M 60 (Int.toNat (((3 : Int) * x3) + (M 54 (Int.toNat x4))))) = 0
            · rw [if_pos cb32] at hs
              refine evx_F E199 D199_145 rfl (ifT (c1_eq_T (R.1 60 (Int.toNat (((3 : Int) * x3) + (M 54 (Int.toNat x4))))) cb32)) ?_
              refine evx_F E199 D199_152 rfl rfl ?_
              cases hs
              exact evx_ret E199 D199_153 rfl (fun d => rfl) rfl (show rg _ from (by decide)) R
            · rw [if_neg cb32] at hs
              refine evx_F E199 D199_145 rfl (ifF (c1_eq_F (R.1 60 (Int.toNat (((3 : Int) * x3) + (M 54 (Int.toNat x4))))) (by omega))) ?_
              refine evx_F E199 D199_148 rfl rfl ?_
              refine evx_F E199 D199_149 rfl rfl ?_
              cases hs
              exact evx_ret E199 D199_153 rfl (fun d => rfl) rfl (show rg _ from (by decide)) R
        · rw [if_neg cb29] at hs
          refine evx_F E199 D199_112 rfl (ifF (c2_ne_F (R.1 54 (Int.toNat x4)) (by decide) (by omega))) ?_
          refine evx_F E199 D199_115 rfl rfl ?_
          refine evx_gfr E199 D199_116 F199_28 H53 rfl R ?_
          refine evx_F E199 D199_119 rfl rfl ?_
          refine evx_F E199 D199_120 rfl rfl ?_
          refine evx_mul E199 D199_121 ?_
          refine evx_F E199 D199_122 rfl rfl ?_
          refine evx_add E199 D199_123 ?_
          refine evx_bal E199 D199_124 H60 (by decide) R k27 ?_
          refine evx_F E199 D199_125 rfl rfl ?_
          obtain ⟨k33, hs⟩ := ck hs
          cases hs
          exact evx_retb E199 D199_153 rfl k33 R
      · rw [if_neg cb28] at hs
        refine evx_F E199 D199_60 rfl (ifF (c1_eq_F (R.1 60 (Int.toNat (((3 : Int) * x3) + 2))) (by omega))) ?_
        refine evx_F E199 D199_63 rfl rfl ?_
        refine evx_gfr E199 D199_64 F199_32 H53 rfl R ?_
        refine evx_F E199 D199_67 rfl rfl ?_
        refine evx_F E199 D199_68 rfl rfl ?_
        refine evx_mul E199 D199_69 ?_
        refine evx_F E199 D199_70 rfl rfl ?_
        refine evx_add E199 D199_71 ?_
        refine evx_ial E199 D199_72 H61 (by decide) R k27 ?_
        refine evx_F E199 D199_73 rfl rfl ?_
        by_cases cb34 : (M 61 (Int.toNat (((3 : Int) * x3) + 2))) = (-1)
        · rw [if_pos cb34] at hs
          refine evx_F E199 D199_74 rfl (ifT (c2_eq_T (R.1 61 (Int.toNat (((3 : Int) * x3) + 2))) (by decide) cb34)) ?_
          refine evx_F E199 D199_100 rfl rfl ?_
          refine evx_gfr E199 D199_101 F199_7 H53 rfl R ?_
          refine evx_F E199 D199_104 rfl rfl ?_
          refine evx_ial E199 D199_106 H54 (by decide) R k19 ?_
          refine evx_F E199 D199_107 rfl rfl ?_
          refine evx_F E199 D199_109 rfl rfl ?_
          refine evx_F E199 D199_111 rfl rfl ?_
          by_cases cb35 : ¬ (M 54 (Int.toNat x4)) = 3
          · rw [if_pos cb35] at hs
            refine evx_F E199 D199_112 rfl (ifT (c2_ne_T (R.1 54 (Int.toNat x4)) (by decide) cb35)) ?_
            refine evx_F E199 D199_128 rfl rfl ?_
            refine evx_F E199 D199_130 rfl rfl ?_
            by_cases cb36 : 2 ≤ (M 54 (Int.toNat x4))
            · rw [if_pos cb36] at hs
              refine evx_F E199 D199_131 rfl (ifT (c2_ge_T (R.1 54 (Int.toNat x4)) (by decide) cb36)) ?_
              refine evx_F E199 D199_152 rfl rfl ?_
              cases hs
              exact evx_ret E199 D199_153 rfl (fun d => rfl) rfl (show rg _ from (by decide)) R
            · rw [if_neg cb36] at hs
              refine evx_F E199 D199_131 rfl (ifF (c2_ge_F (R.1 54 (Int.toNat x4)) (by decide) (by omega))) ?_
              refine evx_F E199 D199_134 rfl rfl ?_
              refine evx_gfr E199 D199_135 F199_28 H53 rfl R ?_
              refine evx_F E199 D199_138 rfl rfl ?_
              refine evx_F E199 D199_139 rfl rfl ?_
              refine evx_mul E199 D199_140 ?_
              refine evx_F E199 D199_141 rfl rfl ?_
              refine evx_add E199 D199_143 ?_
              obtain ⟨k37, hs⟩ := ck hs
              refine evx_bal E199 D199_144 H60 (by decide) R k37 ?_
              by_cases cb38 : (M 60 (Int.toNat (((3 : Int) * x3) + (M 54 (Int.toNat x4))))) = 0
              · rw [if_pos cb38] at hs
                refine evx_F E199 D199_145 rfl (ifT (c1_eq_T (R.1 60 (Int.toNat (((3 : Int) * x3) + (M 54 (Int.toNat x4))))) cb38)) ?_
                refine evx_F E199 D199_152 rfl rfl ?_
                cases hs
                exact evx_ret E199 D199_153 rfl (fun d => rfl) rfl (show rg _ from (by decide)) R
              · rw [if_neg cb38] at hs
                refine evx_F E199 D199_145 rfl (ifF (c1_eq_F (R.1 60 (Int.toNat (((3 : Int) * x3) + (M 54 (Int.toNat x4))))) (by omega))) ?_
                refine evx_F E199 D199_148 rfl rfl ?_
                refine evx_F E199 D199_149 rfl rfl ?_
                cases hs
                exact evx_ret E199 D199_153 rfl (fun d => rfl) rfl (show rg _ from (by decide)) R
          · rw [if_neg cb35] at hs
            refine evx_F E199 D199_112 rfl (ifF (c2_ne_F (R.1 54 (Int.toNat x4)) (by decide) (by omega))) ?_
            refine evx_F E199 D199_115 rfl rfl ?_
            refine evx_gfr E199 D199_116 F199_28 H53 rfl R ?_
            refine evx_F E199 D199_119 rfl rfl ?_
            refine evx_F E199 D199_120 rfl rfl ?_
            refine evx_mul E199 D199_121 ?_
            refine evx_F E199 D199_122 rfl rfl ?_
            refine evx_add E199 D199_123 ?_
            refine evx_bal E199 D199_124 H60 (by decide) R k27 ?_
            refine evx_F E199 D199_125 rfl rfl ?_
            obtain ⟨k39, hs⟩ := ck hs
            cases hs
            exact evx_retb E199 D199_153 rfl k39 R
        · rw [if_neg cb34] at hs
          refine evx_F E199 D199_74 rfl (ifF (c2_eq_F (R.1 61 (Int.toNat (((3 : Int) * x3) + 2))) (by decide) (by omega))) ?_
          refine evx_F E199 D199_77 rfl rfl ?_
          refine evx_gfr E199 D199_78 F199_32 H53 rfl R ?_
          refine evx_F E199 D199_81 rfl rfl ?_
          refine evx_F E199 D199_82 rfl rfl ?_
          refine evx_mul E199 D199_83 ?_
          refine evx_F E199 D199_84 rfl rfl ?_
          refine evx_add E199 D199_85 ?_
          refine evx_ial E199 D199_86 H61 (by decide) R k27 ?_
          refine evx_F E199 D199_87 rfl rfl ?_
          refine evx_F E199 D199_88 rfl rfl ?_
          refine evx_gfr E199 D199_89 F199_13 H53 rfl R ?_
          refine evx_F E199 D199_92 rfl rfl ?_
          refine evx_ial E199 D199_94 H55 (by decide) R k19 ?_
          refine evx_F E199 D199_95 rfl rfl ?_
          refine evx_F E199 D199_97 rfl rfl ?_
          show evx _ _ _ _ _ [(4, .inl (iz (M 55 (Int.toNat x4)))), (3, .inl (iz (M 61 (Int.toNat (((3 : Int) * x3) + 2))))), (0, .inr (.inr (.inl (some 53)))), (1, .inl (iz x1)), (2, .inl (iz x2))] _ _ _ _
          exact evx_lv (lvLe_mk (fm rfl (fm rfl (fm rfl (fm rfl (fm rfl fn))))) (fm rfl (fm rfl (fm rfl (fm rfl (fm rfl fn))))) (fm rfl (fm rfl (fm rfl (fm rfl (fm rfl fn)))))) (ih _ _ _ _ _ _ _ _ hs R rx1 rx2 (R.1 61 (Int.toNat (((3 : Int) * x3) + 2))) (R.1 55 (Int.toNat x4)))
def f199 (M : Mm) (x1 : Int) (x2 : Int) : Option (Int × Mm) := (f195 M x1).bind (fun q2 => if q2 = 0 then (some (0, (up M 53 0 1))) else (f190 M x2).bind (fun q10 => if q10 = 0 then (some (0, (up M 53 0 1))) else (l199 FU 39 (up M 53 0 0) x1 x2 x1 x2)))
theorem c199 {L : Nat} {xs : Nat → Int32} {h : mvH} {M : Mm} {x1 x2 : Int} {v : Int} {M' : Mm} (R : rp h M) (rx1 : rg x1) (rx2 : rg x2) (hs : f199 M x1 x2 = some (v, M')) : evx L xs 2 199 0 [(0, .inr (.inr (.inl (some 53)))), (1, .inl (iz x1)), (2, .inl (iz x2))] [] h (.inl (some (.inl v)), 0) M' := by
  unfold f199 at hs
  refine evx_F E199 D199_0 rfl rfl ?_
  refine evx_F E199 D199_1 rfl rfl ?_
  refine evx_F E199 D199_2 rfl rfl ?_
  obtain ⟨q2, e1, hs⟩ := Option.bind_eq_some_iff.mp hs
  refine evx_cv (D := 1) E199 D199_3 I199_199 rfl rfl H53 ⟨Nat.le_of_ble_eq_true rfl, Nat.le_of_ble_eq_true rfl⟩ ⟨rfl, Nat.le_of_ble_eq_true rfl⟩ rfl R (evx_up (Nat.le_of_ble_eq_true rfl) (c195 R rx1 e1)) ?_
  intro h3 R4 w5
  have w5 : rg q2 := w5
  show evx _ _ _ _ _ _ (.inl (iz q2) :: _) _ _ _
  by_cases cb6 : q2 = 0
  · rw [if_pos cb6] at hs
    refine evx_F E199 D199_6 rfl (ifT (c1_eq_T w5 cb6)) ?_
    refine evx_F E199 D199_21 rfl rfl ?_
    refine evx_pfi (k := 0) E199 D199_22 F199_182 H53 rfl R4 (by decide) rfl ?_
    intro h7 R8
    refine evx_F E199 D199_25 rfl rfl ?_
    refine evx_gfi (k := 0) E199 D199_26 F199_182 H53 rfl R8 ?_
    show evx _ _ _ _ _ _ (.inl (iz 1) :: _) _ _ _
    refine evx_F E199 D199_29 rfl rfl ?_
    refine evx_F E199 D199_32 rfl rfl ?_
    cases hs
    exact evx_ret E199 D199_33 rfl (fun d => rfl) rfl (show rg _ from (by decide)) R8
  · rw [if_neg cb6] at hs
    refine evx_F E199 D199_6 rfl (ifF (c1_eq_F w5 (by omega))) ?_
    refine evx_F E199 D199_9 rfl rfl ?_
    refine evx_F E199 D199_10 rfl rfl ?_
    obtain ⟨q10, e9, hs⟩ := Option.bind_eq_some_iff.mp hs
    refine evx_cv (D := 1) E199 D199_11 I199_189 rfl rfl H53 ⟨Nat.le_of_ble_eq_true rfl, Nat.le_of_ble_eq_true rfl⟩ ⟨rfl, Nat.le_of_ble_eq_true rfl⟩ rfl R4 (evx_up (Nat.le_of_ble_eq_true rfl) (c190 R4 rx2 e9)) ?_
    intro h11 R12 w13
    have w13 : rg q10 := w13
    show evx _ _ _ _ _ _ (.inl (iz q10) :: _) _ _ _
    by_cases cb14 : q10 = 0
    · rw [if_pos cb14] at hs
      refine evx_F E199 D199_14 rfl (ifT (c1_eq_T w13 cb14)) ?_
      refine evx_F E199 D199_21 rfl rfl ?_
      refine evx_pfi (k := 0) E199 D199_22 F199_182 H53 rfl R12 (by decide) rfl ?_
      intro h15 R16
      refine evx_F E199 D199_25 rfl rfl ?_
      refine evx_gfi (k := 0) E199 D199_26 F199_182 H53 rfl R16 ?_
      show evx _ _ _ _ _ _ (.inl (iz 1) :: _) _ _ _
      refine evx_F E199 D199_29 rfl rfl ?_
      refine evx_F E199 D199_32 rfl rfl ?_
      cases hs
      exact evx_ret E199 D199_33 rfl (fun d => rfl) rfl (show rg _ from (by decide)) R16
    · rw [if_neg cb14] at hs
      refine evx_F E199 D199_14 rfl (ifF (c1_eq_F w13 (by omega))) ?_
      refine evx_F E199 D199_17 rfl rfl ?_
      refine evx_F E199 D199_18 rfl rfl ?_
      refine evx_pfi (k := 0) E199 D199_22 F199_182 H53 rfl R12 (by decide) rfl ?_
      intro h17 R18
      refine evx_F E199 D199_25 rfl rfl ?_
      refine evx_gfi (k := 0) E199 D199_26 F199_182 H53 rfl R18 ?_
      show evx _ _ _ _ _ _ (.inl (iz 0) :: _) _ _ _
      refine evx_F E199 D199_29 rfl rfl ?_
      refine evx_F E199 D199_34 rfl rfl ?_
      refine evx_F E199 D199_35 rfl rfl ?_
      refine evx_F E199 D199_36 rfl rfl ?_
      refine evx_F E199 D199_37 rfl rfl ?_
      show evx _ _ _ _ _ [(4, .inl (iz x2)), (3, .inl (iz x1)), (0, .inr (.inr (.inl (some 53)))), (1, .inl (iz x1)), (2, .inl (iz x2))] _ _ _ _
      exact evx_lv (lvLe_mk (fm rfl (fm rfl (fm rfl (fm rfl (fm rfl fn))))) (fm rfl (fm rfl (fm rfl (fm rfl (fm rfl fn))))) (fm rfl (fm rfl (fm rfl (fm rfl (fm rfl fn)))))) ((d199 FU) _ _ _ _ _ _ _ _ hs R18 rx1 rx2 rx1 rx2)
set_option maxRecDepth 20000 in
theorem E201 : pgMm 201 = some (⟨"DictionaryHouseModel", "add", "(IIII)I"⟩, prog_14_method_16_code, 5, (some .int), []) := rfl
theorem D201_0 : pgDecT 201 0 = some (.aload_n 0, 1) := by decide +kernel
theorem D201_1 : pgDecT 201 1 = some (.getfield 38, 3) := by decide +kernel
theorem F201_38 : pgFf 201 38 = some (12, 13, 3) := by decide +kernel
theorem D201_4 : pgDecT 201 4 = some (.aload_n 0, 1) := by decide +kernel
theorem D201_5 : pgDecT 201 5 = some (.getfield 209, 3) := by decide +kernel
theorem F201_209 : pgFf 201 209 = some (12, 12, 0) := by decide +kernel
theorem D201_8 : pgDecT 201 8 = some (.iload_n 1, 1) := by decide +kernel
theorem D201_9 : pgDecT 201 9 = some (.iastore, 1) := by decide +kernel
theorem D201_10 : pgDecT 201 10 = some (.aload_n 0, 1) := by decide +kernel
theorem D201_11 : pgDecT 201 11 = some (.getfield 41, 3) := by decide +kernel
theorem F201_41 : pgFf 201 41 = some (12, 14, 3) := by decide +kernel
theorem D201_14 : pgDecT 201 14 = some (.aload_n 0, 1) := by decide +kernel
theorem D201_15 : pgDecT 201 15 = some (.getfield 209, 3) := by decide +kernel
theorem D201_18 : pgDecT 201 18 = some (.iload_n 2, 1) := by decide +kernel
theorem D201_19 : pgDecT 201 19 = some (.iastore, 1) := by decide +kernel
theorem D201_20 : pgDecT 201 20 = some (.aload_n 0, 1) := by decide +kernel
theorem D201_21 : pgDecT 201 21 = some (.getfield 44, 3) := by decide +kernel
theorem F201_44 : pgFf 201 44 = some (12, 15, 3) := by decide +kernel
theorem D201_24 : pgDecT 201 24 = some (.aload_n 0, 1) := by decide +kernel
theorem D201_25 : pgDecT 201 25 = some (.getfield 209, 3) := by decide +kernel
theorem D201_28 : pgDecT 201 28 = some (.iload_n 3, 1) := by decide +kernel
theorem D201_29 : pgDecT 201 29 = some (.iastore, 1) := by decide +kernel
theorem D201_30 : pgDecT 201 30 = some (.aload_n 0, 1) := by decide +kernel
theorem D201_31 : pgDecT 201 31 = some (.getfield 47, 3) := by decide +kernel
theorem F201_47 : pgFf 201 47 = some (12, 16, 3) := by decide +kernel
theorem D201_34 : pgDecT 201 34 = some (.aload_n 0, 1) := by decide +kernel
theorem D201_35 : pgDecT 201 35 = some (.getfield 209, 3) := by decide +kernel
theorem D201_38 : pgDecT 201 38 = some (.iload 4, 2) := by decide +kernel
theorem D201_40 : pgDecT 201 40 = some (.iastore, 1) := by decide +kernel
theorem D201_41 : pgDecT 201 41 = some (.aload_n 0, 1) := by decide +kernel
theorem D201_42 : pgDecT 201 42 = some (.dup, 1) := by decide +kernel
theorem D201_43 : pgDecT 201 43 = some (.getfield 209, 3) := by decide +kernel
theorem D201_46 : pgDecT 201 46 = some (.iconst 1, 1) := by decide +kernel
theorem D201_47 : pgDecT 201 47 = some (.iadd, 1) := by decide +kernel
theorem D201_48 : pgDecT 201 48 = some (.putfield 209, 3) := by decide +kernel
theorem D201_51 : pgDecT 201 51 = some (.aload_n 0, 1) := by decide +kernel
theorem D201_52 : pgDecT 201 52 = some (.getfield 209, 3) := by decide +kernel
theorem D201_55 : pgDecT 201 55 = some (.iconst 1, 1) := by decide +kernel
theorem D201_56 : pgDecT 201 56 = some (.isub, 1) := by decide +kernel
theorem D201_57 : pgDecT 201 57 = some (.ireturn, 1) := by decide +kernel
/-! 201: DictionaryHouseModel.add (IIII)I -/
def f201 (M : Mm) (x1 : Int) (x2 : Int) (x3 : Int) (x4 : Int) : Option (Int × Mm) := if 0 ≤ (M 53 12) ∧ (M 53 12) < 200 then (if rg ((M 53 12) + 1) then (if rg (((M 53 12) + 1) - 1) then (some ((((M 53 12) + 1) - 1), (up (up (up (up (up M 63 (Int.toNat (M 53 12)) x1) 64 (Int.toNat (M 53 12)) x2) 65 (Int.toNat (M 53 12)) x3) 66 (Int.toNat (M 53 12)) x4) 53 12 ((M 53 12) + 1)))) else none) else none) else none
theorem c201 {L : Nat} {xs : Nat → Int32} {h : mvH} {M : Mm} {x1 x2 x3 x4 : Int} {v : Int} {M' : Mm} (R : rp h M) (rx1 : rg x1) (rx2 : rg x2) (rx3 : rg x3) (rx4 : rg x4) (hs : f201 M x1 x2 x3 x4 = some (v, M')) : evx L xs 1 201 0 [(0, .inr (.inr (.inl (some 53)))), (1, .inl (iz x1)), (2, .inl (iz x2)), (3, .inl (iz x3)), (4, .inl (iz x4))] [] h (.inl (some (.inl v)), 0) M' := by
  unfold f201 at hs
  refine evx_F E201 D201_0 rfl rfl ?_
  refine evx_gfr E201 D201_1 F201_38 H53 rfl R ?_
  refine evx_F E201 D201_4 rfl rfl ?_
  refine evx_gfi (k := 12) E201 D201_5 F201_209 H53 rfl R ?_
  refine evx_F E201 D201_8 rfl rfl ?_
  obtain ⟨k1, hs⟩ := ck hs
  refine evx_ias E201 D201_9 H63 (by decide) R k1 rx1 ?_
  intro h2 R3
  refine evx_F E201 D201_10 rfl rfl ?_
  refine evx_gfr E201 D201_11 F201_41 H53 rfl R3 ?_
  refine evx_F E201 D201_14 rfl rfl ?_
  refine evx_gfi (k := 12) E201 D201_15 F201_209 H53 rfl R3 ?_
  show evx _ _ _ _ _ _ (.inl (iz (M 53 12)) :: _) _ _ _
  refine evx_F E201 D201_18 rfl rfl ?_
  refine evx_ias E201 D201_19 H64 (by decide) R3 k1 rx2 ?_
  intro h4 R5
  refine evx_F E201 D201_20 rfl rfl ?_
  refine evx_gfr E201 D201_21 F201_44 H53 rfl R5 ?_
  refine evx_F E201 D201_24 rfl rfl ?_
  refine evx_gfi (k := 12) E201 D201_25 F201_209 H53 rfl R5 ?_
  show evx _ _ _ _ _ _ (.inl (iz (M 53 12)) :: _) _ _ _
  refine evx_F E201 D201_28 rfl rfl ?_
  refine evx_ias E201 D201_29 H65 (by decide) R5 k1 rx3 ?_
  intro h6 R7
  refine evx_F E201 D201_30 rfl rfl ?_
  refine evx_gfr E201 D201_31 F201_47 H53 rfl R7 ?_
  refine evx_F E201 D201_34 rfl rfl ?_
  refine evx_gfi (k := 12) E201 D201_35 F201_209 H53 rfl R7 ?_
  show evx _ _ _ _ _ _ (.inl (iz (M 53 12)) :: _) _ _ _
  refine evx_F E201 D201_38 rfl rfl ?_
  refine evx_ias E201 D201_40 H66 (by decide) R7 k1 rx4 ?_
  intro h8 R9
  refine evx_F E201 D201_41 rfl rfl ?_
  refine evx_F E201 D201_42 rfl rfl ?_
  refine evx_gfi (k := 12) E201 D201_43 F201_209 H53 rfl R9 ?_
  show evx _ _ _ _ _ _ (.inl (iz (M 53 12)) :: _) _ _ _
  refine evx_F E201 D201_46 rfl rfl ?_
  refine evx_add E201 D201_47 ?_
  obtain ⟨k10, hs⟩ := ck hs
  refine evx_pfi (k := 12) E201 D201_48 F201_209 H53 rfl R9 k10 rfl ?_
  intro h11 R12
  refine evx_F E201 D201_51 rfl rfl ?_
  refine evx_gfi (k := 12) E201 D201_52 F201_209 H53 rfl R12 ?_
  show evx _ _ _ _ _ _ (.inl (iz ((M 53 12) + 1)) :: _) _ _ _
  refine evx_F E201 D201_55 rfl rfl ?_
  refine evx_sub E201 D201_56 ?_
  obtain ⟨k13, hs⟩ := ck hs
  cases hs
  exact evx_ret E201 D201_57 rfl (fun d => rfl) rfl (show rg _ from k13) R12
set_option maxRecDepth 20000 in
theorem E203 : pgMm 203 = some (⟨"DictionaryHouseModel", "make", "(ZIIII)I"⟩, prog_14_method_17_code, 6, (some .int), []) := rfl
theorem D203_0 : pgDecT 203 0 = some (.aload_n 0, 1) := by decide +kernel
theorem D203_1 : pgDecT 203 1 = some (.iload_n 1, 1) := by decide +kernel
theorem D203_2 : pgDecT 203 2 = some (.ifCond .ne 7, 3) := by decide +kernel
theorem D203_9 : pgDecT 203 9 = some (.aload_n 0, 1) := by decide +kernel
theorem D203_10 : pgDecT 203 10 = some (.getfield 209, 3) := by decide +kernel
theorem F203_209 : pgFf 203 209 = some (12, 12, 0) := by decide +kernel
theorem D203_13 : pgDecT 203 13 = some (.sipush 200, 3) := by decide +kernel
theorem D203_16 : pgDecT 203 16 = some (.if_icmp .eq 10, 3) := by decide +kernel
theorem D203_26 : pgDecT 203 26 = some (.iconst 2, 1) := by decide +kernel
theorem D203_27 : pgDecT 203 27 = some (.goto 4, 3) := by decide +kernel
theorem D203_31 : pgDecT 203 31 = some (.putfield 182, 3) := by decide +kernel
theorem F203_182 : pgFf 203 182 = some (12, 0, 0) := by decide +kernel
theorem D203_34 : pgDecT 203 34 = some (.aload_n 0, 1) := by decide +kernel
theorem D203_35 : pgDecT 203 35 = some (.getfield 182, 3) := by decide +kernel
theorem D203_38 : pgDecT 203 38 = some (.ifCond .ne 16, 3) := by decide +kernel
theorem D203_54 : pgDecT 203 54 = some (.iconst 0, 1) := by decide +kernel
theorem D203_55 : pgDecT 203 55 = some (.ireturn, 1) := by decide +kernel
theorem D203_19 : pgDecT 203 19 = some (.iload 5, 2) := by decide +kernel
theorem D203_21 : pgDecT 203 21 = some (.bipush 60, 2) := by decide +kernel
theorem D203_23 : pgDecT 203 23 = some (.if_icmp .le 7, 3) := by decide +kernel
theorem D203_30 : pgDecT 203 30 = some (.iconst 0, 1) := by decide +kernel
theorem D203_41 : pgDecT 203 41 = some (.aload_n 0, 1) := by decide +kernel
theorem D203_42 : pgDecT 203 42 = some (.iload_n 2, 1) := by decide +kernel
theorem D203_43 : pgDecT 203 43 = some (.iload_n 3, 1) := by decide +kernel
theorem D203_44 : pgDecT 203 44 = some (.iload 4, 2) := by decide +kernel
theorem D203_46 : pgDecT 203 46 = some (.iload 5, 2) := by decide +kernel
theorem D203_48 : pgDecT 203 48 = some (.invokevirtual 212, 3) := by decide +kernel
theorem I203_212 : pgIi 203 212 = some (201, 4, 12) := by decide +kernel
theorem D203_51 : pgDecT 203 51 = some (.goto 4, 3) := by decide +kernel
theorem D203_5 : pgDecT 203 5 = some (.iconst 1, 1) := by decide +kernel
theorem D203_6 : pgDecT 203 6 = some (.goto 25, 3) := by decide +kernel
/-! 203: DictionaryHouseModel.make (ZIIII)I -/
def f203 (M : Mm) (x1 : Int) (x2 : Int) (x3 : Int) (x4 : Int) (x5 : Int) : Option (Int × Mm) := if ¬ x1 = 0 then (if (M 53 12) = 200 then (some (0, (up M 53 0 2))) else (if x5 ≤ 60 then (f201 (up M 53 0 0) x2 x3 x4 x5).bind (fun zq9 => some (zq9.1, zq9.2)) else (some (0, (up M 53 0 2))))) else (some (0, (up M 53 0 1)))
theorem c203 {L : Nat} {xs : Nat → Int32} {h : mvH} {M : Mm} {x1 x2 x3 x4 x5 : Int} {v : Int} {M' : Mm} (R : rp h M) (rx1 : rg x1) (rx2 : rg x2) (rx3 : rg x3) (rx4 : rg x4) (rx5 : rg x5) (hs : f203 M x1 x2 x3 x4 x5 = some (v, M')) : evx L xs 2 203 0 [(0, .inr (.inr (.inl (some 53)))), (1, .inl (iz x1)), (2, .inl (iz x2)), (3, .inl (iz x3)), (4, .inl (iz x4)), (5, .inl (iz x5))] [] h (.inl (some (.inl v)), 0) M' := by
  unfold f203 at hs
  refine evx_F E203 D203_0 rfl rfl ?_
  refine evx_F E203 D203_1 rfl rfl ?_
  by_cases cb1 : ¬ x1 = 0
  · rw [if_pos cb1] at hs
    refine evx_F E203 D203_2 rfl (ifT (c1_ne_T rx1 cb1)) ?_
    refine evx_F E203 D203_9 rfl rfl ?_
    refine evx_gfi (k := 12) E203 D203_10 F203_209 H53 rfl R ?_
    refine evx_k (k := 200) E203 D203_13 rfl (by decide) ?_
    by_cases cb2 : (M 53 12) = 200
    · rw [if_pos cb2] at hs
      refine evx_F E203 D203_16 rfl (ifT (c2_eq_T (R.1 53 12) (by decide) cb2)) ?_
      refine evx_F E203 D203_26 rfl rfl ?_
      refine evx_F E203 D203_27 rfl rfl ?_
      refine evx_pfi (k := 0) E203 D203_31 F203_182 H53 rfl R (by decide) rfl ?_
      intro h3 R4
      refine evx_F E203 D203_34 rfl rfl ?_
      refine evx_gfi (k := 0) E203 D203_35 F203_182 H53 rfl R4 ?_
      show evx _ _ _ _ _ _ (.inl (iz 2) :: _) _ _ _
      refine evx_F E203 D203_38 rfl rfl ?_
      refine evx_F E203 D203_54 rfl rfl ?_
      cases hs
      exact evx_ret E203 D203_55 rfl (fun d => rfl) rfl (show rg _ from (by decide)) R4
    · rw [if_neg cb2] at hs
      refine evx_F E203 D203_16 rfl (ifF (c2_eq_F (R.1 53 12) (by decide) (by omega))) ?_
      refine evx_F E203 D203_19 rfl rfl ?_
      refine evx_k (k := 60) E203 D203_21 rfl (by decide) ?_
      by_cases cb5 : x5 ≤ 60
      · rw [if_pos cb5] at hs
        refine evx_F E203 D203_23 rfl (ifT (c2_le_T rx5 (by decide) cb5)) ?_
        refine evx_F E203 D203_30 rfl rfl ?_
        refine evx_pfi (k := 0) E203 D203_31 F203_182 H53 rfl R (by decide) rfl ?_
        intro h6 R7
        refine evx_F E203 D203_34 rfl rfl ?_
        refine evx_gfi (k := 0) E203 D203_35 F203_182 H53 rfl R7 ?_
        show evx _ _ _ _ _ _ (.inl (iz 0) :: _) _ _ _
        refine evx_F E203 D203_38 rfl rfl ?_
        refine evx_F E203 D203_41 rfl rfl ?_
        refine evx_F E203 D203_42 rfl rfl ?_
        refine evx_F E203 D203_43 rfl rfl ?_
        refine evx_F E203 D203_44 rfl rfl ?_
        refine evx_F E203 D203_46 rfl rfl ?_
        obtain ⟨⟨q9, M13⟩, e8, hs⟩ := Option.bind_eq_some_iff.mp hs
        dsimp only at hs
        refine evx_cv (D := 1) E203 D203_48 I203_212 rfl rfl H53 ⟨Nat.le_of_ble_eq_true rfl, Nat.le_of_ble_eq_true rfl⟩ ⟨rfl, Nat.le_of_ble_eq_true rfl⟩ rfl R7 (evx_up (Nat.le_of_ble_eq_true rfl) (c201 R7 rx2 rx3 rx4 rx5 e8)) ?_
        intro h10 R11 w12
        have w12 : rg q9 := w12
        show evx _ _ _ _ _ _ (.inl (iz q9) :: _) _ _ _
        refine evx_F E203 D203_51 rfl rfl ?_
        cases hs
        exact evx_ret E203 D203_55 rfl (fun d => rfl) rfl (show rg _ from w12) R11
      · rw [if_neg cb5] at hs
        refine evx_F E203 D203_23 rfl (ifF (c2_le_F rx5 (by decide) (by omega))) ?_
        refine evx_F E203 D203_26 rfl rfl ?_
        refine evx_F E203 D203_27 rfl rfl ?_
        refine evx_pfi (k := 0) E203 D203_31 F203_182 H53 rfl R (by decide) rfl ?_
        intro h14 R15
        refine evx_F E203 D203_34 rfl rfl ?_
        refine evx_gfi (k := 0) E203 D203_35 F203_182 H53 rfl R15 ?_
        show evx _ _ _ _ _ _ (.inl (iz 2) :: _) _ _ _
        refine evx_F E203 D203_38 rfl rfl ?_
        refine evx_F E203 D203_54 rfl rfl ?_
        cases hs
        exact evx_ret E203 D203_55 rfl (fun d => rfl) rfl (show rg _ from (by decide)) R15
  · rw [if_neg cb1] at hs
    refine evx_F E203 D203_2 rfl (ifF (c1_ne_F rx1 (by omega))) ?_
    refine evx_F E203 D203_5 rfl rfl ?_
    refine evx_F E203 D203_6 rfl rfl ?_
    refine evx_pfi (k := 0) E203 D203_31 F203_182 H53 rfl R (by decide) rfl ?_
    intro h16 R17
    refine evx_F E203 D203_34 rfl rfl ?_
    refine evx_gfi (k := 0) E203 D203_35 F203_182 H53 rfl R17 ?_
    show evx _ _ _ _ _ _ (.inl (iz 1) :: _) _ _ _
    refine evx_F E203 D203_38 rfl rfl ?_
    refine evx_F E203 D203_54 rfl rfl ?_
    cases hs
    exact evx_ret E203 D203_55 rfl (fun d => rfl) rfl (show rg _ from (by decide)) R17
set_option maxRecDepth 20000 in
theorem E204 : pgMm 204 = some (⟨"DictionaryHouseModel", "local", "(I)I"⟩, prog_14_method_20_code, 2, (some .int), []) := rfl
theorem D204_0 : pgDecT 204 0 = some (.aload_n 0, 1) := by decide +kernel
theorem D204_1 : pgDecT 204 1 = some (.iload_n 1, 1) := by decide +kernel
theorem D204_2 : pgDecT 204 2 = some (.ifCond .lt 13, 3) := by decide +kernel
theorem D204_15 : pgDecT 204 15 = some (.iconst 0, 1) := by decide +kernel
theorem D204_16 : pgDecT 204 16 = some (.iconst 2, 1) := by decide +kernel
theorem D204_17 : pgDecT 204 17 = some (.iload_n 1, 1) := by decide +kernel
theorem D204_18 : pgDecT 204 18 = some (.iconst 0, 1) := by decide +kernel
theorem D204_19 : pgDecT 204 19 = some (.iconst 1, 1) := by decide +kernel
theorem D204_20 : pgDecT 204 20 = some (.invokevirtual 216, 3) := by decide +kernel
theorem I204_216 : pgIi 204 216 = some (203, 5, 12) := by decide +kernel
theorem D204_23 : pgDecT 204 23 = some (.ireturn, 1) := by decide +kernel
theorem D204_5 : pgDecT 204 5 = some (.iload_n 1, 1) := by decide +kernel
theorem D204_6 : pgDecT 204 6 = some (.bipush 10, 2) := by decide +kernel
theorem D204_8 : pgDecT 204 8 = some (.if_icmp .ge 7, 3) := by decide +kernel
theorem D204_11 : pgDecT 204 11 = some (.iconst 1, 1) := by decide +kernel
theorem D204_12 : pgDecT 204 12 = some (.goto 4, 3) := by decide +kernel
/-! 204: DictionaryHouseModel.local (I)I -/
def f204 (M : Mm) (x1 : Int) : Option (Int × Mm) := if x1 < 0 then (f203 M 0 2 x1 0 1).bind (fun zq3 => some (zq3.1, zq3.2)) else (if 10 ≤ x1 then (f203 M 0 2 x1 0 1).bind (fun zq10 => some (zq10.1, zq10.2)) else (f203 M 1 2 x1 0 1).bind (fun zq16 => some (zq16.1, zq16.2)))
theorem c204 {L : Nat} {xs : Nat → Int32} {h : mvH} {M : Mm} {x1 : Int} {v : Int} {M' : Mm} (R : rp h M) (rx1 : rg x1) (hs : f204 M x1 = some (v, M')) : evx L xs 3 204 0 [(0, .inr (.inr (.inl (some 53)))), (1, .inl (iz x1))] [] h (.inl (some (.inl v)), 0) M' := by
  unfold f204 at hs
  refine evx_F E204 D204_0 rfl rfl ?_
  refine evx_F E204 D204_1 rfl rfl ?_
  by_cases cb1 : x1 < 0
  · rw [if_pos cb1] at hs
    refine evx_F E204 D204_2 rfl (ifT (c1_lt_T rx1 cb1)) ?_
    refine evx_F E204 D204_15 rfl rfl ?_
    refine evx_F E204 D204_16 rfl rfl ?_
    refine evx_F E204 D204_17 rfl rfl ?_
    refine evx_F E204 D204_18 rfl rfl ?_
    refine evx_F E204 D204_19 rfl rfl ?_
    obtain ⟨⟨q3, M7⟩, e2, hs⟩ := Option.bind_eq_some_iff.mp hs
    dsimp only at hs
    refine evx_cv (D := 2) E204 D204_20 I204_216 rfl rfl H53 ⟨Nat.le_of_ble_eq_true rfl, Nat.le_of_ble_eq_true rfl⟩ ⟨rfl, Nat.le_of_ble_eq_true rfl⟩ rfl R (evx_up (Nat.le_of_ble_eq_true rfl) (c203 R (by decide) (by decide) rx1 (by decide) (by decide) e2)) ?_
    intro h4 R5 w6
    have w6 : rg q3 := w6
    show evx _ _ _ _ _ _ (.inl (iz q3) :: _) _ _ _
    cases hs
    exact evx_ret E204 D204_23 rfl (fun d => rfl) rfl (show rg _ from w6) R5
  · rw [if_neg cb1] at hs
    refine evx_F E204 D204_2 rfl (ifF (c1_lt_F rx1 (by omega))) ?_
    refine evx_F E204 D204_5 rfl rfl ?_
    refine evx_k (k := 10) E204 D204_6 rfl (by decide) ?_
    by_cases cb8 : 10 ≤ x1
    · rw [if_pos cb8] at hs
      refine evx_F E204 D204_8 rfl (ifT (c2_ge_T rx1 (by decide) cb8)) ?_
      refine evx_F E204 D204_15 rfl rfl ?_
      refine evx_F E204 D204_16 rfl rfl ?_
      refine evx_F E204 D204_17 rfl rfl ?_
      refine evx_F E204 D204_18 rfl rfl ?_
      refine evx_F E204 D204_19 rfl rfl ?_
      obtain ⟨⟨q10, M14⟩, e9, hs⟩ := Option.bind_eq_some_iff.mp hs
      dsimp only at hs
      refine evx_cv (D := 2) E204 D204_20 I204_216 rfl rfl H53 ⟨Nat.le_of_ble_eq_true rfl, Nat.le_of_ble_eq_true rfl⟩ ⟨rfl, Nat.le_of_ble_eq_true rfl⟩ rfl R (evx_up (Nat.le_of_ble_eq_true rfl) (c203 R (by decide) (by decide) rx1 (by decide) (by decide) e9)) ?_
      intro h11 R12 w13
      have w13 : rg q10 := w13
      show evx _ _ _ _ _ _ (.inl (iz q10) :: _) _ _ _
      cases hs
      exact evx_ret E204 D204_23 rfl (fun d => rfl) rfl (show rg _ from w13) R12
    · rw [if_neg cb8] at hs
      refine evx_F E204 D204_8 rfl (ifF (c2_ge_F rx1 (by decide) (by omega))) ?_
      refine evx_F E204 D204_11 rfl rfl ?_
      refine evx_F E204 D204_12 rfl rfl ?_
      refine evx_F E204 D204_16 rfl rfl ?_
      refine evx_F E204 D204_17 rfl rfl ?_
      refine evx_F E204 D204_18 rfl rfl ?_
      refine evx_F E204 D204_19 rfl rfl ?_
      obtain ⟨⟨q16, M20⟩, e15, hs⟩ := Option.bind_eq_some_iff.mp hs
      dsimp only at hs
      refine evx_cv (D := 2) E204 D204_20 I204_216 rfl rfl H53 ⟨Nat.le_of_ble_eq_true rfl, Nat.le_of_ble_eq_true rfl⟩ ⟨rfl, Nat.le_of_ble_eq_true rfl⟩ rfl R (evx_up (Nat.le_of_ble_eq_true rfl) (c203 R (by decide) (by decide) rx1 (by decide) (by decide) e15)) ?_
      intro h17 R18 w19
      have w19 : rg q16 := w19
      show evx _ _ _ _ _ _ (.inl (iz q16) :: _) _ _ _
      cases hs
      exact evx_ret E204 D204_23 rfl (fun d => rfl) rfl (show rg _ from w19) R18
set_option maxRecDepth 20000 in
theorem E206 : pgMm 206 = some (⟨"DictionaryHouseModel", "isExpression", "(I)Z"⟩, prog_14_method_15_code, 2, (some .boolean), []) := rfl
theorem D206_0 : pgDecT 206 0 = some (.iload_n 1, 1) := by decide +kernel
theorem D206_1 : pgDecT 206 1 = some (.ifCond .lt 15, 3) := by decide +kernel
theorem D206_16 : pgDecT 206 16 = some (.iconst 0, 1) := by decide +kernel
theorem D206_17 : pgDecT 206 17 = some (.ireturn, 1) := by decide +kernel
theorem D206_4 : pgDecT 206 4 = some (.iload_n 1, 1) := by decide +kernel
theorem D206_5 : pgDecT 206 5 = some (.aload_n 0, 1) := by decide +kernel
theorem D206_6 : pgDecT 206 6 = some (.getfield 209, 3) := by decide +kernel
theorem F206_209 : pgFf 206 209 = some (12, 12, 0) := by decide +kernel
theorem D206_9 : pgDecT 206 9 = some (.if_icmp .ge 7, 3) := by decide +kernel
theorem D206_12 : pgDecT 206 12 = some (.iconst 1, 1) := by decide +kernel
theorem D206_13 : pgDecT 206 13 = some (.goto 4, 3) := by decide +kernel
/-! 206: DictionaryHouseModel.isExpression (I)Z -/
def f206 (M : Mm) (x1 : Int) : Option Int := if x1 < 0 then (some 0) else (if (M 53 12) ≤ x1 then (some 0) else (some 1))
theorem c206 {L : Nat} {xs : Nat → Int32} {h : mvH} {M : Mm} {x1 : Int} {v : Int} (R : rp h M) (rx1 : rg x1) (hs : f206 M x1 = some v) : evx L xs 1 206 0 [(0, .inr (.inr (.inl (some 53)))), (1, .inl (iz x1))] [] h (.inl (some (.inl v)), 0) M := by
  unfold f206 at hs
  refine evx_F E206 D206_0 rfl rfl ?_
  by_cases cb1 : x1 < 0
  · rw [if_pos cb1] at hs
    refine evx_F E206 D206_1 rfl (ifT (c1_lt_T rx1 cb1)) ?_
    refine evx_F E206 D206_16 rfl rfl ?_
    cases hs
    exact evx_ret E206 D206_17 rfl (fun d => rfl) rfl (show rg _ from (by decide)) R
  · rw [if_neg cb1] at hs
    refine evx_F E206 D206_1 rfl (ifF (c1_lt_F rx1 (by omega))) ?_
    refine evx_F E206 D206_4 rfl rfl ?_
    refine evx_F E206 D206_5 rfl rfl ?_
    refine evx_gfi (k := 12) E206 D206_6 F206_209 H53 rfl R ?_
    by_cases cb2 : (M 53 12) ≤ x1
    · rw [if_pos cb2] at hs
      refine evx_F E206 D206_9 rfl (ifT (c2_ge_T rx1 (R.1 53 12) cb2)) ?_
      refine evx_F E206 D206_16 rfl rfl ?_
      cases hs
      exact evx_ret E206 D206_17 rfl (fun d => rfl) rfl (show rg _ from (by decide)) R
    · rw [if_neg cb2] at hs
      refine evx_F E206 D206_9 rfl (ifF (c2_ge_F rx1 (R.1 53 12) (by omega))) ?_
      refine evx_F E206 D206_12 rfl rfl ?_
      refine evx_F E206 D206_13 rfl rfl ?_
      cases hs
      exact evx_ret E206 D206_17 rfl (fun d => rfl) rfl (show rg _ from (by decide)) R
set_option maxRecDepth 20000 in
theorem E207 : pgMm 207 = some (⟨"DictionaryHouseModel", "apply", "(II)I"⟩, prog_14_method_22_code, 4, (some .int), []) := rfl
theorem D207_0 : pgDecT 207 0 = some (.aload_n 0, 1) := by decide +kernel
theorem D207_1 : pgDecT 207 1 = some (.iload_n 1, 1) := by decide +kernel
theorem D207_2 : pgDecT 207 2 = some (.invokevirtual 220, 3) := by decide +kernel
theorem I207_220 : pgIi 207 220 = some (206, 1, 12) := by decide +kernel
theorem D207_5 : pgDecT 207 5 = some (.ifCond .eq 15, 3) := by decide +kernel
theorem D207_20 : pgDecT 207 20 = some (.iconst 0, 1) := by decide +kernel
theorem D207_21 : pgDecT 207 21 = some (.istore_n 3, 1) := by decide +kernel
theorem D207_22 : pgDecT 207 22 = some (.aload_n 0, 1) := by decide +kernel
theorem D207_23 : pgDecT 207 23 = some (.iload_n 3, 1) := by decide +kernel
theorem D207_24 : pgDecT 207 24 = some (.iconst 4, 1) := by decide +kernel
theorem D207_25 : pgDecT 207 25 = some (.iload_n 1, 1) := by decide +kernel
theorem D207_26 : pgDecT 207 26 = some (.iload_n 2, 1) := by decide +kernel
theorem D207_27 : pgDecT 207 27 = some (.iload_n 3, 1) := by decide +kernel
theorem D207_28 : pgDecT 207 28 = some (.ifCond .eq 21, 3) := by decide +kernel
theorem D207_49 : pgDecT 207 49 = some (.iconst 1, 1) := by decide +kernel
theorem D207_50 : pgDecT 207 50 = some (.invokevirtual 216, 3) := by decide +kernel
theorem I207_216 : pgIi 207 216 = some (203, 5, 12) := by decide +kernel
theorem D207_53 : pgDecT 207 53 = some (.ireturn, 1) := by decide +kernel
theorem D207_8 : pgDecT 207 8 = some (.aload_n 0, 1) := by decide +kernel
theorem D207_9 : pgDecT 207 9 = some (.iload_n 2, 1) := by decide +kernel
theorem D207_10 : pgDecT 207 10 = some (.invokevirtual 220, 3) := by decide +kernel
theorem D207_13 : pgDecT 207 13 = some (.ifCond .eq 7, 3) := by decide +kernel
theorem D207_16 : pgDecT 207 16 = some (.iconst 1, 1) := by decide +kernel
theorem D207_17 : pgDecT 207 17 = some (.goto 4, 3) := by decide +kernel
theorem D207_31 : pgDecT 207 31 = some (.iconst 1, 1) := by decide +kernel
theorem D207_32 : pgDecT 207 32 = some (.aload_n 0, 1) := by decide +kernel
theorem D207_33 : pgDecT 207 33 = some (.getfield 47, 3) := by decide +kernel
theorem F207_47 : pgFf 207 47 = some (12, 16, 3) := by decide +kernel
theorem D207_36 : pgDecT 207 36 = some (.iload_n 1, 1) := by decide +kernel
theorem D207_37 : pgDecT 207 37 = some (.iaload, 1) := by decide +kernel
theorem D207_38 : pgDecT 207 38 = some (.iadd, 1) := by decide +kernel
theorem D207_39 : pgDecT 207 39 = some (.aload_n 0, 1) := by decide +kernel
theorem D207_40 : pgDecT 207 40 = some (.getfield 47, 3) := by decide +kernel
theorem D207_43 : pgDecT 207 43 = some (.iload_n 2, 1) := by decide +kernel
theorem D207_44 : pgDecT 207 44 = some (.iaload, 1) := by decide +kernel
theorem D207_45 : pgDecT 207 45 = some (.iadd, 1) := by decide +kernel
theorem D207_46 : pgDecT 207 46 = some (.goto 4, 3) := by decide +kernel
/-! 207: DictionaryHouseModel.apply (II)I -/
def f207 (M : Mm) (x1 : Int) (x2 : Int) : Option (Int × Mm) := (f206 M x1).bind (fun q2 => if q2 = 0 then (f203 M 0 4 x1 x2 1).bind (fun zq8 => some (zq8.1, zq8.2)) else (f206 M x2).bind (fun q14 => if q14 = 0 then (f203 M 0 4 x1 x2 1).bind (fun zq20 => some (zq20.1, zq20.2)) else (if 0 ≤ x1 ∧ x1 < 200 then (if 0 ≤ x2 ∧ x2 < 200 then (if rg (((1 : Int) + (M 66 (Int.toNat x1))) + (M 66 (Int.toNat x2))) then (f203 M 1 4 x1 x2 (((1 : Int) + (M 66 (Int.toNat x1))) + (M 66 (Int.toNat x2)))).bind (fun zq29 => some (zq29.1, zq29.2)) else none) else none) else none)))
theorem c207 {L : Nat} {xs : Nat → Int32} {h : mvH} {M : Mm} {x1 x2 : Int} {v : Int} {M' : Mm} (R : rp h M) (rx1 : rg x1) (rx2 : rg x2) (hs : f207 M x1 x2 = some (v, M')) : evx L xs 3 207 0 [(0, .inr (.inr (.inl (some 53)))), (1, .inl (iz x1)), (2, .inl (iz x2))] [] h (.inl (some (.inl v)), 0) M' := by
  unfold f207 at hs
  refine evx_F E207 D207_0 rfl rfl ?_
  refine evx_F E207 D207_1 rfl rfl ?_
  obtain ⟨q2, e1, hs⟩ := Option.bind_eq_some_iff.mp hs
  refine evx_cv (D := 2) E207 D207_2 I207_220 rfl rfl H53 ⟨Nat.le_of_ble_eq_true rfl, Nat.le_of_ble_eq_true rfl⟩ ⟨rfl, Nat.le_of_ble_eq_true rfl⟩ rfl R (evx_up (Nat.le_of_ble_eq_true rfl) (c206 R rx1 e1)) ?_
  intro h3 R4 w5
  have w5 : rg q2 := w5
  show evx _ _ _ _ _ _ (.inl (iz q2) :: _) _ _ _
  by_cases cb6 : q2 = 0
  · rw [if_pos cb6] at hs
    refine evx_F E207 D207_5 rfl (ifT (c1_eq_T w5 cb6)) ?_
    refine evx_F E207 D207_20 rfl rfl ?_
    refine evx_F E207 D207_21 rfl rfl ?_
    refine evx_F E207 D207_22 rfl rfl ?_
    refine evx_F E207 D207_23 rfl rfl ?_
    refine evx_F E207 D207_24 rfl rfl ?_
    refine evx_F E207 D207_25 rfl rfl ?_
    refine evx_F E207 D207_26 rfl rfl ?_
    refine evx_F E207 D207_27 rfl rfl ?_
    refine evx_F E207 D207_28 rfl rfl ?_
    refine evx_F E207 D207_49 rfl rfl ?_
    obtain ⟨⟨q8, M12⟩, e7, hs⟩ := Option.bind_eq_some_iff.mp hs
    dsimp only at hs
    refine evx_cv (D := 2) E207 D207_50 I207_216 rfl rfl H53 ⟨Nat.le_of_ble_eq_true rfl, Nat.le_of_ble_eq_true rfl⟩ ⟨rfl, Nat.le_of_ble_eq_true rfl⟩ rfl R4 (evx_up (Nat.le_of_ble_eq_true rfl) (c203 R4 (by decide) (by decide) rx1 rx2 (by decide) e7)) ?_
    intro h9 R10 w11
    have w11 : rg q8 := w11
    show evx _ _ _ _ _ _ (.inl (iz q8) :: _) _ _ _
    cases hs
    exact evx_ret E207 D207_53 rfl (fun d => rfl) rfl (show rg _ from w11) R10
  · rw [if_neg cb6] at hs
    refine evx_F E207 D207_5 rfl (ifF (c1_eq_F w5 (by omega))) ?_
    refine evx_F E207 D207_8 rfl rfl ?_
    refine evx_F E207 D207_9 rfl rfl ?_
    obtain ⟨q14, e13, hs⟩ := Option.bind_eq_some_iff.mp hs
    refine evx_cv (D := 2) E207 D207_10 I207_220 rfl rfl H53 ⟨Nat.le_of_ble_eq_true rfl, Nat.le_of_ble_eq_true rfl⟩ ⟨rfl, Nat.le_of_ble_eq_true rfl⟩ rfl R4 (evx_up (Nat.le_of_ble_eq_true rfl) (c206 R4 rx2 e13)) ?_
    intro h15 R16 w17
    have w17 : rg q14 := w17
    show evx _ _ _ _ _ _ (.inl (iz q14) :: _) _ _ _
    by_cases cb18 : q14 = 0
    · rw [if_pos cb18] at hs
      refine evx_F E207 D207_13 rfl (ifT (c1_eq_T w17 cb18)) ?_
      refine evx_F E207 D207_20 rfl rfl ?_
      refine evx_F E207 D207_21 rfl rfl ?_
      refine evx_F E207 D207_22 rfl rfl ?_
      refine evx_F E207 D207_23 rfl rfl ?_
      refine evx_F E207 D207_24 rfl rfl ?_
      refine evx_F E207 D207_25 rfl rfl ?_
      refine evx_F E207 D207_26 rfl rfl ?_
      refine evx_F E207 D207_27 rfl rfl ?_
      refine evx_F E207 D207_28 rfl rfl ?_
      refine evx_F E207 D207_49 rfl rfl ?_
      obtain ⟨⟨q20, M24⟩, e19, hs⟩ := Option.bind_eq_some_iff.mp hs
      dsimp only at hs
      refine evx_cv (D := 2) E207 D207_50 I207_216 rfl rfl H53 ⟨Nat.le_of_ble_eq_true rfl, Nat.le_of_ble_eq_true rfl⟩ ⟨rfl, Nat.le_of_ble_eq_true rfl⟩ rfl R16 (evx_up (Nat.le_of_ble_eq_true rfl) (c203 R16 (by decide) (by decide) rx1 rx2 (by decide) e19)) ?_
      intro h21 R22 w23
      have w23 : rg q20 := w23
      show evx _ _ _ _ _ _ (.inl (iz q20) :: _) _ _ _
      cases hs
      exact evx_ret E207 D207_53 rfl (fun d => rfl) rfl (show rg _ from w23) R22
    · rw [if_neg cb18] at hs
      refine evx_F E207 D207_13 rfl (ifF (c1_eq_F w17 (by omega))) ?_
      refine evx_F E207 D207_16 rfl rfl ?_
      refine evx_F E207 D207_17 rfl rfl ?_
      refine evx_F E207 D207_21 rfl rfl ?_
      refine evx_F E207 D207_22 rfl rfl ?_
      refine evx_F E207 D207_23 rfl rfl ?_
      refine evx_F E207 D207_24 rfl rfl ?_
      refine evx_F E207 D207_25 rfl rfl ?_
      refine evx_F E207 D207_26 rfl rfl ?_
      refine evx_F E207 D207_27 rfl rfl ?_
      refine evx_F E207 D207_28 rfl rfl ?_
      refine evx_F E207 D207_31 rfl rfl ?_
      refine evx_F E207 D207_32 rfl rfl ?_
      refine evx_gfr E207 D207_33 F207_47 H53 rfl R16 ?_
      refine evx_F E207 D207_36 rfl rfl ?_
      obtain ⟨k25, hs⟩ := ck hs
      refine evx_ial E207 D207_37 H66 (by decide) R16 k25 ?_
      refine evx_add E207 D207_38 ?_
      refine evx_F E207 D207_39 rfl rfl ?_
      refine evx_gfr E207 D207_40 F207_47 H53 rfl R16 ?_
      refine evx_F E207 D207_43 rfl rfl ?_
      obtain ⟨k26, hs⟩ := ck hs
      refine evx_ial E207 D207_44 H66 (by decide) R16 k26 ?_
      refine evx_add E207 D207_45 ?_
      refine evx_F E207 D207_46 rfl rfl ?_
      obtain ⟨k27, hs⟩ := ck hs
      obtain ⟨⟨q29, M33⟩, e28, hs⟩ := Option.bind_eq_some_iff.mp hs
      dsimp only at hs
      refine evx_cv (D := 2) E207 D207_50 I207_216 rfl rfl H53 ⟨Nat.le_of_ble_eq_true rfl, Nat.le_of_ble_eq_true rfl⟩ ⟨rfl, Nat.le_of_ble_eq_true rfl⟩ rfl R16 (evx_up (Nat.le_of_ble_eq_true rfl) (c203 R16 (by decide) (by decide) rx1 rx2 k27 e28)) ?_
      intro h30 R31 w32
      have w32 : rg q29 := w32
      show evx _ _ _ _ _ _ (.inl (iz q29) :: _) _ _ _
      cases hs
      exact evx_ret E207 D207_53 rfl (fun d => rfl) rfl (show rg _ from w32) R31
set_option maxRecDepth 20000 in
theorem E208 : pgMm 208 = some (⟨"DictionaryHouseModel", "use", "(II)I"⟩, prog_14_method_23_code, 3, (some .int), []) := rfl
theorem D208_0 : pgDecT 208 0 = some (.aload_n 0, 1) := by decide +kernel
theorem D208_1 : pgDecT 208 1 = some (.aload_n 0, 1) := by decide +kernel
theorem D208_2 : pgDecT 208 2 = some (.iload_n 1, 1) := by decide +kernel
theorem D208_3 : pgDecT 208 3 = some (.invokevirtual 199, 3) := by decide +kernel
theorem I208_199 : pgIi 208 199 = some (195, 1, 12) := by decide +kernel
theorem D208_6 : pgDecT 208 6 = some (.ifCond .eq 21, 3) := by decide +kernel
theorem D208_27 : pgDecT 208 27 = some (.iconst 0, 1) := by decide +kernel
theorem D208_28 : pgDecT 208 28 = some (.iconst 5, 1) := by decide +kernel
theorem D208_29 : pgDecT 208 29 = some (.iload_n 1, 1) := by decide +kernel
theorem D208_30 : pgDecT 208 30 = some (.iload_n 2, 1) := by decide +kernel
theorem D208_31 : pgDecT 208 31 = some (.iconst 1, 1) := by decide +kernel
theorem D208_32 : pgDecT 208 32 = some (.invokevirtual 216, 3) := by decide +kernel
theorem I208_216 : pgIi 208 216 = some (203, 5, 12) := by decide +kernel
theorem D208_35 : pgDecT 208 35 = some (.ireturn, 1) := by decide +kernel
theorem D208_9 : pgDecT 208 9 = some (.iload_n 2, 1) := by decide +kernel
theorem D208_10 : pgDecT 208 10 = some (.ifCond .lt 17, 3) := by decide +kernel
theorem D208_13 : pgDecT 208 13 = some (.iload_n 2, 1) := by decide +kernel
theorem D208_14 : pgDecT 208 14 = some (.aload_n 0, 1) := by decide +kernel
theorem D208_15 : pgDecT 208 15 = some (.getfield 22, 3) := by decide +kernel
theorem F208_22 : pgFf 208 22 = some (12, 7, 3) := by decide +kernel
theorem D208_18 : pgDecT 208 18 = some (.iload_n 1, 1) := by decide +kernel
theorem D208_19 : pgDecT 208 19 = some (.iaload, 1) := by decide +kernel
theorem D208_20 : pgDecT 208 20 = some (.if_icmp .ge 7, 3) := by decide +kernel
theorem D208_23 : pgDecT 208 23 = some (.iconst 1, 1) := by decide +kernel
theorem D208_24 : pgDecT 208 24 = some (.goto 4, 3) := by decide +kernel
/-! 208: DictionaryHouseModel.use (II)I -/
def f208 (M : Mm) (x1 : Int) (x2 : Int) : Option (Int × Mm) := (f195 M x1).bind (fun q2 => if q2 = 0 then (f203 M 0 5 x1 x2 1).bind (fun zq8 => some (zq8.1, zq8.2)) else (if x2 < 0 then (f203 M 0 5 x1 x2 1).bind (fun zq15 => some (zq15.1, zq15.2)) else (if 0 ≤ x1 ∧ x1 < 6 then (if (M 58 (Int.toNat x1)) ≤ x2 then (f203 M 0 5 x1 x2 1).bind (fun zq23 => some (zq23.1, zq23.2)) else (f203 M 1 5 x1 x2 1).bind (fun zq29 => some (zq29.1, zq29.2))) else none)))
theorem c208 {L : Nat} {xs : Nat → Int32} {h : mvH} {M : Mm} {x1 x2 : Int} {v : Int} {M' : Mm} (R : rp h M) (rx1 : rg x1) (rx2 : rg x2) (hs : f208 M x1 x2 = some (v, M')) : evx L xs 3 208 0 [(0, .inr (.inr (.inl (some 53)))), (1, .inl (iz x1)), (2, .inl (iz x2))] [] h (.inl (some (.inl v)), 0) M' := by
  unfold f208 at hs
  refine evx_F E208 D208_0 rfl rfl ?_
  refine evx_F E208 D208_1 rfl rfl ?_
  refine evx_F E208 D208_2 rfl rfl ?_
  obtain ⟨q2, e1, hs⟩ := Option.bind_eq_some_iff.mp hs
  refine evx_cv (D := 2) E208 D208_3 I208_199 rfl rfl H53 ⟨Nat.le_of_ble_eq_true rfl, Nat.le_of_ble_eq_true rfl⟩ ⟨rfl, Nat.le_of_ble_eq_true rfl⟩ rfl R (evx_up (Nat.le_of_ble_eq_true rfl) (c195 R rx1 e1)) ?_
  intro h3 R4 w5
  have w5 : rg q2 := w5
  show evx _ _ _ _ _ _ (.inl (iz q2) :: _) _ _ _
  by_cases cb6 : q2 = 0
  · rw [if_pos cb6] at hs
    refine evx_F E208 D208_6 rfl (ifT (c1_eq_T w5 cb6)) ?_
    refine evx_F E208 D208_27 rfl rfl ?_
    refine evx_F E208 D208_28 rfl rfl ?_
    refine evx_F E208 D208_29 rfl rfl ?_
    refine evx_F E208 D208_30 rfl rfl ?_
    refine evx_F E208 D208_31 rfl rfl ?_
    obtain ⟨⟨q8, M12⟩, e7, hs⟩ := Option.bind_eq_some_iff.mp hs
    dsimp only at hs
    refine evx_cv (D := 2) E208 D208_32 I208_216 rfl rfl H53 ⟨Nat.le_of_ble_eq_true rfl, Nat.le_of_ble_eq_true rfl⟩ ⟨rfl, Nat.le_of_ble_eq_true rfl⟩ rfl R4 (evx_up (Nat.le_of_ble_eq_true rfl) (c203 R4 (by decide) (by decide) rx1 rx2 (by decide) e7)) ?_
    intro h9 R10 w11
    have w11 : rg q8 := w11
    show evx _ _ _ _ _ _ (.inl (iz q8) :: _) _ _ _
    cases hs
    exact evx_ret E208 D208_35 rfl (fun d => rfl) rfl (show rg _ from w11) R10
  · rw [if_neg cb6] at hs
    refine evx_F E208 D208_6 rfl (ifF (c1_eq_F w5 (by omega))) ?_
    refine evx_F E208 D208_9 rfl rfl ?_
    by_cases cb13 : x2 < 0
    · rw [if_pos cb13] at hs
      refine evx_F E208 D208_10 rfl (ifT (c1_lt_T rx2 cb13)) ?_
      refine evx_F E208 D208_27 rfl rfl ?_
      refine evx_F E208 D208_28 rfl rfl ?_
      refine evx_F E208 D208_29 rfl rfl ?_
      refine evx_F E208 D208_30 rfl rfl ?_
      refine evx_F E208 D208_31 rfl rfl ?_
      obtain ⟨⟨q15, M19⟩, e14, hs⟩ := Option.bind_eq_some_iff.mp hs
      dsimp only at hs
      refine evx_cv (D := 2) E208 D208_32 I208_216 rfl rfl H53 ⟨Nat.le_of_ble_eq_true rfl, Nat.le_of_ble_eq_true rfl⟩ ⟨rfl, Nat.le_of_ble_eq_true rfl⟩ rfl R4 (evx_up (Nat.le_of_ble_eq_true rfl) (c203 R4 (by decide) (by decide) rx1 rx2 (by decide) e14)) ?_
      intro h16 R17 w18
      have w18 : rg q15 := w18
      show evx _ _ _ _ _ _ (.inl (iz q15) :: _) _ _ _
      cases hs
      exact evx_ret E208 D208_35 rfl (fun d => rfl) rfl (show rg _ from w18) R17
    · rw [if_neg cb13] at hs
      refine evx_F E208 D208_10 rfl (ifF (c1_lt_F rx2 (by omega))) ?_
      refine evx_F E208 D208_13 rfl rfl ?_
      refine evx_F E208 D208_14 rfl rfl ?_
      refine evx_gfr E208 D208_15 F208_22 H53 rfl R4 ?_
      refine evx_F E208 D208_18 rfl rfl ?_
      obtain ⟨k20, hs⟩ := ck hs
      refine evx_ial E208 D208_19 H58 (by decide) R4 k20 ?_
      by_cases cb21 : (M 58 (Int.toNat x1)) ≤ x2
      · rw [if_pos cb21] at hs
        refine evx_F E208 D208_20 rfl (ifT (c2_ge_T rx2 (R4.1 58 (Int.toNat x1)) cb21)) ?_
        refine evx_F E208 D208_27 rfl rfl ?_
        refine evx_F E208 D208_28 rfl rfl ?_
        refine evx_F E208 D208_29 rfl rfl ?_
        refine evx_F E208 D208_30 rfl rfl ?_
        refine evx_F E208 D208_31 rfl rfl ?_
        obtain ⟨⟨q23, M27⟩, e22, hs⟩ := Option.bind_eq_some_iff.mp hs
        dsimp only at hs
        refine evx_cv (D := 2) E208 D208_32 I208_216 rfl rfl H53 ⟨Nat.le_of_ble_eq_true rfl, Nat.le_of_ble_eq_true rfl⟩ ⟨rfl, Nat.le_of_ble_eq_true rfl⟩ rfl R4 (evx_up (Nat.le_of_ble_eq_true rfl) (c203 R4 (by decide) (by decide) rx1 rx2 (by decide) e22)) ?_
        intro h24 R25 w26
        have w26 : rg q23 := w26
        show evx _ _ _ _ _ _ (.inl (iz q23) :: _) _ _ _
        cases hs
        exact evx_ret E208 D208_35 rfl (fun d => rfl) rfl (show rg _ from w26) R25
      · rw [if_neg cb21] at hs
        refine evx_F E208 D208_20 rfl (ifF (c2_ge_F rx2 (R4.1 58 (Int.toNat x1)) (by omega))) ?_
        refine evx_F E208 D208_23 rfl rfl ?_
        refine evx_F E208 D208_24 rfl rfl ?_
        refine evx_F E208 D208_28 rfl rfl ?_
        refine evx_F E208 D208_29 rfl rfl ?_
        refine evx_F E208 D208_30 rfl rfl ?_
        refine evx_F E208 D208_31 rfl rfl ?_
        obtain ⟨⟨q29, M33⟩, e28, hs⟩ := Option.bind_eq_some_iff.mp hs
        dsimp only at hs
        refine evx_cv (D := 2) E208 D208_32 I208_216 rfl rfl H53 ⟨Nat.le_of_ble_eq_true rfl, Nat.le_of_ble_eq_true rfl⟩ ⟨rfl, Nat.le_of_ble_eq_true rfl⟩ rfl R4 (evx_up (Nat.le_of_ble_eq_true rfl) (c203 R4 (by decide) (by decide) rx1 rx2 (by decide) e28)) ?_
        intro h30 R31 w32
        have w32 : rg q29 := w32
        show evx _ _ _ _ _ _ (.inl (iz q29) :: _) _ _ _
        cases hs
        exact evx_ret E208 D208_35 rfl (fun d => rfl) rfl (show rg _ from w32) R31
set_option maxRecDepth 20000 in
theorem E209 : pgMm 209 = some (⟨"DictionaryHouseModel", "given", "(I)I"⟩, prog_14_method_24_code, 2, (some .int), []) := rfl
theorem D209_0 : pgDecT 209 0 = some (.aload_n 0, 1) := by decide +kernel
theorem D209_1 : pgDecT 209 1 = some (.iload_n 1, 1) := by decide +kernel
theorem D209_2 : pgDecT 209 2 = some (.ifCond .lt 15, 3) := by decide +kernel
theorem D209_17 : pgDecT 209 17 = some (.iconst 0, 1) := by decide +kernel
theorem D209_18 : pgDecT 209 18 = some (.bipush 6, 2) := by decide +kernel
theorem D209_20 : pgDecT 209 20 = some (.iload_n 1, 1) := by decide +kernel
theorem D209_21 : pgDecT 209 21 = some (.iconst 0, 1) := by decide +kernel
theorem D209_22 : pgDecT 209 22 = some (.iconst 1, 1) := by decide +kernel
theorem D209_23 : pgDecT 209 23 = some (.invokevirtual 216, 3) := by decide +kernel
theorem I209_216 : pgIi 209 216 = some (203, 5, 12) := by decide +kernel
theorem D209_26 : pgDecT 209 26 = some (.ireturn, 1) := by decide +kernel
theorem D209_5 : pgDecT 209 5 = some (.iload_n 1, 1) := by decide +kernel
theorem D209_6 : pgDecT 209 6 = some (.aload_n 0, 1) := by decide +kernel
theorem D209_7 : pgDecT 209 7 = some (.getfield 223, 3) := by decide +kernel
theorem F209_223 : pgFf 209 223 = some (12, 17, 0) := by decide +kernel
theorem D209_10 : pgDecT 209 10 = some (.if_icmp .ge 7, 3) := by decide +kernel
theorem D209_13 : pgDecT 209 13 = some (.iconst 1, 1) := by decide +kernel
theorem D209_14 : pgDecT 209 14 = some (.goto 4, 3) := by decide +kernel
/-! 209: DictionaryHouseModel.given (I)I -/
def f209 (M : Mm) (x1 : Int) : Option (Int × Mm) := if x1 < 0 then (f203 M 0 6 x1 0 1).bind (fun zq3 => some (zq3.1, zq3.2)) else (if (M 53 17) ≤ x1 then (f203 M 0 6 x1 0 1).bind (fun zq10 => some (zq10.1, zq10.2)) else (f203 M 1 6 x1 0 1).bind (fun zq16 => some (zq16.1, zq16.2)))
theorem c209 {L : Nat} {xs : Nat → Int32} {h : mvH} {M : Mm} {x1 : Int} {v : Int} {M' : Mm} (R : rp h M) (rx1 : rg x1) (hs : f209 M x1 = some (v, M')) : evx L xs 3 209 0 [(0, .inr (.inr (.inl (some 53)))), (1, .inl (iz x1))] [] h (.inl (some (.inl v)), 0) M' := by
  unfold f209 at hs
  refine evx_F E209 D209_0 rfl rfl ?_
  refine evx_F E209 D209_1 rfl rfl ?_
  by_cases cb1 : x1 < 0
  · rw [if_pos cb1] at hs
    refine evx_F E209 D209_2 rfl (ifT (c1_lt_T rx1 cb1)) ?_
    refine evx_F E209 D209_17 rfl rfl ?_
    refine evx_k (k := 6) E209 D209_18 rfl (by decide) ?_
    refine evx_F E209 D209_20 rfl rfl ?_
    refine evx_F E209 D209_21 rfl rfl ?_
    refine evx_F E209 D209_22 rfl rfl ?_
    obtain ⟨⟨q3, M7⟩, e2, hs⟩ := Option.bind_eq_some_iff.mp hs
    dsimp only at hs
    refine evx_cv (D := 2) E209 D209_23 I209_216 rfl rfl H53 ⟨Nat.le_of_ble_eq_true rfl, Nat.le_of_ble_eq_true rfl⟩ ⟨rfl, Nat.le_of_ble_eq_true rfl⟩ rfl R (evx_up (Nat.le_of_ble_eq_true rfl) (c203 R (by decide) (by decide) rx1 (by decide) (by decide) e2)) ?_
    intro h4 R5 w6
    have w6 : rg q3 := w6
    show evx _ _ _ _ _ _ (.inl (iz q3) :: _) _ _ _
    cases hs
    exact evx_ret E209 D209_26 rfl (fun d => rfl) rfl (show rg _ from w6) R5
  · rw [if_neg cb1] at hs
    refine evx_F E209 D209_2 rfl (ifF (c1_lt_F rx1 (by omega))) ?_
    refine evx_F E209 D209_5 rfl rfl ?_
    refine evx_F E209 D209_6 rfl rfl ?_
    refine evx_gfi (k := 17) E209 D209_7 F209_223 H53 rfl R ?_
    by_cases cb8 : (M 53 17) ≤ x1
    · rw [if_pos cb8] at hs
      refine evx_F E209 D209_10 rfl (ifT (c2_ge_T rx1 (R.1 53 17) cb8)) ?_
      refine evx_F E209 D209_17 rfl rfl ?_
      refine evx_k (k := 6) E209 D209_18 rfl (by decide) ?_
      refine evx_F E209 D209_20 rfl rfl ?_
      refine evx_F E209 D209_21 rfl rfl ?_
      refine evx_F E209 D209_22 rfl rfl ?_
      obtain ⟨⟨q10, M14⟩, e9, hs⟩ := Option.bind_eq_some_iff.mp hs
      dsimp only at hs
      refine evx_cv (D := 2) E209 D209_23 I209_216 rfl rfl H53 ⟨Nat.le_of_ble_eq_true rfl, Nat.le_of_ble_eq_true rfl⟩ ⟨rfl, Nat.le_of_ble_eq_true rfl⟩ rfl R (evx_up (Nat.le_of_ble_eq_true rfl) (c203 R (by decide) (by decide) rx1 (by decide) (by decide) e9)) ?_
      intro h11 R12 w13
      have w13 : rg q10 := w13
      show evx _ _ _ _ _ _ (.inl (iz q10) :: _) _ _ _
      cases hs
      exact evx_ret E209 D209_26 rfl (fun d => rfl) rfl (show rg _ from w13) R12
    · rw [if_neg cb8] at hs
      refine evx_F E209 D209_10 rfl (ifF (c2_ge_F rx1 (R.1 53 17) (by omega))) ?_
      refine evx_F E209 D209_13 rfl rfl ?_
      refine evx_F E209 D209_14 rfl rfl ?_
      refine evx_k (k := 6) E209 D209_18 rfl (by decide) ?_
      refine evx_F E209 D209_20 rfl rfl ?_
      refine evx_F E209 D209_21 rfl rfl ?_
      refine evx_F E209 D209_22 rfl rfl ?_
      obtain ⟨⟨q16, M20⟩, e15, hs⟩ := Option.bind_eq_some_iff.mp hs
      dsimp only at hs
      refine evx_cv (D := 2) E209 D209_23 I209_216 rfl rfl H53 ⟨Nat.le_of_ble_eq_true rfl, Nat.le_of_ble_eq_true rfl⟩ ⟨rfl, Nat.le_of_ble_eq_true rfl⟩ rfl R (evx_up (Nat.le_of_ble_eq_true rfl) (c203 R (by decide) (by decide) rx1 (by decide) (by decide) e15)) ?_
      intro h17 R18 w19
      have w19 : rg q16 := w19
      show evx _ _ _ _ _ _ (.inl (iz q16) :: _) _ _ _
      cases hs
      exact evx_ret E209 D209_26 rfl (fun d => rfl) rfl (show rg _ from w19) R18
set_option maxRecDepth 20000 in
theorem E214 : pgMm 214 = some (⟨"DictionaryHouseModel", "node", "(III)I"⟩, prog_14_method_25_code, 4, (some .int), []) := rfl
theorem D214_0 : pgDecT 214 0 = some (.aload_n 0, 1) := by decide +kernel
theorem D214_1 : pgDecT 214 1 = some (.getfield 79, 3) := by decide +kernel
theorem F214_79 : pgFf 214 79 = some (12, 29, 3) := by decide +kernel
theorem D214_4 : pgDecT 214 4 = some (.aload_n 0, 1) := by decide +kernel
theorem D214_5 : pgDecT 214 5 = some (.getfield 226, 3) := by decide +kernel
theorem F214_226 : pgFf 214 226 = some (12, 28, 0) := by decide +kernel
theorem D214_8 : pgDecT 214 8 = some (.iload_n 1, 1) := by decide +kernel
theorem D214_9 : pgDecT 214 9 = some (.iastore, 1) := by decide +kernel
theorem D214_10 : pgDecT 214 10 = some (.aload_n 0, 1) := by decide +kernel
theorem D214_11 : pgDecT 214 11 = some (.getfield 82, 3) := by decide +kernel
theorem F214_82 : pgFf 214 82 = some (12, 30, 3) := by decide +kernel
theorem D214_14 : pgDecT 214 14 = some (.aload_n 0, 1) := by decide +kernel
theorem D214_15 : pgDecT 214 15 = some (.getfield 226, 3) := by decide +kernel
theorem D214_18 : pgDecT 214 18 = some (.iload_n 2, 1) := by decide +kernel
theorem D214_19 : pgDecT 214 19 = some (.iastore, 1) := by decide +kernel
theorem D214_20 : pgDecT 214 20 = some (.aload_n 0, 1) := by decide +kernel
theorem D214_21 : pgDecT 214 21 = some (.getfield 85, 3) := by decide +kernel
theorem F214_85 : pgFf 214 85 = some (12, 31, 3) := by decide +kernel
theorem D214_24 : pgDecT 214 24 = some (.aload_n 0, 1) := by decide +kernel
theorem D214_25 : pgDecT 214 25 = some (.getfield 226, 3) := by decide +kernel
theorem D214_28 : pgDecT 214 28 = some (.iload_n 3, 1) := by decide +kernel
theorem D214_29 : pgDecT 214 29 = some (.iastore, 1) := by decide +kernel
theorem D214_30 : pgDecT 214 30 = some (.aload_n 0, 1) := by decide +kernel
theorem D214_31 : pgDecT 214 31 = some (.getfield 88, 3) := by decide +kernel
theorem F214_88 : pgFf 214 88 = some (12, 32, 3) := by decide +kernel
theorem D214_34 : pgDecT 214 34 = some (.aload_n 0, 1) := by decide +kernel
theorem D214_35 : pgDecT 214 35 = some (.getfield 226, 3) := by decide +kernel
theorem D214_38 : pgDecT 214 38 = some (.aload_n 0, 1) := by decide +kernel
theorem D214_39 : pgDecT 214 39 = some (.getfield 226, 3) := by decide +kernel
theorem D214_42 : pgDecT 214 42 = some (.iastore, 1) := by decide +kernel
theorem D214_43 : pgDecT 214 43 = some (.aload_n 0, 1) := by decide +kernel
theorem D214_44 : pgDecT 214 44 = some (.dup, 1) := by decide +kernel
theorem D214_45 : pgDecT 214 45 = some (.getfield 226, 3) := by decide +kernel
theorem D214_48 : pgDecT 214 48 = some (.iconst 1, 1) := by decide +kernel
theorem D214_49 : pgDecT 214 49 = some (.iadd, 1) := by decide +kernel
theorem D214_50 : pgDecT 214 50 = some (.putfield 226, 3) := by decide +kernel
theorem D214_53 : pgDecT 214 53 = some (.aload_n 0, 1) := by decide +kernel
theorem D214_54 : pgDecT 214 54 = some (.getfield 226, 3) := by decide +kernel
theorem D214_57 : pgDecT 214 57 = some (.iconst 1, 1) := by decide +kernel
theorem D214_58 : pgDecT 214 58 = some (.isub, 1) := by decide +kernel
theorem D214_59 : pgDecT 214 59 = some (.ireturn, 1) := by decide +kernel
/-! 214: DictionaryHouseModel.node (III)I -/
def f214 (M : Mm) (x1 : Int) (x2 : Int) (x3 : Int) : Option (Int × Mm) := if 0 ≤ (M 53 28) ∧ (M 53 28) < 4000 then (if rg ((M 53 28) + 1) then (if rg (((M 53 28) + 1) - 1) then (some ((((M 53 28) + 1) - 1), (up (up (up (up (up M 76 (Int.toNat (M 53 28)) x1) 77 (Int.toNat (M 53 28)) x2) 78 (Int.toNat (M 53 28)) x3) 79 (Int.toNat (M 53 28)) (M 53 28)) 53 28 ((M 53 28) + 1)))) else none) else none) else none
theorem c214 {L : Nat} {xs : Nat → Int32} {h : mvH} {M : Mm} {x1 x2 x3 : Int} {v : Int} {M' : Mm} (R : rp h M) (rx1 : rg x1) (rx2 : rg x2) (rx3 : rg x3) (hs : f214 M x1 x2 x3 = some (v, M')) : evx L xs 1 214 0 [(0, .inr (.inr (.inl (some 53)))), (1, .inl (iz x1)), (2, .inl (iz x2)), (3, .inl (iz x3))] [] h (.inl (some (.inl v)), 0) M' := by
  unfold f214 at hs
  refine evx_F E214 D214_0 rfl rfl ?_
  refine evx_gfr E214 D214_1 F214_79 H53 rfl R ?_
  refine evx_F E214 D214_4 rfl rfl ?_
  refine evx_gfi (k := 28) E214 D214_5 F214_226 H53 rfl R ?_
  refine evx_F E214 D214_8 rfl rfl ?_
  obtain ⟨k1, hs⟩ := ck hs
  refine evx_ias E214 D214_9 H76 (by decide) R k1 rx1 ?_
  intro h2 R3
  refine evx_F E214 D214_10 rfl rfl ?_
  refine evx_gfr E214 D214_11 F214_82 H53 rfl R3 ?_
  refine evx_F E214 D214_14 rfl rfl ?_
  refine evx_gfi (k := 28) E214 D214_15 F214_226 H53 rfl R3 ?_
  show evx _ _ _ _ _ _ (.inl (iz (M 53 28)) :: _) _ _ _
  refine evx_F E214 D214_18 rfl rfl ?_
  refine evx_ias E214 D214_19 H77 (by decide) R3 k1 rx2 ?_
  intro h4 R5
  refine evx_F E214 D214_20 rfl rfl ?_
  refine evx_gfr E214 D214_21 F214_85 H53 rfl R5 ?_
  refine evx_F E214 D214_24 rfl rfl ?_
  refine evx_gfi (k := 28) E214 D214_25 F214_226 H53 rfl R5 ?_
  show evx _ _ _ _ _ _ (.inl (iz (M 53 28)) :: _) _ _ _
  refine evx_F E214 D214_28 rfl rfl ?_
  refine evx_ias E214 D214_29 H78 (by decide) R5 k1 rx3 ?_
  intro h6 R7
  refine evx_F E214 D214_30 rfl rfl ?_
  refine evx_gfr E214 D214_31 F214_88 H53 rfl R7 ?_
  refine evx_F E214 D214_34 rfl rfl ?_
  refine evx_gfi (k := 28) E214 D214_35 F214_226 H53 rfl R7 ?_
  show evx _ _ _ _ _ _ (.inl (iz (M 53 28)) :: _) _ _ _
  refine evx_F E214 D214_38 rfl rfl ?_
  refine evx_gfi (k := 28) E214 D214_39 F214_226 H53 rfl R7 ?_
  show evx _ _ _ _ _ _ (.inl (iz (M 53 28)) :: _) _ _ _
  refine evx_ias E214 D214_42 H79 (by decide) R7 k1 (R7.1 53 28) ?_
  intro h8 R9
  refine evx_F E214 D214_43 rfl rfl ?_
  refine evx_F E214 D214_44 rfl rfl ?_
  refine evx_gfi (k := 28) E214 D214_45 F214_226 H53 rfl R9 ?_
  show evx _ _ _ _ _ _ (.inl (iz (M 53 28)) :: _) _ _ _
  refine evx_F E214 D214_48 rfl rfl ?_
  refine evx_add E214 D214_49 ?_
  obtain ⟨k10, hs⟩ := ck hs
  refine evx_pfi (k := 28) E214 D214_50 F214_226 H53 rfl R9 k10 rfl ?_
  intro h11 R12
  refine evx_F E214 D214_53 rfl rfl ?_
  refine evx_gfi (k := 28) E214 D214_54 F214_226 H53 rfl R12 ?_
  show evx _ _ _ _ _ _ (.inl (iz ((M 53 28) + 1)) :: _) _ _ _
  refine evx_F E214 D214_57 rfl rfl ?_
  refine evx_sub E214 D214_58 ?_
  obtain ⟨k13, hs⟩ := ck hs
  cases hs
  exact evx_ret E214 D214_59 rfl (fun d => rfl) rfl (show rg _ from k13) R12
set_option maxRecDepth 20000 in
theorem E217 : pgMm 217 = some (⟨"DictionaryHouseModel", "root", "(I)I"⟩, prog_14_method_28_code, 3, (some .int), []) := rfl
theorem D217_0 : pgDecT 217 0 = some (.iload_n 1, 1) := by decide +kernel
theorem D217_1 : pgDecT 217 1 = some (.istore_n 2, 1) := by decide +kernel
theorem D217_2 : pgDecT 217 2 = some (.aload_n 0, 1) := by decide +kernel
theorem D217_3 : pgDecT 217 3 = some (.getfield 88, 3) := by decide +kernel
theorem F217_88 : pgFf 217 88 = some (12, 32, 3) := by decide +kernel
theorem D217_6 : pgDecT 217 6 = some (.iload_n 2, 1) := by decide +kernel
theorem D217_7 : pgDecT 217 7 = some (.iaload, 1) := by decide +kernel
theorem D217_8 : pgDecT 217 8 = some (.iload_n 2, 1) := by decide +kernel
theorem D217_9 : pgDecT 217 9 = some (.if_icmp .eq 13, 3) := by decide +kernel
theorem D217_22 : pgDecT 217 22 = some (.iload_n 2, 1) := by decide +kernel
theorem D217_23 : pgDecT 217 23 = some (.ireturn, 1) := by decide +kernel
theorem D217_12 : pgDecT 217 12 = some (.aload_n 0, 1) := by decide +kernel
theorem D217_13 : pgDecT 217 13 = some (.getfield 88, 3) := by decide +kernel
theorem D217_16 : pgDecT 217 16 = some (.iload_n 2, 1) := by decide +kernel
theorem D217_17 : pgDecT 217 17 = some (.iaload, 1) := by decide +kernel
theorem D217_18 : pgDecT 217 18 = some (.istore_n 2, 1) := by decide +kernel
theorem D217_19 : pgDecT 217 19 = some (.goto (-17), 3) := by decide +kernel
/-! 217: DictionaryHouseModel.root (I)I -/
def l217 : Nat → Nat → Mm → Int → Int → Option Int
  | 0, _, _, _, _ => none
  | f + 1, 2, M, x1, x2 => if 0 ≤ x2 ∧ x2 < 4000 then (if (M 79 (Int.toNat x2)) = x2 then (some x2) else (l217 f 2 M x1 (M 79 (Int.toNat x2)))) else none
  | _, _, _, _, _ => none
theorem d217 {L : Nat} {xs : Nat → Int32} (f : Nat) : (∀ (M : Mm) (x1 x2 : Int) (h : mvH) (v : Int) , l217 f 2 M x1 x2 = some v → rp h M → rg x1 → rg x2 → evx L xs 1 217 2 [(0, .inr (.inr (.inl (some 53)))), (1, .inl (iz x1)), (2, .inl (iz x2))] [] h (.inl (some (.inl v)), 0) M) := by
  induction f with
  | zero => exact (fun M x1 x2 h v hs _ _ _ => by cases hs)
  | succ f ih =>
    intro M x1 x2 h v hs R rx1 rx2
    rw [l217] at hs
    refine evx_F E217 D217_2 rfl rfl ?_
    refine evx_gfr E217 D217_3 F217_88 H53 rfl R ?_
    refine evx_F E217 D217_6 rfl rfl ?_
    obtain ⟨k1, hs⟩ := ck hs
    refine evx_ial E217 D217_7 H79 (by decide) R k1 ?_
    refine evx_F E217 D217_8 rfl rfl ?_
    by_cases cb2 : (M 79 (Int.toNat x2)) = x2
    · rw [if_pos cb2] at hs
      refine evx_F E217 D217_9 rfl (ifT (c2_eq_T (R.1 79 (Int.toNat x2)) rx2 cb2)) ?_
      refine evx_F E217 D217_22 rfl rfl ?_
      cases hs
      exact evx_ret E217 D217_23 rfl (fun d => rfl) rfl (show rg _ from rx2) R
    · rw [if_neg cb2] at hs
      refine evx_F E217 D217_9 rfl (ifF (c2_eq_F (R.1 79 (Int.toNat x2)) rx2 (by omega))) ?_
      refine evx_F E217 D217_12 rfl rfl ?_
      refine evx_gfr E217 D217_13 F217_88 H53 rfl R ?_
      refine evx_F E217 D217_16 rfl rfl ?_
      refine evx_ial E217 D217_17 H79 (by decide) R k1 ?_
      refine evx_F E217 D217_18 rfl rfl ?_
      refine evx_F E217 D217_19 rfl rfl ?_
      show evx _ _ _ _ _ [(2, .inl (iz (M 79 (Int.toNat x2)))), (0, .inr (.inr (.inl (some 53)))), (1, .inl (iz x1))] _ _ _ _
      exact evx_lv (lvLe_mk (fm rfl (fm rfl (fm rfl fn))) (fm rfl (fm rfl (fm rfl fn))) (fm rfl (fm rfl (fm rfl fn)))) (ih _ _ _ _ _ hs R rx1 (R.1 79 (Int.toNat x2)))
def f217 (M : Mm) (x1 : Int) : Option Int := l217 FU 2 M x1 x1
theorem c217 {L : Nat} {xs : Nat → Int32} {h : mvH} {M : Mm} {x1 : Int} {v : Int} (R : rp h M) (rx1 : rg x1) (hs : f217 M x1 = some v) : evx L xs 1 217 0 [(0, .inr (.inr (.inl (some 53)))), (1, .inl (iz x1))] [] h (.inl (some (.inl v)), 0) M := by
  unfold f217 at hs
  refine evx_F E217 D217_0 rfl rfl ?_
  refine evx_F E217 D217_1 rfl rfl ?_
  show evx _ _ _ _ _ [(2, .inl (iz x1)), (0, .inr (.inr (.inl (some 53)))), (1, .inl (iz x1))] _ _ _ _
  exact evx_lv (lvLe_mk (fm rfl (fm rfl (fm rfl fn))) (fm rfl (fm rfl (fm rfl fn))) (fm rfl (fm rfl (fm rfl fn)))) ((d217 FU) _ _ _ _ _ hs R rx1 rx1)
set_option maxRecDepth 20000 in
theorem E219 : pgMm 219 = some (⟨"DictionaryHouseModel", "arrow", "(II)I"⟩, prog_14_method_27_code, 3, (some .int), []) := rfl
theorem D219_0 : pgDecT 219 0 = some (.aload_n 0, 1) := by decide +kernel
theorem D219_1 : pgDecT 219 1 = some (.iconst 4, 1) := by decide +kernel
theorem D219_2 : pgDecT 219 2 = some (.iload_n 1, 1) := by decide +kernel
theorem D219_3 : pgDecT 219 3 = some (.iload_n 2, 1) := by decide +kernel
theorem D219_4 : pgDecT 219 4 = some (.invokevirtual 229, 3) := by decide +kernel
theorem I219_229 : pgIi 219 229 = some (214, 3, 12) := by decide +kernel
theorem D219_7 : pgDecT 219 7 = some (.ireturn, 1) := by decide +kernel
/-! 219: DictionaryHouseModel.arrow (II)I -/
def f219 (M : Mm) (x1 : Int) (x2 : Int) : Option (Int × Mm) := (f214 M 4 x1 x2).bind (fun zq2 => some (zq2.1, zq2.2))
theorem c219 {L : Nat} {xs : Nat → Int32} {h : mvH} {M : Mm} {x1 x2 : Int} {v : Int} {M' : Mm} (R : rp h M) (rx1 : rg x1) (rx2 : rg x2) (hs : f219 M x1 x2 = some (v, M')) : evx L xs 2 219 0 [(0, .inr (.inr (.inl (some 53)))), (1, .inl (iz x1)), (2, .inl (iz x2))] [] h (.inl (some (.inl v)), 0) M' := by
  unfold f219 at hs
  refine evx_F E219 D219_0 rfl rfl ?_
  refine evx_F E219 D219_1 rfl rfl ?_
  refine evx_F E219 D219_2 rfl rfl ?_
  refine evx_F E219 D219_3 rfl rfl ?_
  obtain ⟨⟨q2, M6⟩, e1, hs⟩ := Option.bind_eq_some_iff.mp hs
  dsimp only at hs
  refine evx_cv (D := 1) E219 D219_4 I219_229 rfl rfl H53 ⟨Nat.le_of_ble_eq_true rfl, Nat.le_of_ble_eq_true rfl⟩ ⟨rfl, Nat.le_of_ble_eq_true rfl⟩ rfl R (evx_up (Nat.le_of_ble_eq_true rfl) (c214 R (by decide) rx1 rx2 e1)) ?_
  intro h3 R4 w5
  have w5 : rg q2 := w5
  show evx _ _ _ _ _ _ (.inl (iz q2) :: _) _ _ _
  cases hs
  exact evx_ret E219 D219_7 rfl (fun d => rfl) rfl (show rg _ from w5) R4
set_option maxRecDepth 20000 in
theorem E220 : pgMm 220 = some (⟨"DictionaryHouseModel", "localNode", "(II)I"⟩, prog_14_method_37_code, 5, (some .int), []) := rfl
theorem D220_0 : pgDecT 220 0 = some (.aload_n 0, 1) := by decide +kernel
theorem D220_1 : pgDecT 220 1 = some (.getfield 109, 3) := by decide +kernel
theorem F220_109 : pgFf 220 109 = some (12, 39, 3) := by decide +kernel
theorem D220_4 : pgDecT 220 4 = some (.iload_n 1, 1) := by decide +kernel
theorem D220_5 : pgDecT 220 5 = some (.iaload, 1) := by decide +kernel
theorem D220_6 : pgDecT 220 6 = some (.istore_n 3, 1) := by decide +kernel
theorem D220_7 : pgDecT 220 7 = some (.iconst 0, 1) := by decide +kernel
theorem D220_8 : pgDecT 220 8 = some (.istore 4, 2) := by decide +kernel
theorem D220_10 : pgDecT 220 10 = some (.iload 4, 2) := by decide +kernel
theorem D220_12 : pgDecT 220 12 = some (.iload_n 2, 1) := by decide +kernel
theorem D220_13 : pgDecT 220 13 = some (.if_icmp .ge 21, 3) := by decide +kernel
theorem D220_34 : pgDecT 220 34 = some (.iload_n 3, 1) := by decide +kernel
theorem D220_35 : pgDecT 220 35 = some (.iconst (-1), 1) := by decide +kernel
theorem D220_36 : pgDecT 220 36 = some (.if_icmp .ne 7, 3) := by decide +kernel
theorem D220_43 : pgDecT 220 43 = some (.aload_n 0, 1) := by decide +kernel
theorem D220_44 : pgDecT 220 44 = some (.getfield 112, 3) := by decide +kernel
theorem F220_112 : pgFf 220 112 = some (12, 40, 3) := by decide +kernel
theorem D220_47 : pgDecT 220 47 = some (.iload_n 3, 1) := by decide +kernel
theorem D220_48 : pgDecT 220 48 = some (.iaload, 1) := by decide +kernel
theorem D220_49 : pgDecT 220 49 = some (.ireturn, 1) := by decide +kernel
theorem D220_39 : pgDecT 220 39 = some (.iconst (-1), 1) := by decide +kernel
theorem D220_40 : pgDecT 220 40 = some (.goto 9, 3) := by decide +kernel
theorem D220_16 : pgDecT 220 16 = some (.iload_n 3, 1) := by decide +kernel
theorem D220_17 : pgDecT 220 17 = some (.iconst (-1), 1) := by decide +kernel
theorem D220_18 : pgDecT 220 18 = some (.if_icmp .eq 16, 3) := by decide +kernel
theorem D220_21 : pgDecT 220 21 = some (.aload_n 0, 1) := by decide +kernel
theorem D220_22 : pgDecT 220 22 = some (.getfield 109, 3) := by decide +kernel
theorem D220_25 : pgDecT 220 25 = some (.iload_n 3, 1) := by decide +kernel
theorem D220_26 : pgDecT 220 26 = some (.iaload, 1) := by decide +kernel
theorem D220_27 : pgDecT 220 27 = some (.istore_n 3, 1) := by decide +kernel
theorem D220_28 : pgDecT 220 28 = some (.iinc 4 1, 3) := by decide +kernel
theorem D220_31 : pgDecT 220 31 = some (.goto (-21), 3) := by decide +kernel
/-! 220: DictionaryHouseModel.localNode (II)I -/
def l220 : Nat → Nat → Mm → Int → Int → Int → Int → Option Int
  | 0, _, _, _, _, _, _ => none
  | f + 1, 10, M, x1, x2, x3, x4 => if x2 ≤ x4 then (if ¬ x3 = (-1) then (if 0 ≤ x3 ∧ x3 < 60 then (some (M 87 (Int.toNat x3))) else none) else (some (-1))) else (if x3 = (-1) then (if ¬ x3 = (-1) then (if 0 ≤ x3 ∧ x3 < 60 then (some (M 87 (Int.toNat x3))) else none) else (some (-1))) else (if 0 ≤ x3 ∧ x3 < 60 then (if rg (x4 + 1) then (l220 f 10 M x1 x2 (M 86 (Int.toNat x3)) (x4 + 1)) else none) else none))
  | _, _, _, _, _, _, _ => none
theorem d220 {L : Nat} {xs : Nat → Int32} (f : Nat) : (∀ (M : Mm) (x1 x2 x3 x4 : Int) (h : mvH) (v : Int) , l220 f 10 M x1 x2 x3 x4 = some v → rp h M → rg x1 → rg x2 → rg x3 → rg x4 → evx L xs 1 220 10 [(0, .inr (.inr (.inl (some 53)))), (1, .inl (iz x1)), (2, .inl (iz x2)), (3, .inl (iz x3)), (4, .inl (iz x4))] [] h (.inl (some (.inl v)), 0) M) := by
  induction f with
  | zero => exact (fun M x1 x2 x3 x4 h v hs _ _ _ _ _ => by cases hs)
  | succ f ih =>
    intro M x1 x2 x3 x4 h v hs R rx1 rx2 rx3 rx4
    rw [l220] at hs
    refine evx_F E220 D220_10 rfl rfl ?_
    refine evx_F E220 D220_12 rfl rfl ?_
    by_cases cb2 : x2 ≤ x4
    · rw [if_pos cb2] at hs
      refine evx_F E220 D220_13 rfl (ifT (c2_ge_T rx4 rx2 cb2)) ?_
      refine evx_F E220 D220_34 rfl rfl ?_
      refine evx_F E220 D220_35 rfl rfl ?_
      by_cases cb3 : ¬ x3 = (-1)
      · rw [if_pos cb3] at hs
        refine evx_F E220 D220_36 rfl (ifT (c2_ne_T rx3 (by decide) cb3)) ?_
        refine evx_F E220 D220_43 rfl rfl ?_
        refine evx_gfr E220 D220_44 F220_112 H53 rfl R ?_
        refine evx_F E220 D220_47 rfl rfl ?_
        obtain ⟨k4, hs⟩ := ck hs
        refine evx_ial E220 D220_48 H87 (by decide) R k4 ?_
        cases hs
        exact evx_ret E220 D220_49 rfl (fun d => rfl) rfl (show rg _ from (R.1 87 (Int.toNat x3))) R
      · rw [if_neg cb3] at hs
        refine evx_F E220 D220_36 rfl (ifF (c2_ne_F rx3 (by decide) (by omega))) ?_
        refine evx_F E220 D220_39 rfl rfl ?_
        refine evx_F E220 D220_40 rfl rfl ?_
        cases hs
        exact evx_ret E220 D220_49 rfl (fun d => rfl) rfl (show rg _ from (by decide)) R
    · rw [if_neg cb2] at hs
      refine evx_F E220 D220_13 rfl (ifF (c2_ge_F rx4 rx2 (by omega))) ?_
      refine evx_F E220 D220_16 rfl rfl ?_
      refine evx_F E220 D220_17 rfl rfl ?_
      by_cases cb5 : x3 = (-1)
      · rw [if_pos cb5] at hs
        refine evx_F E220 D220_18 rfl (ifT (c2_eq_T rx3 (by decide) cb5)) ?_
        refine evx_F E220 D220_34 rfl rfl ?_
        refine evx_F E220 D220_35 rfl rfl ?_
        by_cases cb6 : ¬ x3 = (-1)
        · rw [if_pos cb6] at hs
          refine evx_F E220 D220_36 rfl (ifT (c2_ne_T rx3 (by decide) cb6)) ?_
          refine evx_F E220 D220_43 rfl rfl ?_
          refine evx_gfr E220 D220_44 F220_112 H53 rfl R ?_
          refine evx_F E220 D220_47 rfl rfl ?_
          obtain ⟨k7, hs⟩ := ck hs
          refine evx_ial E220 D220_48 H87 (by decide) R k7 ?_
          cases hs
          exact evx_ret E220 D220_49 rfl (fun d => rfl) rfl (show rg _ from (R.1 87 (Int.toNat x3))) R
        · rw [if_neg cb6] at hs
          refine evx_F E220 D220_36 rfl (ifF (c2_ne_F rx3 (by decide) (by omega))) ?_
          refine evx_F E220 D220_39 rfl rfl ?_
          refine evx_F E220 D220_40 rfl rfl ?_
          cases hs
          exact evx_ret E220 D220_49 rfl (fun d => rfl) rfl (show rg _ from (by decide)) R
      · rw [if_neg cb5] at hs
        refine evx_F E220 D220_18 rfl (ifF (c2_eq_F rx3 (by decide) (by omega))) ?_
        refine evx_F E220 D220_21 rfl rfl ?_
        refine evx_gfr E220 D220_22 F220_109 H53 rfl R ?_
        refine evx_F E220 D220_25 rfl rfl ?_
        obtain ⟨k8, hs⟩ := ck hs
        refine evx_ial E220 D220_26 H86 (by decide) R k8 ?_
        refine evx_F E220 D220_27 rfl rfl ?_
        refine evx_inc E220 D220_28 (Nat.le_of_ble_eq_true rfl) rfl ?_
        refine evx_F E220 D220_31 rfl rfl ?_
        obtain ⟨k9, hs⟩ := ck hs
        show evx _ _ _ _ _ [(4, .inl (iz (x4 + 1))), (3, .inl (iz (M 86 (Int.toNat x3)))), (0, .inr (.inr (.inl (some 53)))), (1, .inl (iz x1)), (2, .inl (iz x2))] _ _ _ _
        exact evx_lv (lvLe_mk (fm rfl (fm rfl (fm rfl (fm rfl (fm rfl fn))))) (fm rfl (fm rfl (fm rfl (fm rfl (fm rfl fn))))) (fm rfl (fm rfl (fm rfl (fm rfl (fm rfl fn)))))) (ih _ _ _ _ _ _ _ hs R rx1 rx2 (R.1 86 (Int.toNat x3)) k9)
def f220 (M : Mm) (x1 : Int) (x2 : Int) : Option Int := if 0 ≤ x1 ∧ x1 < 60 then (l220 FU 10 M x1 x2 (M 86 (Int.toNat x1)) 0) else none
theorem c220 {L : Nat} {xs : Nat → Int32} {h : mvH} {M : Mm} {x1 x2 : Int} {v : Int} (R : rp h M) (rx1 : rg x1) (rx2 : rg x2) (hs : f220 M x1 x2 = some v) : evx L xs 1 220 0 [(0, .inr (.inr (.inl (some 53)))), (1, .inl (iz x1)), (2, .inl (iz x2))] [] h (.inl (some (.inl v)), 0) M := by
  unfold f220 at hs
  refine evx_F E220 D220_0 rfl rfl ?_
  refine evx_gfr E220 D220_1 F220_109 H53 rfl R ?_
  refine evx_F E220 D220_4 rfl rfl ?_
  obtain ⟨k1, hs⟩ := ck hs
  refine evx_ial E220 D220_5 H86 (by decide) R k1 ?_
  refine evx_F E220 D220_6 rfl rfl ?_
  refine evx_F E220 D220_7 rfl rfl ?_
  refine evx_F E220 D220_8 rfl rfl ?_
  show evx _ _ _ _ _ [(4, .inl (iz 0)), (3, .inl (iz (M 86 (Int.toNat x1)))), (0, .inr (.inr (.inl (some 53)))), (1, .inl (iz x1)), (2, .inl (iz x2))] _ _ _ _
  exact evx_lv (lvLe_mk (fm rfl (fm rfl (fm rfl (fm rfl (fm rfl fn))))) (fm rfl (fm rfl (fm rfl (fm rfl (fm rfl fn))))) (fm rfl (fm rfl (fm rfl (fm rfl (fm rfl fn)))))) ((d220 FU) _ _ _ _ _ _ _ hs R rx1 rx2 (R.1 86 (Int.toNat x1)) (by decide))
set_option maxRecDepth 20000 in
theorem E222 : pgMm 222 = some (⟨"DictionaryHouseModel", "want", "(II)V"⟩, prog_14_method_34_code, 3, none, []) := rfl
theorem D222_0 : pgDecT 222 0 = some (.aload_n 0, 1) := by decide +kernel
theorem D222_1 : pgDecT 222 1 = some (.getfield 121, 3) := by decide +kernel
theorem F222_121 : pgFf 222 121 = some (12, 44, 3) := by decide +kernel
theorem D222_4 : pgDecT 222 4 = some (.aload_n 0, 1) := by decide +kernel
theorem D222_5 : pgDecT 222 5 = some (.getfield 246, 3) := by decide +kernel
theorem F222_246 : pgFf 222 246 = some (12, 43, 0) := by decide +kernel
theorem D222_8 : pgDecT 222 8 = some (.iload_n 1, 1) := by decide +kernel
theorem D222_9 : pgDecT 222 9 = some (.iastore, 1) := by decide +kernel
theorem D222_10 : pgDecT 222 10 = some (.aload_n 0, 1) := by decide +kernel
theorem D222_11 : pgDecT 222 11 = some (.getfield 124, 3) := by decide +kernel
theorem F222_124 : pgFf 222 124 = some (12, 45, 3) := by decide +kernel
theorem D222_14 : pgDecT 222 14 = some (.aload_n 0, 1) := by decide +kernel
theorem D222_15 : pgDecT 222 15 = some (.getfield 246, 3) := by decide +kernel
theorem D222_18 : pgDecT 222 18 = some (.iload_n 2, 1) := by decide +kernel
theorem D222_19 : pgDecT 222 19 = some (.iastore, 1) := by decide +kernel
theorem D222_20 : pgDecT 222 20 = some (.aload_n 0, 1) := by decide +kernel
theorem D222_21 : pgDecT 222 21 = some (.dup, 1) := by decide +kernel
theorem D222_22 : pgDecT 222 22 = some (.getfield 246, 3) := by decide +kernel
theorem D222_25 : pgDecT 222 25 = some (.iconst 1, 1) := by decide +kernel
theorem D222_26 : pgDecT 222 26 = some (.iadd, 1) := by decide +kernel
theorem D222_27 : pgDecT 222 27 = some (.putfield 246, 3) := by decide +kernel
theorem D222_30 : pgDecT 222 30 = some (.return_, 1) := by decide +kernel
/-! 222: DictionaryHouseModel.want (II)V -/
def f222 (M : Mm) (x1 : Int) (x2 : Int) : Option (Int × Mm) := if 0 ≤ (M 53 43) ∧ (M 53 43) < 700 then (if rg ((M 53 43) + 1) then (some (0, (up (up (up M 90 (Int.toNat (M 53 43)) x1) 91 (Int.toNat (M 53 43)) x2) 53 43 ((M 53 43) + 1)))) else none) else none
theorem c222 {L : Nat} {xs : Nat → Int32} {h : mvH} {M : Mm} {x1 x2 : Int} {v : Int} {M' : Mm} (R : rp h M) (rx1 : rg x1) (rx2 : rg x2) (hs : f222 M x1 x2 = some (v, M')) : evx L xs 1 222 0 [(0, .inr (.inr (.inl (some 53)))), (1, .inl (iz x1)), (2, .inl (iz x2))] [] h (.inl none, 0) M' := by
  unfold f222 at hs
  refine evx_F E222 D222_0 rfl rfl ?_
  refine evx_gfr E222 D222_1 F222_121 H53 rfl R ?_
  refine evx_F E222 D222_4 rfl rfl ?_
  refine evx_gfi (k := 43) E222 D222_5 F222_246 H53 rfl R ?_
  refine evx_F E222 D222_8 rfl rfl ?_
  obtain ⟨k1, hs⟩ := ck hs
  refine evx_ias E222 D222_9 H90 (by decide) R k1 rx1 ?_
  intro h2 R3
  refine evx_F E222 D222_10 rfl rfl ?_
  refine evx_gfr E222 D222_11 F222_124 H53 rfl R3 ?_
  refine evx_F E222 D222_14 rfl rfl ?_
  refine evx_gfi (k := 43) E222 D222_15 F222_246 H53 rfl R3 ?_
  show evx _ _ _ _ _ _ (.inl (iz (M 53 43)) :: _) _ _ _
  refine evx_F E222 D222_18 rfl rfl ?_
  refine evx_ias E222 D222_19 H91 (by decide) R3 k1 rx2 ?_
  intro h4 R5
  refine evx_F E222 D222_20 rfl rfl ?_
  refine evx_F E222 D222_21 rfl rfl ?_
  refine evx_gfi (k := 43) E222 D222_22 F222_246 H53 rfl R5 ?_
  show evx _ _ _ _ _ _ (.inl (iz (M 53 43)) :: _) _ _ _
  refine evx_F E222 D222_25 rfl rfl ?_
  refine evx_add E222 D222_26 ?_
  obtain ⟨k6, hs⟩ := ck hs
  refine evx_pfi (k := 43) E222 D222_27 F222_246 H53 rfl R5 k6 rfl ?_
  intro h7 R8
  cases hs
  exact evx_ret E222 D222_30 rfl (fun d => rfl) rfl trivial R8
set_option maxRecDepth 20000 in
theorem E223 : pgMm 223 = some (⟨"DictionaryHouseModel", "copy", "(I)I"⟩, prog_14_method_29_code, 3, (some .int), []) := rfl
theorem D223_0 : pgDecT 223 0 = some (.bipush 10, 2) := by decide +kernel
theorem D223_2 : pgDecT 223 2 = some (.istore_n 2, 1) := by decide +kernel
theorem D223_3 : pgDecT 223 3 = some (.iload_n 2, 1) := by decide +kernel
theorem D223_4 : pgDecT 223 4 = some (.iload_n 1, 1) := by decide +kernel
theorem D223_5 : pgDecT 223 5 = some (.if_icmp .gt 16, 3) := by decide +kernel
theorem D223_21 : pgDecT 223 21 = some (.iconst 0, 1) := by decide +kernel
theorem D223_22 : pgDecT 223 22 = some (.istore_n 2, 1) := by decide +kernel
theorem D223_23 : pgDecT 223 23 = some (.iload_n 2, 1) := by decide +kernel
theorem D223_8 : pgDecT 223 8 = some (.aload_n 0, 1) := by decide +kernel
theorem D223_9 : pgDecT 223 9 = some (.getfield 100, 3) := by decide +kernel
theorem F223_100 : pgFf 223 100 = some (12, 36, 3) := by decide +kernel
theorem D223_12 : pgDecT 223 12 = some (.iload_n 2, 1) := by decide +kernel
theorem D223_13 : pgDecT 223 13 = some (.iconst (-1), 1) := by decide +kernel
theorem D223_14 : pgDecT 223 14 = some (.iastore, 1) := by decide +kernel
theorem D223_15 : pgDecT 223 15 = some (.iinc 2 1, 3) := by decide +kernel
theorem D223_18 : pgDecT 223 18 = some (.goto (-15), 3) := by decide +kernel
theorem D223_24 : pgDecT 223 24 = some (.bipush 40, 2) := by decide +kernel
theorem D223_26 : pgDecT 223 26 = some (.if_icmp .ge 25, 3) := by decide +kernel
theorem D223_51 : pgDecT 223 51 = some (.iload_n 1, 1) := by decide +kernel
theorem D223_52 : pgDecT 223 52 = some (.istore_n 2, 1) := by decide +kernel
theorem D223_53 : pgDecT 223 53 = some (.iload_n 2, 1) := by decide +kernel
theorem D223_29 : pgDecT 223 29 = some (.aload_n 0, 1) := by decide +kernel
theorem D223_30 : pgDecT 223 30 = some (.getfield 91, 3) := by decide +kernel
theorem F223_91 : pgFf 223 91 = some (12, 33, 3) := by decide +kernel
theorem D223_33 : pgDecT 223 33 = some (.iload_n 2, 1) := by decide +kernel
theorem D223_34 : pgDecT 223 34 = some (.iload_n 2, 1) := by decide +kernel
theorem D223_35 : pgDecT 223 35 = some (.iload_n 1, 1) := by decide +kernel
theorem D223_36 : pgDecT 223 36 = some (.if_icmp .ne 7, 3) := by decide +kernel
theorem D223_43 : pgDecT 223 43 = some (.iconst 0, 1) := by decide +kernel
theorem D223_44 : pgDecT 223 44 = some (.iastore, 1) := by decide +kernel
theorem D223_45 : pgDecT 223 45 = some (.iinc 2 1, 3) := by decide +kernel
theorem D223_48 : pgDecT 223 48 = some (.goto (-25), 3) := by decide +kernel
theorem D223_39 : pgDecT 223 39 = some (.iconst 1, 1) := by decide +kernel
theorem D223_40 : pgDecT 223 40 = some (.goto 4, 3) := by decide +kernel
theorem D223_54 : pgDecT 223 54 = some (.bipush 10, 2) := by decide +kernel
theorem D223_56 : pgDecT 223 56 = some (.if_icmp .lt 55, 3) := by decide +kernel
theorem D223_111 : pgDecT 223 111 = some (.iconst 0, 1) := by decide +kernel
theorem D223_112 : pgDecT 223 112 = some (.istore_n 2, 1) := by decide +kernel
theorem D223_113 : pgDecT 223 113 = some (.iload_n 2, 1) := by decide +kernel
theorem D223_59 : pgDecT 223 59 = some (.aload_n 0, 1) := by decide +kernel
theorem D223_60 : pgDecT 223 60 = some (.getfield 91, 3) := by decide +kernel
theorem D223_63 : pgDecT 223 63 = some (.iload_n 2, 1) := by decide +kernel
theorem D223_64 : pgDecT 223 64 = some (.iaload, 1) := by decide +kernel
theorem D223_65 : pgDecT 223 65 = some (.ifCond .ne 6, 3) := by decide +kernel
theorem D223_71 : pgDecT 223 71 = some (.aload_n 0, 1) := by decide +kernel
theorem D223_72 : pgDecT 223 72 = some (.getfield 91, 3) := by decide +kernel
theorem D223_75 : pgDecT 223 75 = some (.aload_n 0, 1) := by decide +kernel
theorem D223_76 : pgDecT 223 76 = some (.getfield 13, 3) := by decide +kernel
theorem F223_13 : pgFf 223 13 = some (12, 3, 3) := by decide +kernel
theorem D223_79 : pgDecT 223 79 = some (.iload_n 2, 1) := by decide +kernel
theorem D223_80 : pgDecT 223 80 = some (.iaload, 1) := by decide +kernel
theorem D223_81 : pgDecT 223 81 = some (.iconst 1, 1) := by decide +kernel
theorem D223_82 : pgDecT 223 82 = some (.iastore, 1) := by decide +kernel
theorem D223_83 : pgDecT 223 83 = some (.aload_n 0, 1) := by decide +kernel
theorem D223_84 : pgDecT 223 84 = some (.getfield 7, 3) := by decide +kernel
theorem F223_7 : pgFf 223 7 = some (12, 2, 3) := by decide +kernel
theorem D223_87 : pgDecT 223 87 = some (.iload_n 2, 1) := by decide +kernel
theorem D223_88 : pgDecT 223 88 = some (.iaload, 1) := by decide +kernel
theorem D223_89 : pgDecT 223 89 = some (.iconst 4, 1) := by decide +kernel
theorem D223_90 : pgDecT 223 90 = some (.if_icmp .ne 15, 3) := by decide +kernel
theorem D223_105 : pgDecT 223 105 = some (.iinc 2 (-1), 3) := by decide +kernel
theorem D223_108 : pgDecT 223 108 = some (.goto (-55), 3) := by decide +kernel
theorem D223_93 : pgDecT 223 93 = some (.aload_n 0, 1) := by decide +kernel
theorem D223_94 : pgDecT 223 94 = some (.getfield 91, 3) := by decide +kernel
theorem D223_97 : pgDecT 223 97 = some (.aload_n 0, 1) := by decide +kernel
theorem D223_98 : pgDecT 223 98 = some (.getfield 16, 3) := by decide +kernel
theorem F223_16 : pgFf 223 16 = some (12, 4, 3) := by decide +kernel
theorem D223_101 : pgDecT 223 101 = some (.iload_n 2, 1) := by decide +kernel
theorem D223_102 : pgDecT 223 102 = some (.iaload, 1) := by decide +kernel
theorem D223_103 : pgDecT 223 103 = some (.iconst 1, 1) := by decide +kernel
theorem D223_104 : pgDecT 223 104 = some (.iastore, 1) := by decide +kernel
theorem D223_68 : pgDecT 223 68 = some (.goto 37, 3) := by decide +kernel
theorem D223_114 : pgDecT 223 114 = some (.iload_n 1, 1) := by decide +kernel
theorem D223_115 : pgDecT 223 115 = some (.if_icmp .gt 120, 3) := by decide +kernel
theorem D223_235 : pgDecT 223 235 = some (.aload_n 0, 1) := by decide +kernel
theorem D223_236 : pgDecT 223 236 = some (.getfield 100, 3) := by decide +kernel
theorem D223_239 : pgDecT 223 239 = some (.iload_n 1, 1) := by decide +kernel
theorem D223_240 : pgDecT 223 240 = some (.iaload, 1) := by decide +kernel
theorem D223_241 : pgDecT 223 241 = some (.ireturn, 1) := by decide +kernel
theorem D223_118 : pgDecT 223 118 = some (.aload_n 0, 1) := by decide +kernel
theorem D223_119 : pgDecT 223 119 = some (.getfield 91, 3) := by decide +kernel
theorem D223_122 : pgDecT 223 122 = some (.iload_n 2, 1) := by decide +kernel
theorem D223_123 : pgDecT 223 123 = some (.iaload, 1) := by decide +kernel
theorem D223_124 : pgDecT 223 124 = some (.ifCond .ne 6, 3) := by decide +kernel
theorem D223_130 : pgDecT 223 130 = some (.iload_n 2, 1) := by decide +kernel
theorem D223_131 : pgDecT 223 131 = some (.iconst 2, 1) := by decide +kernel
theorem D223_132 : pgDecT 223 132 = some (.if_icmp .ge 19, 3) := by decide +kernel
theorem D223_151 : pgDecT 223 151 = some (.aload_n 0, 1) := by decide +kernel
theorem D223_152 : pgDecT 223 152 = some (.getfield 7, 3) := by decide +kernel
theorem D223_155 : pgDecT 223 155 = some (.iload_n 2, 1) := by decide +kernel
theorem D223_156 : pgDecT 223 156 = some (.iaload, 1) := by decide +kernel
theorem D223_157 : pgDecT 223 157 = some (.iconst 3, 1) := by decide +kernel
theorem D223_158 : pgDecT 223 158 = some (.if_icmp .ne 29, 3) := by decide +kernel
theorem D223_187 : pgDecT 223 187 = some (.aload_n 0, 1) := by decide +kernel
theorem D223_188 : pgDecT 223 188 = some (.getfield 7, 3) := by decide +kernel
theorem D223_191 : pgDecT 223 191 = some (.iload_n 2, 1) := by decide +kernel
theorem D223_192 : pgDecT 223 192 = some (.iaload, 1) := by decide +kernel
theorem D223_193 : pgDecT 223 193 = some (.iconst 4, 1) := by decide +kernel
theorem D223_194 : pgDecT 223 194 = some (.if_icmp .ne 35, 3) := by decide +kernel
theorem D223_229 : pgDecT 223 229 = some (.iinc 2 1, 3) := by decide +kernel
theorem D223_232 : pgDecT 223 232 = some (.goto (-119), 3) := by decide +kernel
theorem D223_197 : pgDecT 223 197 = some (.aload_n 0, 1) := by decide +kernel
theorem D223_198 : pgDecT 223 198 = some (.getfield 100, 3) := by decide +kernel
theorem D223_201 : pgDecT 223 201 = some (.iload_n 2, 1) := by decide +kernel
theorem D223_202 : pgDecT 223 202 = some (.aload_n 0, 1) := by decide +kernel
theorem D223_203 : pgDecT 223 203 = some (.aload_n 0, 1) := by decide +kernel
theorem D223_204 : pgDecT 223 204 = some (.getfield 100, 3) := by decide +kernel
theorem D223_207 : pgDecT 223 207 = some (.aload_n 0, 1) := by decide +kernel
theorem D223_208 : pgDecT 223 208 = some (.getfield 13, 3) := by decide +kernel
theorem D223_211 : pgDecT 223 211 = some (.iload_n 2, 1) := by decide +kernel
theorem D223_212 : pgDecT 223 212 = some (.iaload, 1) := by decide +kernel
theorem D223_213 : pgDecT 223 213 = some (.iaload, 1) := by decide +kernel
theorem D223_214 : pgDecT 223 214 = some (.aload_n 0, 1) := by decide +kernel
theorem D223_215 : pgDecT 223 215 = some (.getfield 100, 3) := by decide +kernel
theorem D223_218 : pgDecT 223 218 = some (.aload_n 0, 1) := by decide +kernel
theorem D223_219 : pgDecT 223 219 = some (.getfield 16, 3) := by decide +kernel
theorem D223_222 : pgDecT 223 222 = some (.iload_n 2, 1) := by decide +kernel
theorem D223_223 : pgDecT 223 223 = some (.iaload, 1) := by decide +kernel
theorem D223_224 : pgDecT 223 224 = some (.iaload, 1) := by decide +kernel
theorem D223_225 : pgDecT 223 225 = some (.invokevirtual 232, 3) := by decide +kernel
theorem I223_232 : pgIi 223 232 = some (219, 2, 12) := by decide +kernel
theorem D223_228 : pgDecT 223 228 = some (.iastore, 1) := by decide +kernel
theorem D223_161 : pgDecT 223 161 = some (.aload_n 0, 1) := by decide +kernel
theorem D223_162 : pgDecT 223 162 = some (.getfield 100, 3) := by decide +kernel
theorem D223_165 : pgDecT 223 165 = some (.iload_n 2, 1) := by decide +kernel
theorem D223_166 : pgDecT 223 166 = some (.aload_n 0, 1) := by decide +kernel
theorem D223_167 : pgDecT 223 167 = some (.iconst 3, 1) := by decide +kernel
theorem D223_168 : pgDecT 223 168 = some (.aload_n 0, 1) := by decide +kernel
theorem D223_169 : pgDecT 223 169 = some (.getfield 100, 3) := by decide +kernel
theorem D223_172 : pgDecT 223 172 = some (.aload_n 0, 1) := by decide +kernel
theorem D223_173 : pgDecT 223 173 = some (.getfield 13, 3) := by decide +kernel
theorem D223_176 : pgDecT 223 176 = some (.iload_n 2, 1) := by decide +kernel
theorem D223_177 : pgDecT 223 177 = some (.iaload, 1) := by decide +kernel
theorem D223_178 : pgDecT 223 178 = some (.iaload, 1) := by decide +kernel
theorem D223_179 : pgDecT 223 179 = some (.iconst 0, 1) := by decide +kernel
theorem D223_180 : pgDecT 223 180 = some (.invokevirtual 229, 3) := by decide +kernel
theorem I223_229 : pgIi 223 229 = some (214, 3, 12) := by decide +kernel
theorem D223_183 : pgDecT 223 183 = some (.iastore, 1) := by decide +kernel
theorem D223_184 : pgDecT 223 184 = some (.goto 45, 3) := by decide +kernel
theorem D223_135 : pgDecT 223 135 = some (.aload_n 0, 1) := by decide +kernel
theorem D223_136 : pgDecT 223 136 = some (.getfield 100, 3) := by decide +kernel
theorem D223_139 : pgDecT 223 139 = some (.iload_n 2, 1) := by decide +kernel
theorem D223_140 : pgDecT 223 140 = some (.aload_n 0, 1) := by decide +kernel
theorem D223_141 : pgDecT 223 141 = some (.iload_n 2, 1) := by decide +kernel
theorem D223_142 : pgDecT 223 142 = some (.iconst 0, 1) := by decide +kernel
theorem D223_143 : pgDecT 223 143 = some (.iconst 0, 1) := by decide +kernel
theorem D223_144 : pgDecT 223 144 = some (.invokevirtual 229, 3) := by decide +kernel
theorem D223_147 : pgDecT 223 147 = some (.iastore, 1) := by decide +kernel
theorem D223_148 : pgDecT 223 148 = some (.goto 81, 3) := by decide +kernel
theorem D223_127 : pgDecT 223 127 = some (.goto 102, 3) := by decide +kernel
/-! 223: DictionaryHouseModel.copy (I)I -/
def l223 : Nat → Nat → Mm → Int → Int → Option (Int × Mm)
  | 0, _, _, _, _ => none
  | f + 1, 3, M, x1, x2 => if x1 < x2 then (l223 f 23 M x1 0) else (if 0 ≤ x2 ∧ x2 < 40 then (if rg (x2 + 1) then (l223 f 3 (up M 83 (Int.toNat x2) (-1)) x1 (x2 + 1)) else none) else none)
  | f + 1, 23, M, x1, x2 => if 40 ≤ x2 then (l223 f 53 M x1 x1) else (if ¬ x2 = x1 then (if 0 ≤ x2 ∧ x2 < 4000 then (if rg (x2 + 1) then (l223 f 23 (up M 80 (Int.toNat x2) 0) x1 (x2 + 1)) else none) else none) else (if 0 ≤ x2 ∧ x2 < 4000 then (if rg (x2 + 1) then (l223 f 23 (up M 80 (Int.toNat x2) 1) x1 (x2 + 1)) else none) else none))
  | f + 1, 53, M, x1, x2 => if x2 < 10 then (l223 f 113 M x1 0) else (if 0 ≤ x2 ∧ x2 < 4000 then (if ¬ (M 80 (Int.toNat x2)) = 0 then (if 0 ≤ x2 ∧ x2 < 40 then (if 0 ≤ (M 55 (Int.toNat x2)) ∧ (M 55 (Int.toNat x2)) < 4000 then (if ¬ (M 54 (Int.toNat x2)) = 4 then (if rg (x2 + (-1)) then (l223 f 53 (up M 80 (Int.toNat (M 55 (Int.toNat x2))) 1) x1 (x2 + (-1))) else none) else (if 0 ≤ (M 56 (Int.toNat x2)) ∧ (M 56 (Int.toNat x2)) < 4000 then (if rg (x2 + (-1)) then (l223 f 53 (up (up M 80 (Int.toNat (M 55 (Int.toNat x2))) 1) 80 (Int.toNat (M 56 (Int.toNat x2))) 1) x1 (x2 + (-1))) else none) else none)) else none) else none) else (if rg (x2 + (-1)) then (l223 f 53 M x1 (x2 + (-1))) else none)) else none)
  | f + 1, 113, M, x1, x2 => if x1 < x2 then (if 0 ≤ x1 ∧ x1 < 40 then (some ((M 83 (Int.toNat x1)), M)) else none) else (if 0 ≤ x2 ∧ x2 < 4000 then (if ¬ (M 80 (Int.toNat x2)) = 0 then (if 2 ≤ x2 then (if 0 ≤ x2 ∧ x2 < 40 then (if ¬ (M 54 (Int.toNat x2)) = 3 then (if ¬ (M 54 (Int.toNat x2)) = 4 then (if rg (x2 + 1) then (l223 f 113 M x1 (x2 + 1)) else none) else (if 0 ≤ (M 55 (Int.toNat x2)) ∧ (M 55 (Int.toNat x2)) < 40 then (if 0 ≤ (M 56 (Int.toNat x2)) ∧ (M 56 (Int.toNat x2)) < 40 then (f219 M (M 83 (Int.toNat (M 55 (Int.toNat x2)))) (M 83 (Int.toNat (M 56 (Int.toNat x2))))).bind (fun zq42 => if rg (x2 + 1) then (l223 f 113 (up zq42.2 83 (Int.toNat x2) zq42.1) x1 (x2 + 1)) else none) else none) else none)) else (if 0 ≤ (M 55 (Int.toNat x2)) ∧ (M 55 (Int.toNat x2)) < 40 then (f214 M 3 (M 83 (Int.toNat (M 55 (Int.toNat x2)))) 0).bind (fun zq52 => if rg (x2 + 1) then (l223 f 113 (up zq52.2 83 (Int.toNat x2) zq52.1) x1 (x2 + 1)) else none) else none)) else none) else (f214 M x2 0 0).bind (fun zq61 => if 0 ≤ x2 ∧ x2 < 40 then (if rg (x2 + 1) then (l223 f 113 (up zq61.2 83 (Int.toNat x2) zq61.1) x1 (x2 + 1)) else none) else none)) else (if rg (x2 + 1) then (l223 f 113 M x1 (x2 + 1)) else none)) else none)
  | _, _, _, _, _ => none
theorem d223 {L : Nat} {xs : Nat → Int32} (f : Nat) : (∀ (M : Mm) (x1 x2 : Int) (h : mvH) (v : Int) (M' : Mm), l223 f 3 M x1 x2 = some (v, M') → rp h M → rg x1 → rg x2 → evx L xs 3 223 3 [(0, .inr (.inr (.inl (some 53)))), (1, .inl (iz x1)), (2, .inl (iz x2))] [] h (.inl (some (.inl v)), 0) M') ∧ (∀ (M : Mm) (x1 x2 : Int) (h : mvH) (v : Int) (M' : Mm), l223 f 23 M x1 x2 = some (v, M') → rp h M → rg x1 → rg x2 → evx L xs 3 223 23 [(0, .inr (.inr (.inl (some 53)))), (1, .inl (iz x1)), (2, .inl (iz x2))] [] h (.inl (some (.inl v)), 0) M') ∧ (∀ (M : Mm) (x1 x2 : Int) (h : mvH) (v : Int) (M' : Mm), l223 f 53 M x1 x2 = some (v, M') → rp h M → rg x1 → rg x2 → evx L xs 3 223 53 [(0, .inr (.inr (.inl (some 53)))), (1, .inl (iz x1)), (2, .inl (iz x2))] [] h (.inl (some (.inl v)), 0) M') ∧ (∀ (M : Mm) (x1 x2 : Int) (h : mvH) (v : Int) (M' : Mm), l223 f 113 M x1 x2 = some (v, M') → rp h M → rg x1 → rg x2 → evx L xs 3 223 113 [(0, .inr (.inr (.inl (some 53)))), (1, .inl (iz x1)), (2, .inl (iz x2))] [] h (.inl (some (.inl v)), 0) M') := by
  induction f with
  | zero => exact ⟨(fun M x1 x2 h v M' hs _ _ _ => by cases hs), (fun M x1 x2 h v M' hs _ _ _ => by cases hs), (fun M x1 x2 h v M' hs _ _ _ => by cases hs), (fun M x1 x2 h v M' hs _ _ _ => by cases hs)⟩
  | succ f ih =>
    refine ⟨?_, ?_, ?_, ?_⟩
    · intro M x1 x2 h v M' hs R rx1 rx2
      rw [l223] at hs
      refine evx_F E223 D223_3 rfl rfl ?_
      refine evx_F E223 D223_4 rfl rfl ?_
      by_cases cb1 : x1 < x2
      · rw [if_pos cb1] at hs
        refine evx_F E223 D223_5 rfl (ifT (c2_gt_T rx2 rx1 cb1)) ?_
        refine evx_F E223 D223_21 rfl rfl ?_
        refine evx_F E223 D223_22 rfl rfl ?_
        show evx _ _ _ _ _ [(2, .inl (iz 0)), (0, .inr (.inr (.inl (some 53)))), (1, .inl (iz x1))] _ _ _ _
        exact evx_lv (lvLe_mk (fm rfl (fm rfl (fm rfl fn))) (fm rfl (fm rfl (fm rfl fn))) (fm rfl (fm rfl (fm rfl fn)))) (ih.2.1 _ _ _ _ _ _ hs R rx1 (by decide))
      · rw [if_neg cb1] at hs
        refine evx_F E223 D223_5 rfl (ifF (c2_gt_F rx2 rx1 (by omega))) ?_
        refine evx_F E223 D223_8 rfl rfl ?_
        refine evx_gfr E223 D223_9 F223_100 H53 rfl R ?_
        refine evx_F E223 D223_12 rfl rfl ?_
        refine evx_F E223 D223_13 rfl rfl ?_
        obtain ⟨k2, hs⟩ := ck hs
        refine evx_ias E223 D223_14 H83 (by decide) R k2 (by decide) ?_
        intro h3 R4
        refine evx_inc E223 D223_15 (Nat.le_of_ble_eq_true rfl) rfl ?_
        refine evx_F E223 D223_18 rfl rfl ?_
        obtain ⟨k5, hs⟩ := ck hs
        show evx _ _ _ _ _ [(2, .inl (iz (x2 + 1))), (0, .inr (.inr (.inl (some 53)))), (1, .inl (iz x1))] _ _ _ _
        exact evx_lv (lvLe_mk (fm rfl (fm rfl (fm rfl fn))) (fm rfl (fm rfl (fm rfl fn))) (fm rfl (fm rfl (fm rfl fn)))) (ih.1 _ _ _ _ _ _ hs R4 rx1 k5)
    · intro M x1 x2 h v M' hs R rx1 rx2
      rw [l223] at hs
      refine evx_F E223 D223_23 rfl rfl ?_
      refine evx_k (k := 40) E223 D223_24 rfl (by decide) ?_
      by_cases cb6 : 40 ≤ x2
      · rw [if_pos cb6] at hs
        refine evx_F E223 D223_26 rfl (ifT (c2_ge_T rx2 (by decide) cb6)) ?_
        refine evx_F E223 D223_51 rfl rfl ?_
        refine evx_F E223 D223_52 rfl rfl ?_
        show evx _ _ _ _ _ [(2, .inl (iz x1)), (0, .inr (.inr (.inl (some 53)))), (1, .inl (iz x1))] _ _ _ _
        exact evx_lv (lvLe_mk (fm rfl (fm rfl (fm rfl fn))) (fm rfl (fm rfl (fm rfl fn))) (fm rfl (fm rfl (fm rfl fn)))) (ih.2.2.1 _ _ _ _ _ _ hs R rx1 rx1)
      · rw [if_neg cb6] at hs
        refine evx_F E223 D223_26 rfl (ifF (c2_ge_F rx2 (by decide) (by omega))) ?_
        refine evx_F E223 D223_29 rfl rfl ?_
        refine evx_gfr E223 D223_30 F223_91 H53 rfl R ?_
        refine evx_F E223 D223_33 rfl rfl ?_
        refine evx_F E223 D223_34 rfl rfl ?_
        refine evx_F E223 D223_35 rfl rfl ?_
        by_cases cb7 : ¬ x2 = x1
        · rw [if_pos cb7] at hs
          refine evx_F E223 D223_36 rfl (ifT (c2_ne_T rx2 rx1 cb7)) ?_
          refine evx_F E223 D223_43 rfl rfl ?_
          obtain ⟨k8, hs⟩ := ck hs
          refine evx_ias E223 D223_44 H80 (by decide) R k8 (by decide) ?_
          intro h9 R10
          refine evx_inc E223 D223_45 (Nat.le_of_ble_eq_true rfl) rfl ?_
          refine evx_F E223 D223_48 rfl rfl ?_
          obtain ⟨k11, hs⟩ := ck hs
          show evx _ _ _ _ _ [(2, .inl (iz (x2 + 1))), (0, .inr (.inr (.inl (some 53)))), (1, .inl (iz x1))] _ _ _ _
          exact evx_lv (lvLe_mk (fm rfl (fm rfl (fm rfl fn))) (fm rfl (fm rfl (fm rfl fn))) (fm rfl (fm rfl (fm rfl fn)))) (ih.2.1 _ _ _ _ _ _ hs R10 rx1 k11)
        · rw [if_neg cb7] at hs
          refine evx_F E223 D223_36 rfl (ifF (c2_ne_F rx2 rx1 (by omega))) ?_
          refine evx_F E223 D223_39 rfl rfl ?_
          refine evx_F E223 D223_40 rfl rfl ?_
          obtain ⟨k12, hs⟩ := ck hs
          refine evx_ias E223 D223_44 H80 (by decide) R k12 (by decide) ?_
          intro h13 R14
          refine evx_inc E223 D223_45 (Nat.le_of_ble_eq_true rfl) rfl ?_
          refine evx_F E223 D223_48 rfl rfl ?_
          obtain ⟨k15, hs⟩ := ck hs
          show evx _ _ _ _ _ [(2, .inl (iz (x2 + 1))), (0, .inr (.inr (.inl (some 53)))), (1, .inl (iz x1))] _ _ _ _
          exact evx_lv (lvLe_mk (fm rfl (fm rfl (fm rfl fn))) (fm rfl (fm rfl (fm rfl fn))) (fm rfl (fm rfl (fm rfl fn)))) (ih.2.1 _ _ _ _ _ _ hs R14 rx1 k15)
    · intro M x1 x2 h v M' hs R rx1 rx2
      rw [l223] at hs
      refine evx_F E223 D223_53 rfl rfl ?_
      refine evx_k (k := 10) E223 D223_54 rfl (by decide) ?_
      by_cases cb16 : x2 < 10
      · rw [if_pos cb16] at hs
        refine evx_F E223 D223_56 rfl (ifT (c2_lt_T rx2 (by decide) cb16)) ?_
        refine evx_F E223 D223_111 rfl rfl ?_
        refine evx_F E223 D223_112 rfl rfl ?_
        show evx _ _ _ _ _ [(2, .inl (iz 0)), (0, .inr (.inr (.inl (some 53)))), (1, .inl (iz x1))] _ _ _ _
        exact evx_lv (lvLe_mk (fm rfl (fm rfl (fm rfl fn))) (fm rfl (fm rfl (fm rfl fn))) (fm rfl (fm rfl (fm rfl fn)))) (ih.2.2.2 _ _ _ _ _ _ hs R rx1 (by decide))
      · rw [if_neg cb16] at hs
        refine evx_F E223 D223_56 rfl (ifF (c2_lt_F rx2 (by decide) (by omega))) ?_
        refine evx_F E223 D223_59 rfl rfl ?_
        refine evx_gfr E223 D223_60 F223_91 H53 rfl R ?_
        refine evx_F E223 D223_63 rfl rfl ?_
        obtain ⟨k17, hs⟩ := ck hs
        refine evx_ial E223 D223_64 H80 (by decide) R k17 ?_
        by_cases cb18 : ¬ (M 80 (Int.toNat x2)) = 0
        · rw [if_pos cb18] at hs
          refine evx_F E223 D223_65 rfl (ifT (c1_ne_T (R.1 80 (Int.toNat x2)) cb18)) ?_
          refine evx_F E223 D223_71 rfl rfl ?_
          refine evx_gfr E223 D223_72 F223_91 H53 rfl R ?_
          refine evx_F E223 D223_75 rfl rfl ?_
          refine evx_gfr E223 D223_76 F223_13 H53 rfl R ?_
          refine evx_F E223 D223_79 rfl rfl ?_
          obtain ⟨k19, hs⟩ := ck hs
          refine evx_ial E223 D223_80 H55 (by decide) R k19 ?_
          refine evx_F E223 D223_81 rfl rfl ?_
          obtain ⟨k20, hs⟩ := ck hs
          refine evx_ias E223 D223_82 H80 (by decide) R k20 (by decide) ?_
          intro h21 R22
          refine evx_F E223 D223_83 rfl rfl ?_
          refine evx_gfr E223 D223_84 F223_7 H53 rfl R22 ?_
          refine evx_F E223 D223_87 rfl rfl ?_
          refine evx_ial E223 D223_88 H54 (by decide) R22 k19 ?_
          show evx _ _ _ _ _ _ (.inl (iz (M 54 (Int.toNat x2))) :: _) _ _ _
          refine evx_F E223 D223_89 rfl rfl ?_
          by_cases cb23 : ¬ (M 54 (Int.toNat x2)) = 4
          · rw [if_pos cb23] at hs
            refine evx_F E223 D223_90 rfl (ifT (c2_ne_T (R22.1 54 (Int.toNat x2)) (by decide) cb23)) ?_
            refine evx_inc E223 D223_105 (Nat.le_of_ble_eq_true rfl) rfl ?_
            refine evx_F E223 D223_108 rfl rfl ?_
            obtain ⟨k24, hs⟩ := ck hs
            show evx _ _ _ _ _ [(2, .inl (iz (x2 + (-1)))), (0, .inr (.inr (.inl (some 53)))), (1, .inl (iz x1))] _ _ _ _
            exact evx_lv (lvLe_mk (fm rfl (fm rfl (fm rfl fn))) (fm rfl (fm rfl (fm rfl fn))) (fm rfl (fm rfl (fm rfl fn)))) (ih.2.2.1 _ _ _ _ _ _ hs R22 rx1 k24)
          · rw [if_neg cb23] at hs
            refine evx_F E223 D223_90 rfl (ifF (c2_ne_F (R22.1 54 (Int.toNat x2)) (by decide) (by omega))) ?_
            refine evx_F E223 D223_93 rfl rfl ?_
            refine evx_gfr E223 D223_94 F223_91 H53 rfl R22 ?_
            refine evx_F E223 D223_97 rfl rfl ?_
            refine evx_gfr E223 D223_98 F223_16 H53 rfl R22 ?_
            refine evx_F E223 D223_101 rfl rfl ?_
            refine evx_ial E223 D223_102 H56 (by decide) R22 k19 ?_
            show evx _ _ _ _ _ _ (.inl (iz (M 56 (Int.toNat x2))) :: _) _ _ _
            refine evx_F E223 D223_103 rfl rfl ?_
            obtain ⟨k25, hs⟩ := ck hs
            refine evx_ias E223 D223_104 H80 (by decide) R22 k25 (by decide) ?_
            intro h26 R27
            refine evx_inc E223 D223_105 (Nat.le_of_ble_eq_true rfl) rfl ?_
            refine evx_F E223 D223_108 rfl rfl ?_
            obtain ⟨k28, hs⟩ := ck hs
            show evx _ _ _ _ _ [(2, .inl (iz (x2 + (-1)))), (0, .inr (.inr (.inl (some 53)))), (1, .inl (iz x1))] _ _ _ _
            exact evx_lv (lvLe_mk (fm rfl (fm rfl (fm rfl fn))) (fm rfl (fm rfl (fm rfl fn))) (fm rfl (fm rfl (fm rfl fn)))) (ih.2.2.1 _ _ _ _ _ _ hs R27 rx1 k28)
        · rw [if_neg cb18] at hs
          refine evx_F E223 D223_65 rfl (ifF (c1_ne_F (R.1 80 (Int.toNat x2)) (by omega))) ?_
          refine evx_F E223 D223_68 rfl rfl ?_
          refine evx_inc E223 D223_105 (Nat.le_of_ble_eq_true rfl) rfl ?_
          refine evx_F E223 D223_108 rfl rfl ?_
          obtain ⟨k29, hs⟩ := ck hs
          show evx _ _ _ _ _ [(2, .inl (iz (x2 + (-1)))), (0, .inr (.inr (.inl (some 53)))), (1, .inl (iz x1))] _ _ _ _
          exact evx_lv (lvLe_mk (fm rfl (fm rfl (fm rfl fn))) (fm rfl (fm rfl (fm rfl fn))) (fm rfl (fm rfl (fm rfl fn)))) (ih.2.2.1 _ _ _ _ _ _ hs R rx1 k29)
    · intro M x1 x2 h v M' hs R rx1 rx2
      rw [l223] at hs
      refine evx_F E223 D223_113 rfl rfl ?_
      refine evx_F E223 D223_114 rfl rfl ?_
      by_cases cb30 : x1 < x2
      · rw [if_pos cb30] at hs
        refine evx_F E223 D223_115 rfl (ifT (c2_gt_T rx2 rx1 cb30)) ?_
        refine evx_F E223 D223_235 rfl rfl ?_
        refine evx_gfr E223 D223_236 F223_100 H53 rfl R ?_
        refine evx_F E223 D223_239 rfl rfl ?_
        obtain ⟨k31, hs⟩ := ck hs
        refine evx_ial E223 D223_240 H83 (by decide) R k31 ?_
        cases hs
        exact evx_ret E223 D223_241 rfl (fun d => rfl) rfl (show rg _ from (R.1 83 (Int.toNat x1))) R
      · rw [if_neg cb30] at hs
        refine evx_F E223 D223_115 rfl (ifF (c2_gt_F rx2 rx1 (by omega))) ?_
        refine evx_F E223 D223_118 rfl rfl ?_
        refine evx_gfr E223 D223_119 F223_91 H53 rfl R ?_
        refine evx_F E223 D223_122 rfl rfl ?_
        obtain ⟨k32, hs⟩ := ck hs
        refine evx_ial E223 D223_123 H80 (by decide) R k32 ?_
        by_cases cb33 : ¬ (M 80 (Int.toNat x2)) = 0
        · rw [if_pos cb33] at hs
          refine evx_F E223 D223_124 rfl (ifT (c1_ne_T (R.1 80 (Int.toNat x2)) cb33)) ?_
          refine evx_F E223 D223_130 rfl rfl ?_
          refine evx_F E223 D223_131 rfl rfl ?_
          by_cases cb34 : 2 ≤ x2
          · rw [if_pos cb34] at hs
            refine evx_F E223 D223_132 rfl (ifT (c2_ge_T rx2 (by decide) cb34)) ?_
            refine evx_F E223 D223_151 rfl rfl ?_
            refine evx_gfr E223 D223_152 F223_7 H53 rfl R ?_
            refine evx_F E223 D223_155 rfl rfl ?_
            obtain ⟨k35, hs⟩ := ck hs
            refine evx_ial E223 D223_156 H54 (by decide) R k35 ?_
            refine evx_F E223 D223_157 rfl rfl ?_
            by_cases cb36 : ¬ (M 54 (Int.toNat x2)) = 3
            · rw [if_pos cb36] at hs
              refine evx_F E223 D223_158 rfl (ifT (c2_ne_T (R.1 54 (Int.toNat x2)) (by decide) cb36)) ?_
              refine evx_F E223 D223_187 rfl rfl ?_
              refine evx_gfr E223 D223_188 F223_7 H53 rfl R ?_
              refine evx_F E223 D223_191 rfl rfl ?_
              refine evx_ial E223 D223_192 H54 (by decide) R k35 ?_
              refine evx_F E223 D223_193 rfl rfl ?_
              by_cases cb37 : ¬ (M 54 (Int.toNat x2)) = 4
              · rw [if_pos cb37] at hs
                refine evx_F E223 D223_194 rfl (ifT (c2_ne_T (R.1 54 (Int.toNat x2)) (by decide) cb37)) ?_
                refine evx_inc E223 D223_229 (Nat.le_of_ble_eq_true rfl) rfl ?_
                refine evx_F E223 D223_232 rfl rfl ?_
                obtain ⟨k38, hs⟩ := ck hs
                show evx _ _ _ _ _ [(2, .inl (iz (x2 + 1))), (0, .inr (.inr (.inl (some 53)))), (1, .inl (iz x1))] _ _ _ _
                exact evx_lv (lvLe_mk (fm rfl (fm rfl (fm rfl fn))) (fm rfl (fm rfl (fm rfl fn))) (fm rfl (fm rfl (fm rfl fn)))) (ih.2.2.2 _ _ _ _ _ _ hs R rx1 k38)
              · rw [if_neg cb37] at hs
                refine evx_F E223 D223_194 rfl (ifF (c2_ne_F (R.1 54 (Int.toNat x2)) (by decide) (by omega))) ?_
                refine evx_F E223 D223_197 rfl rfl ?_
                refine evx_gfr E223 D223_198 F223_100 H53 rfl R ?_
                refine evx_F E223 D223_201 rfl rfl ?_
                refine evx_F E223 D223_202 rfl rfl ?_
                refine evx_F E223 D223_203 rfl rfl ?_
                refine evx_gfr E223 D223_204 F223_100 H53 rfl R ?_
                refine evx_F E223 D223_207 rfl rfl ?_
                refine evx_gfr E223 D223_208 F223_13 H53 rfl R ?_
                refine evx_F E223 D223_211 rfl rfl ?_
                refine evx_ial E223 D223_212 H55 (by decide) R k35 ?_
                obtain ⟨k39, hs⟩ := ck hs
                refine evx_ial E223 D223_213 H83 (by decide) R k39 ?_
                refine evx_F E223 D223_214 rfl rfl ?_
                refine evx_gfr E223 D223_215 F223_100 H53 rfl R ?_
                refine evx_F E223 D223_218 rfl rfl ?_
                refine evx_gfr E223 D223_219 F223_16 H53 rfl R ?_
                refine evx_F E223 D223_222 rfl rfl ?_
                refine evx_ial E223 D223_223 H56 (by decide) R k35 ?_
                obtain ⟨k40, hs⟩ := ck hs
                refine evx_ial E223 D223_224 H83 (by decide) R k40 ?_
                obtain ⟨⟨q42, M46⟩, e41, hs⟩ := Option.bind_eq_some_iff.mp hs
                dsimp only at hs
                refine evx_cv (D := 2) E223 D223_225 I223_232 rfl rfl H53 ⟨Nat.le_of_ble_eq_true rfl, Nat.le_of_ble_eq_true rfl⟩ ⟨rfl, Nat.le_of_ble_eq_true rfl⟩ rfl R (evx_up (Nat.le_of_ble_eq_true rfl) (c219 R (R.1 83 (Int.toNat (M 55 (Int.toNat x2)))) (R.1 83 (Int.toNat (M 56 (Int.toNat x2)))) e41)) ?_
                intro h43 R44 w45
                have w45 : rg q42 := w45
                show evx _ _ _ _ _ _ (.inl (iz q42) :: _) _ _ _
                refine evx_ias E223 D223_228 H83 (by decide) R44 k35 w45 ?_
                intro h47 R48
                refine evx_inc E223 D223_229 (Nat.le_of_ble_eq_true rfl) rfl ?_
                refine evx_F E223 D223_232 rfl rfl ?_
                obtain ⟨k49, hs⟩ := ck hs
                show evx _ _ _ _ _ [(2, .inl (iz (x2 + 1))), (0, .inr (.inr (.inl (some 53)))), (1, .inl (iz x1))] _ _ _ _
                exact evx_lv (lvLe_mk (fm rfl (fm rfl (fm rfl fn))) (fm rfl (fm rfl (fm rfl fn))) (fm rfl (fm rfl (fm rfl fn)))) (ih.2.2.2 _ _ _ _ _ _ hs R48 rx1 k49)
            · rw [if_neg cb36] at hs
              refine evx_F E223 D223_158 rfl (ifF (c2_ne_F (R.1 54 (Int.toNat x2)) (by decide) (by omega))) ?_
              refine evx_F E223 D223_161 rfl rfl ?_
              refine evx_gfr E223 D223_162 F223_100 H53 rfl R ?_
              refine evx_F E223 D223_165 rfl rfl ?_
              refine evx_F E223 D223_166 rfl rfl ?_
              refine evx_F E223 D223_167 rfl rfl ?_
              refine evx_F E223 D223_168 rfl rfl ?_
              refine evx_gfr E223 D223_169 F223_100 H53 rfl R ?_
              refine evx_F E223 D223_172 rfl rfl ?_
              refine evx_gfr E223 D223_173 F223_13 H53 rfl R ?_
              refine evx_F E223 D223_176 rfl rfl ?_
              refine evx_ial E223 D223_177 H55 (by decide) R k35 ?_
              obtain ⟨k50, hs⟩ := ck hs
              refine evx_ial E223 D223_178 H83 (by decide) R k50 ?_
              refine evx_F E223 D223_179 rfl rfl ?_
              obtain ⟨⟨q52, M56⟩, e51, hs⟩ := Option.bind_eq_some_iff.mp hs
              dsimp only at hs
              refine evx_cv (D := 2) E223 D223_180 I223_229 rfl rfl H53 ⟨Nat.le_of_ble_eq_true rfl, Nat.le_of_ble_eq_true rfl⟩ ⟨rfl, Nat.le_of_ble_eq_true rfl⟩ rfl R (evx_up (Nat.le_of_ble_eq_true rfl) (c214 R (by decide) (R.1 83 (Int.toNat (M 55 (Int.toNat x2)))) (by decide) e51)) ?_
              intro h53 R54 w55
              have w55 : rg q52 := w55
              show evx _ _ _ _ _ _ (.inl (iz q52) :: _) _ _ _
              refine evx_ias E223 D223_183 H83 (by decide) R54 k35 w55 ?_
              intro h57 R58
              refine evx_F E223 D223_184 rfl rfl ?_
              refine evx_inc E223 D223_229 (Nat.le_of_ble_eq_true rfl) rfl ?_
              refine evx_F E223 D223_232 rfl rfl ?_
              obtain ⟨k59, hs⟩ := ck hs
              show evx _ _ _ _ _ [(2, .inl (iz (x2 + 1))), (0, .inr (.inr (.inl (some 53)))), (1, .inl (iz x1))] _ _ _ _
              exact evx_lv (lvLe_mk (fm rfl (fm rfl (fm rfl fn))) (fm rfl (fm rfl (fm rfl fn))) (fm rfl (fm rfl (fm rfl fn)))) (ih.2.2.2 _ _ _ _ _ _ hs R58 rx1 k59)
          · rw [if_neg cb34] at hs
            refine evx_F E223 D223_132 rfl (ifF (c2_ge_F rx2 (by decide) (by omega))) ?_
            refine evx_F E223 D223_135 rfl rfl ?_
            refine evx_gfr E223 D223_136 F223_100 H53 rfl R ?_
            refine evx_F E223 D223_139 rfl rfl ?_
            refine evx_F E223 D223_140 rfl rfl ?_
            refine evx_F E223 D223_141 rfl rfl ?_
            refine evx_F E223 D223_142 rfl rfl ?_
            refine evx_F E223 D223_143 rfl rfl ?_
            obtain ⟨⟨q61, M65⟩, e60, hs⟩ := Option.bind_eq_some_iff.mp hs
            dsimp only at hs
            refine evx_cv (D := 2) E223 D223_144 I223_229 rfl rfl H53 ⟨Nat.le_of_ble_eq_true rfl, Nat.le_of_ble_eq_true rfl⟩ ⟨rfl, Nat.le_of_ble_eq_true rfl⟩ rfl R (evx_up (Nat.le_of_ble_eq_true rfl) (c214 R rx2 (by decide) (by decide) e60)) ?_
            intro h62 R63 w64
            have w64 : rg q61 := w64
            show evx _ _ _ _ _ _ (.inl (iz q61) :: _) _ _ _
            obtain ⟨k66, hs⟩ := ck hs
            refine evx_ias E223 D223_147 H83 (by decide) R63 k66 w64 ?_
            intro h67 R68
            refine evx_F E223 D223_148 rfl rfl ?_
            refine evx_inc E223 D223_229 (Nat.le_of_ble_eq_true rfl) rfl ?_
            refine evx_F E223 D223_232 rfl rfl ?_
            obtain ⟨k69, hs⟩ := ck hs
            show evx _ _ _ _ _ [(2, .inl (iz (x2 + 1))), (0, .inr (.inr (.inl (some 53)))), (1, .inl (iz x1))] _ _ _ _
            exact evx_lv (lvLe_mk (fm rfl (fm rfl (fm rfl fn))) (fm rfl (fm rfl (fm rfl fn))) (fm rfl (fm rfl (fm rfl fn)))) (ih.2.2.2 _ _ _ _ _ _ hs R68 rx1 k69)
        · rw [if_neg cb33] at hs
          refine evx_F E223 D223_124 rfl (ifF (c1_ne_F (R.1 80 (Int.toNat x2)) (by omega))) ?_
          refine evx_F E223 D223_127 rfl rfl ?_
          refine evx_inc E223 D223_229 (Nat.le_of_ble_eq_true rfl) rfl ?_
          refine evx_F E223 D223_232 rfl rfl ?_
          obtain ⟨k70, hs⟩ := ck hs
          show evx _ _ _ _ _ [(2, .inl (iz (x2 + 1))), (0, .inr (.inr (.inl (some 53)))), (1, .inl (iz x1))] _ _ _ _
          exact evx_lv (lvLe_mk (fm rfl (fm rfl (fm rfl fn))) (fm rfl (fm rfl (fm rfl fn))) (fm rfl (fm rfl (fm rfl fn)))) (ih.2.2.2 _ _ _ _ _ _ hs R rx1 k70)
def f223 (M : Mm) (x1 : Int) : Option (Int × Mm) := l223 FU 3 M x1 10
theorem c223 {L : Nat} {xs : Nat → Int32} {h : mvH} {M : Mm} {x1 : Int} {v : Int} {M' : Mm} (R : rp h M) (rx1 : rg x1) (hs : f223 M x1 = some (v, M')) : evx L xs 3 223 0 [(0, .inr (.inr (.inl (some 53)))), (1, .inl (iz x1))] [] h (.inl (some (.inl v)), 0) M' := by
  unfold f223 at hs
  refine evx_k (k := 10) E223 D223_0 rfl (by decide) ?_
  refine evx_F E223 D223_2 rfl rfl ?_
  show evx _ _ _ _ _ [(2, .inl (iz 10)), (0, .inr (.inr (.inl (some 53)))), (1, .inl (iz x1))] _ _ _ _
  exact evx_lv (lvLe_mk (fm rfl (fm rfl (fm rfl fn))) (fm rfl (fm rfl (fm rfl fn))) (fm rfl (fm rfl (fm rfl fn)))) ((d223 FU).1 _ _ _ _ _ _ hs R rx1 (by decide))
