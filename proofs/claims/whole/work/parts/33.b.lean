/-! More methods as functions, printed by a program. -/
set_option maxRecDepth 20000 in
theorem E11 : pgMm 11 = some (⟨"DictionaryHouse$Typing", "graph", "()LDictionaryHouse$Graph;"⟩, prog_12_method_2_code, 1, (some (.object "DictionaryHouse$Graph")), []) := rfl
theorem D11_0 : pgDecT 11 0 = some (.aload_n 0, 1) := by decide +kernel
theorem D11_1 : pgDecT 11 1 = some (.getfield 12, 3) := by decide +kernel
theorem F11_12 : pgFf 11 12 = some (10, 4, 3) := by decide +kernel
theorem D11_4 : pgDecT 11 4 = some (.areturn, 1) := by decide +kernel
/-! 11: DictionaryHouse$Typing.graph ()LDictionaryHouse$Graph; -/
def f11 (M : Mm) : Option Int := some 0
theorem c11 {L : Nat} {xs : Nat → Int32} {h : mvH} {M : Mm} {v : Int} (R : rp h M)  (hs : f11 M  = some v) : evx L xs 1 11 0 [(0, .inr (.inr (.inl (some 24))))] [] h (.inl (some (.inr 25)), 0) M := by
  unfold f11 at hs
  refine evx_F E11 D11_0 rfl rfl ?_
  refine evx_gfr E11 D11_1 F11_12 H24 rfl R ?_
  cases hs
  exact evx_ret (w := some (.inr 25)) E11 D11_4 rfl (fun d => rfl) rfl trivial R
set_option maxRecDepth 20000 in
theorem E17 : pgMm 17 = some (⟨"DictionaryHouse$TypeTable", "has", "(I)Z"⟩, prog_11_method_2_code, 2, (some .boolean), []) := rfl
theorem D17_0 : pgDecT 17 0 = some (.iload_n 1, 1) := by decide +kernel
theorem D17_1 : pgDecT 17 1 = some (.ifCond .lt 15, 3) := by decide +kernel
theorem D17_16 : pgDecT 17 16 = some (.iconst 0, 1) := by decide +kernel
theorem D17_17 : pgDecT 17 17 = some (.ireturn, 1) := by decide +kernel
theorem D17_4 : pgDecT 17 4 = some (.iload_n 1, 1) := by decide +kernel
theorem D17_5 : pgDecT 17 5 = some (.aload_n 0, 1) := by decide +kernel
theorem D17_6 : pgDecT 17 6 = some (.getfield 21, 3) := by decide +kernel
theorem F17_21 : pgFf 17 21 = some (9, 3, 0) := by decide +kernel
theorem D17_9 : pgDecT 17 9 = some (.if_icmp .ge 7, 3) := by decide +kernel
theorem D17_12 : pgDecT 17 12 = some (.iconst 1, 1) := by decide +kernel
theorem D17_13 : pgDecT 17 13 = some (.goto 4, 3) := by decide +kernel
/-! 17: DictionaryHouse$TypeTable.has (I)Z -/
def f17 (M : Mm) (x1 : Int) : Option Int := if x1 < 0 then (some 0) else (if (M 1 3) ≤ x1 then (some 0) else (some 1))
theorem c17 {L : Nat} {xs : Nat → Int32} {h : mvH} {M : Mm} {x1 : Int} {v : Int} (R : rp h M) (rx1 : rg x1) (hs : f17 M x1 = some v) : evx L xs 1 17 0 [(0, .inr (.inr (.inl (some 1)))), (1, .inl (iz x1))] [] h (.inl (some (.inl v)), 0) M := by
  unfold f17 at hs
  refine evx_F E17 D17_0 rfl rfl ?_
  by_cases cb1 : x1 < 0
  · rw [if_pos cb1] at hs
    refine evx_F E17 D17_1 rfl (ifT (c1_lt_T rx1 cb1)) ?_
    refine evx_F E17 D17_16 rfl rfl ?_
    cases hs
    exact evx_ret E17 D17_17 rfl (fun d => rfl) rfl (show rg _ from (by decide)) R
  · rw [if_neg cb1] at hs
    refine evx_F E17 D17_1 rfl (ifF (c1_lt_F rx1 (by omega))) ?_
    refine evx_F E17 D17_4 rfl rfl ?_
    refine evx_F E17 D17_5 rfl rfl ?_
    refine evx_gfi (k := 3) E17 D17_6 F17_21 H1 rfl R ?_
    by_cases cb2 : (M 1 3) ≤ x1
    · rw [if_pos cb2] at hs
      refine evx_F E17 D17_9 rfl (ifT (c2_ge_T rx1 (R.1 1 3) cb2)) ?_
      refine evx_F E17 D17_16 rfl rfl ?_
      cases hs
      exact evx_ret E17 D17_17 rfl (fun d => rfl) rfl (show rg _ from (by decide)) R
    · rw [if_neg cb2] at hs
      refine evx_F E17 D17_9 rfl (ifF (c2_ge_F rx1 (R.1 1 3) (by omega))) ?_
      refine evx_F E17 D17_12 rfl rfl ?_
      refine evx_F E17 D17_13 rfl rfl ?_
      cases hs
      exact evx_ret E17 D17_17 rfl (fun d => rfl) rfl (show rg _ from (by decide)) R
set_option maxRecDepth 20000 in
theorem E19 : pgMm 19 = some (⟨"DictionaryHouse$TypeTable", "numberFor", "(II)I"⟩, prog_11_method_9_code, 4, (some .int), []) := rfl
theorem D19_0 : pgDecT 19 0 = some (.bipush 10, 2) := by decide +kernel
theorem D19_2 : pgDecT 19 2 = some (.istore_n 3, 1) := by decide +kernel
theorem D19_3 : pgDecT 19 3 = some (.iload_n 3, 1) := by decide +kernel
theorem D19_4 : pgDecT 19 4 = some (.aload_n 0, 1) := by decide +kernel
theorem D19_5 : pgDecT 19 5 = some (.getfield 21, 3) := by decide +kernel
theorem F19_21 : pgFf 19 21 = some (9, 3, 0) := by decide +kernel
theorem D19_8 : pgDecT 19 8 = some (.if_icmp .ge 31, 3) := by decide +kernel
theorem D19_39 : pgDecT 19 39 = some (.aload_n 0, 1) := by decide +kernel
theorem D19_40 : pgDecT 19 40 = some (.getfield 21, 3) := by decide +kernel
theorem D19_43 : pgDecT 19 43 = some (.bipush 40, 2) := by decide +kernel
theorem D19_45 : pgDecT 19 45 = some (.if_icmp .ne 5, 3) := by decide +kernel
theorem D19_50 : pgDecT 19 50 = some (.aload_n 0, 1) := by decide +kernel
theorem D19_51 : pgDecT 19 51 = some (.getfield 9, 3) := by decide +kernel
theorem F19_9 : pgFf 19 9 = some (9, 0, 3) := by decide +kernel
theorem D19_54 : pgDecT 19 54 = some (.aload_n 0, 1) := by decide +kernel
theorem D19_55 : pgDecT 19 55 = some (.getfield 21, 3) := by decide +kernel
theorem D19_58 : pgDecT 19 58 = some (.iload_n 1, 1) := by decide +kernel
theorem D19_59 : pgDecT 19 59 = some (.iastore, 1) := by decide +kernel
theorem D19_60 : pgDecT 19 60 = some (.aload_n 0, 1) := by decide +kernel
theorem D19_61 : pgDecT 19 61 = some (.getfield 15, 3) := by decide +kernel
theorem F19_15 : pgFf 19 15 = some (9, 1, 3) := by decide +kernel
theorem D19_64 : pgDecT 19 64 = some (.aload_n 0, 1) := by decide +kernel
theorem D19_65 : pgDecT 19 65 = some (.getfield 21, 3) := by decide +kernel
theorem D19_68 : pgDecT 19 68 = some (.iload_n 2, 1) := by decide +kernel
theorem D19_69 : pgDecT 19 69 = some (.iastore, 1) := by decide +kernel
theorem D19_70 : pgDecT 19 70 = some (.aload_n 0, 1) := by decide +kernel
theorem D19_71 : pgDecT 19 71 = some (.getfield 18, 3) := by decide +kernel
theorem F19_18 : pgFf 19 18 = some (9, 2, 3) := by decide +kernel
theorem D19_74 : pgDecT 19 74 = some (.aload_n 0, 1) := by decide +kernel
theorem D19_75 : pgDecT 19 75 = some (.getfield 21, 3) := by decide +kernel
theorem D19_78 : pgDecT 19 78 = some (.aload_n 0, 1) := by decide +kernel
theorem D19_79 : pgDecT 19 79 = some (.getfield 18, 3) := by decide +kernel
theorem D19_82 : pgDecT 19 82 = some (.iload_n 1, 1) := by decide +kernel
theorem D19_83 : pgDecT 19 83 = some (.iaload, 1) := by decide +kernel
theorem D19_84 : pgDecT 19 84 = some (.iload_n 2, 1) := by decide +kernel
theorem D19_85 : pgDecT 19 85 = some (.iconst (-1), 1) := by decide +kernel
theorem D19_86 : pgDecT 19 86 = some (.if_icmp .ne 7, 3) := by decide +kernel
theorem D19_93 : pgDecT 19 93 = some (.aload_n 0, 1) := by decide +kernel
theorem D19_94 : pgDecT 19 94 = some (.getfield 18, 3) := by decide +kernel
theorem D19_97 : pgDecT 19 97 = some (.iload_n 2, 1) := by decide +kernel
theorem D19_98 : pgDecT 19 98 = some (.iaload, 1) := by decide +kernel
theorem D19_99 : pgDecT 19 99 = some (.ior, 1) := by decide +kernel
theorem D19_100 : pgDecT 19 100 = some (.iastore, 1) := by decide +kernel
theorem D19_101 : pgDecT 19 101 = some (.aload_n 0, 1) := by decide +kernel
theorem D19_102 : pgDecT 19 102 = some (.dup, 1) := by decide +kernel
theorem D19_103 : pgDecT 19 103 = some (.getfield 21, 3) := by decide +kernel
theorem D19_106 : pgDecT 19 106 = some (.dup_x1, 1) := by decide +kernel
theorem D19_107 : pgDecT 19 107 = some (.iconst 1, 1) := by decide +kernel
theorem D19_108 : pgDecT 19 108 = some (.iadd, 1) := by decide +kernel
theorem D19_109 : pgDecT 19 109 = some (.putfield 21, 3) := by decide +kernel
theorem D19_112 : pgDecT 19 112 = some (.ireturn, 1) := by decide +kernel
theorem D19_89 : pgDecT 19 89 = some (.iconst 0, 1) := by decide +kernel
theorem D19_90 : pgDecT 19 90 = some (.goto 9, 3) := by decide +kernel
theorem D19_48 : pgDecT 19 48 = some (.iconst (-1), 1) := by decide +kernel
theorem D19_49 : pgDecT 19 49 = some (.ireturn, 1) := by decide +kernel
theorem D19_11 : pgDecT 19 11 = some (.aload_n 0, 1) := by decide +kernel
theorem D19_12 : pgDecT 19 12 = some (.getfield 9, 3) := by decide +kernel
theorem D19_15 : pgDecT 19 15 = some (.iload_n 3, 1) := by decide +kernel
theorem D19_16 : pgDecT 19 16 = some (.iaload, 1) := by decide +kernel
theorem D19_17 : pgDecT 19 17 = some (.iload_n 1, 1) := by decide +kernel
theorem D19_18 : pgDecT 19 18 = some (.if_icmp .ne 15, 3) := by decide +kernel
theorem D19_33 : pgDecT 19 33 = some (.iinc 3 1, 3) := by decide +kernel
theorem D19_36 : pgDecT 19 36 = some (.goto (-33), 3) := by decide +kernel
theorem D19_21 : pgDecT 19 21 = some (.aload_n 0, 1) := by decide +kernel
theorem D19_22 : pgDecT 19 22 = some (.getfield 15, 3) := by decide +kernel
theorem D19_25 : pgDecT 19 25 = some (.iload_n 3, 1) := by decide +kernel
theorem D19_26 : pgDecT 19 26 = some (.iaload, 1) := by decide +kernel
theorem D19_27 : pgDecT 19 27 = some (.iload_n 2, 1) := by decide +kernel
theorem D19_28 : pgDecT 19 28 = some (.if_icmp .ne 5, 3) := by decide +kernel
theorem D19_31 : pgDecT 19 31 = some (.iload_n 3, 1) := by decide +kernel
theorem D19_32 : pgDecT 19 32 = some (.ireturn, 1) := by decide +kernel
/-! 19: DictionaryHouse$TypeTable.numberFor (II)I -/
def l19 : Nat → Nat → Mm → Int → Int → Int → Option (Int × Mm)
  | 0, _, _, _, _, _ => none
  | f + 1, 3, M, x1, x2, x3 => if (M 1 3) ≤ x3 then (if ¬ (M 1 3) = 40 then (if 0 ≤ (M 1 3) ∧ (M 1 3) < 40 then (if 0 ≤ x1 ∧ x1 < 40 then (if ¬ x2 = (-1) then (if 0 ≤ x2 ∧ x2 < 40 then (if rg ((M 1 3) + 1) then (some ((M 1 3), (up (up (up (up M 2 (Int.toNat (M 1 3)) x1) 3 (Int.toNat (M 1 3)) x2) 4 (Int.toNat (M 1 3)) (bOr (M 4 (Int.toNat x1)) (M 4 (Int.toNat x2)))) 1 3 ((M 1 3) + 1)))) else none) else none) else (if rg ((M 1 3) + 1) then (some ((M 1 3), (up (up (up (up M 2 (Int.toNat (M 1 3)) x1) 3 (Int.toNat (M 1 3)) x2) 4 (Int.toNat (M 1 3)) (bOr (M 4 (Int.toNat x1)) 0)) 1 3 ((M 1 3) + 1)))) else none)) else none) else none) else (some ((-1), M))) else (if 0 ≤ x3 ∧ x3 < 40 then (if ¬ (M 2 (Int.toNat x3)) = x1 then (if rg (x3 + 1) then (l19 f 3 M x1 x2 (x3 + 1)) else none) else (if ¬ (M 3 (Int.toNat x3)) = x2 then (if rg (x3 + 1) then (l19 f 3 M x1 x2 (x3 + 1)) else none) else (some (x3, M)))) else none)
  | _, _, _, _, _, _ => none
theorem d19 {L : Nat} {xs : Nat → Int32} (f : Nat) : (∀ (M : Mm) (x1 x2 x3 : Int) (h : mvH) (v : Int) (M' : Mm), l19 f 3 M x1 x2 x3 = some (v, M') → rp h M → rg x1 → rg x2 → rg x3 → evx L xs 1 19 3 [(0, .inr (.inr (.inl (some 1)))), (1, .inl (iz x1)), (2, .inl (iz x2)), (3, .inl (iz x3))] [] h (.inl (some (.inl v)), 0) M') := by
  induction f with
  | zero => exact (fun M x1 x2 x3 h v M' hs _ _ _ _ => by cases hs)
  | succ f ih =>
    intro M x1 x2 x3 h v M' hs R rx1 rx2 rx3
    rw [l19] at hs
    refine evx_F E19 D19_3 rfl rfl ?_
    refine evx_F E19 D19_4 rfl rfl ?_
    refine evx_gfi (k := 3) E19 D19_5 F19_21 H1 rfl R ?_
    by_cases cb1 : (M 1 3) ≤ x3
    · rw [if_pos cb1] at hs
      refine evx_F E19 D19_8 rfl (ifT (c2_ge_T rx3 (R.1 1 3) cb1)) ?_
      refine evx_F E19 D19_39 rfl rfl ?_
      refine evx_gfi (k := 3) E19 D19_40 F19_21 H1 rfl R ?_
      refine evx_k (k := 40) E19 D19_43 rfl (by decide) ?_
      by_cases cb2 : ¬ (M 1 3) = 40
      · rw [if_pos cb2] at hs
        refine evx_F E19 D19_45 rfl (ifT (c2_ne_T (R.1 1 3) (by decide) cb2)) ?_
        refine evx_F E19 D19_50 rfl rfl ?_
        refine evx_gfr E19 D19_51 F19_9 H1 rfl R ?_
        refine evx_F E19 D19_54 rfl rfl ?_
        refine evx_gfi (k := 3) E19 D19_55 F19_21 H1 rfl R ?_
        refine evx_F E19 D19_58 rfl rfl ?_
        obtain ⟨k3, hs⟩ := ck hs
        refine evx_ias E19 D19_59 H2 (by decide) R k3 rx1 ?_
        intro h4 R5
        refine evx_F E19 D19_60 rfl rfl ?_
        refine evx_gfr E19 D19_61 F19_15 H1 rfl R5 ?_
        refine evx_F E19 D19_64 rfl rfl ?_
        refine evx_gfi (k := 3) E19 D19_65 F19_21 H1 rfl R5 ?_
        show evx _ _ _ _ _ _ (.inl (iz (M 1 3)) :: _) _ _ _
        refine evx_F E19 D19_68 rfl rfl ?_
        refine evx_ias E19 D19_69 H3 (by decide) R5 k3 rx2 ?_
        intro h6 R7
        refine evx_F E19 D19_70 rfl rfl ?_
        refine evx_gfr E19 D19_71 F19_18 H1 rfl R7 ?_
        refine evx_F E19 D19_74 rfl rfl ?_
        refine evx_gfi (k := 3) E19 D19_75 F19_21 H1 rfl R7 ?_
        show evx _ _ _ _ _ _ (.inl (iz (M 1 3)) :: _) _ _ _
        refine evx_F E19 D19_78 rfl rfl ?_
        refine evx_gfr E19 D19_79 F19_18 H1 rfl R7 ?_
        refine evx_F E19 D19_82 rfl rfl ?_
        obtain ⟨k8, hs⟩ := ck hs
        refine evx_ial E19 D19_83 H4 (by decide) R7 k8 ?_
        show evx _ _ _ _ _ _ (.inl (iz (M 4 (Int.toNat x1))) :: _) _ _ _
        refine evx_F E19 D19_84 rfl rfl ?_
        refine evx_F E19 D19_85 rfl rfl ?_
        by_cases cb9 : ¬ x2 = (-1)
        · rw [if_pos cb9] at hs
          refine evx_F E19 D19_86 rfl (ifT (c2_ne_T rx2 (by decide) cb9)) ?_
          refine evx_F E19 D19_93 rfl rfl ?_
          refine evx_gfr E19 D19_94 F19_18 H1 rfl R7 ?_
          refine evx_F E19 D19_97 rfl rfl ?_
          obtain ⟨k10, hs⟩ := ck hs
          refine evx_ial E19 D19_98 H4 (by decide) R7 k10 ?_
          show evx _ _ _ _ _ _ (.inl (iz (M 4 (Int.toNat x2))) :: _) _ _ _
          refine evx_ior E19 D19_99 ?_
          refine evx_ias E19 D19_100 H4 (by decide) R7 k3 (iz_rg _) ?_
          intro h11 R12
          refine evx_F E19 D19_101 rfl rfl ?_
          refine evx_F E19 D19_102 rfl rfl ?_
          refine evx_gfi (k := 3) E19 D19_103 F19_21 H1 rfl R12 ?_
          show evx _ _ _ _ _ _ (.inl (iz (M 1 3)) :: _) _ _ _
          refine evx_F E19 D19_106 rfl rfl ?_
          refine evx_F E19 D19_107 rfl rfl ?_
          refine evx_add E19 D19_108 ?_
          obtain ⟨k13, hs⟩ := ck hs
          refine evx_pfi (k := 3) E19 D19_109 F19_21 H1 rfl R12 k13 rfl ?_
          intro h14 R15
          cases hs
          exact evx_ret E19 D19_112 rfl (fun d => rfl) rfl (show rg _ from (R12.1 1 3)) R15
        · rw [if_neg cb9] at hs
          refine evx_F E19 D19_86 rfl (ifF (c2_ne_F rx2 (by decide) (by omega))) ?_
          refine evx_F E19 D19_89 rfl rfl ?_
          refine evx_F E19 D19_90 rfl rfl ?_
          refine evx_ior E19 D19_99 ?_
          refine evx_ias E19 D19_100 H4 (by decide) R7 k3 (iz_rg _) ?_
          intro h16 R17
          refine evx_F E19 D19_101 rfl rfl ?_
          refine evx_F E19 D19_102 rfl rfl ?_
          refine evx_gfi (k := 3) E19 D19_103 F19_21 H1 rfl R17 ?_
          show evx _ _ _ _ _ _ (.inl (iz (M 1 3)) :: _) _ _ _
          refine evx_F E19 D19_106 rfl rfl ?_
          refine evx_F E19 D19_107 rfl rfl ?_
          refine evx_add E19 D19_108 ?_
          obtain ⟨k18, hs⟩ := ck hs
          refine evx_pfi (k := 3) E19 D19_109 F19_21 H1 rfl R17 k18 rfl ?_
          intro h19 R20
          cases hs
          exact evx_ret E19 D19_112 rfl (fun d => rfl) rfl (show rg _ from (R17.1 1 3)) R20
      · rw [if_neg cb2] at hs
        refine evx_F E19 D19_45 rfl (ifF (c2_ne_F (R.1 1 3) (by decide) (by omega))) ?_
        refine evx_F E19 D19_48 rfl rfl ?_
        cases hs
        exact evx_ret E19 D19_49 rfl (fun d => rfl) rfl (show rg _ from (by decide)) R
    · rw [if_neg cb1] at hs
      refine evx_F E19 D19_8 rfl (ifF (c2_ge_F rx3 (R.1 1 3) (by omega))) ?_
      refine evx_F E19 D19_11 rfl rfl ?_
      refine evx_gfr E19 D19_12 F19_9 H1 rfl R ?_
      refine evx_F E19 D19_15 rfl rfl ?_
      obtain ⟨k21, hs⟩ := ck hs
      refine evx_ial E19 D19_16 H2 (by decide) R k21 ?_
      refine evx_F E19 D19_17 rfl rfl ?_
      by_cases cb22 : ¬ (M 2 (Int.toNat x3)) = x1
      · rw [if_pos cb22] at hs
        refine evx_F E19 D19_18 rfl (ifT (c2_ne_T (R.1 2 (Int.toNat x3)) rx1 cb22)) ?_
        refine evx_inc E19 D19_33 (Nat.le_of_ble_eq_true rfl) rfl ?_
        refine evx_F E19 D19_36 rfl rfl ?_
        obtain ⟨k23, hs⟩ := ck hs
        show evx _ _ _ _ _ [(3, .inl (iz (x3 + 1))), (0, .inr (.inr (.inl (some 1)))), (1, .inl (iz x1)), (2, .inl (iz x2))] _ _ _ _
        exact evx_lv (lvLe_mk (fm rfl (fm rfl (fm rfl (fm rfl fn)))) (fm rfl (fm rfl (fm rfl (fm rfl fn)))) (fm rfl (fm rfl (fm rfl (fm rfl fn))))) (ih _ _ _ _ _ _ _ hs R rx1 rx2 k23)
      · rw [if_neg cb22] at hs
        refine evx_F E19 D19_18 rfl (ifF (c2_ne_F (R.1 2 (Int.toNat x3)) rx1 (by omega))) ?_
        refine evx_F E19 D19_21 rfl rfl ?_
        refine evx_gfr E19 D19_22 F19_15 H1 rfl R ?_
        refine evx_F E19 D19_25 rfl rfl ?_
        refine evx_ial E19 D19_26 H3 (by decide) R k21 ?_
        refine evx_F E19 D19_27 rfl rfl ?_
        by_cases cb24 : ¬ (M 3 (Int.toNat x3)) = x2
        · rw [if_pos cb24] at hs
          refine evx_F E19 D19_28 rfl (ifT (c2_ne_T (R.1 3 (Int.toNat x3)) rx2 cb24)) ?_
          refine evx_inc E19 D19_33 (Nat.le_of_ble_eq_true rfl) rfl ?_
          refine evx_F E19 D19_36 rfl rfl ?_
          obtain ⟨k25, hs⟩ := ck hs
          show evx _ _ _ _ _ [(3, .inl (iz (x3 + 1))), (0, .inr (.inr (.inl (some 1)))), (1, .inl (iz x1)), (2, .inl (iz x2))] _ _ _ _
          exact evx_lv (lvLe_mk (fm rfl (fm rfl (fm rfl (fm rfl fn)))) (fm rfl (fm rfl (fm rfl (fm rfl fn)))) (fm rfl (fm rfl (fm rfl (fm rfl fn))))) (ih _ _ _ _ _ _ _ hs R rx1 rx2 k25)
        · rw [if_neg cb24] at hs
          refine evx_F E19 D19_28 rfl (ifF (c2_ne_F (R.1 3 (Int.toNat x3)) rx2 (by omega))) ?_
          refine evx_F E19 D19_31 rfl rfl ?_
          cases hs
          exact evx_ret E19 D19_32 rfl (fun d => rfl) rfl (show rg _ from rx3) R
def f19 (M : Mm) (x1 : Int) (x2 : Int) : Option (Int × Mm) := l19 FU 3 M x1 x2 10
theorem c19 {L : Nat} {xs : Nat → Int32} {h : mvH} {M : Mm} {x1 x2 : Int} {v : Int} {M' : Mm} (R : rp h M) (rx1 : rg x1) (rx2 : rg x2) (hs : f19 M x1 x2 = some (v, M')) : evx L xs 1 19 0 [(0, .inr (.inr (.inl (some 1)))), (1, .inl (iz x1)), (2, .inl (iz x2))] [] h (.inl (some (.inl v)), 0) M' := by
  unfold f19 at hs
  refine evx_k (k := 10) E19 D19_0 rfl (by decide) ?_
  refine evx_F E19 D19_2 rfl rfl ?_
  show evx _ _ _ _ _ [(3, .inl (iz 10)), (0, .inr (.inr (.inl (some 1)))), (1, .inl (iz x1)), (2, .inl (iz x2))] _ _ _ _
  exact evx_lv (lvLe_mk (fm rfl (fm rfl (fm rfl (fm rfl fn)))) (fm rfl (fm rfl (fm rfl (fm rfl fn)))) (fm rfl (fm rfl (fm rfl (fm rfl fn))))) ((d19 FU) _ _ _ _ _ _ _ hs R rx1 rx2 (by decide))
set_option maxRecDepth 20000 in
theorem E20 : pgMm 20 = some (⟨"DictionaryHouse", "numbered", "(I)I"⟩, prog_1_method_21_code, 1, (some .int), []) := rfl
theorem D20_0 : pgDecT 20 0 = some (.iload_n 0, 1) := by decide +kernel
theorem D20_1 : pgDecT 20 1 = some (.iconst (-1), 1) := by decide +kernel
theorem D20_2 : pgDecT 20 2 = some (.if_icmp .eq 7, 3) := by decide +kernel
theorem D20_9 : pgDecT 20 9 = some (.iconst 0, 1) := by decide +kernel
theorem D20_10 : pgDecT 20 10 = some (.invokestatic 84, 3) := by decide +kernel
theorem I20_84 : pgIi 20 84 = some (21, 1, 100) := by decide +kernel
theorem D20_5 : pgDecT 20 5 = some (.iconst 1, 1) := by decide +kernel
theorem D20_6 : pgDecT 20 6 = some (.goto 4, 3) := by decide +kernel
theorem D20_13 : pgDecT 20 13 = some (.iload_n 0, 1) := by decide +kernel
theorem D20_14 : pgDecT 20 14 = some (.ireturn, 1) := by decide +kernel
/-! 20: DictionaryHouse.numbered (I)I -/
def f20 (M : Mm) (x0 : Int) : Option (Int × Int × Mm) := if x0 = (-1) then (some (2, 0, M)) else (some (0, x0, M))
theorem c20 {L : Nat} {xs : Nat → Int32} {h : mvH} {M : Mm} {x0 : Int} {k v : Int} {M' : Mm} (R : rp h M) (rx0 : rg x0) (hs : f20 M x0 = some (k, v, M')) : evx L xs 9 20 0 [(0, .inl (iz x0))] [] h (ot k v) M' := by
  unfold f20 at hs
  refine evx_F E20 D20_0 rfl rfl ?_
  refine evx_F E20 D20_1 rfl rfl ?_
  by_cases cb1 : x0 = (-1)
  · rw [if_pos cb1] at hs
    refine evx_F E20 D20_2 rfl (ifT (c2_eq_T rx0 (by decide) cb1)) ?_
    refine evx_F E20 D20_9 rfl rfl ?_
    cases hs
    exact evx_rqF (b := false) E20 D20_10 I20_84 (Nat.le_of_ble_eq_true rfl) rfl (Nat.le_of_ble_eq_true rfl) rfl rfl rfl R
  · rw [if_neg cb1] at hs
    refine evx_F E20 D20_2 rfl (ifF (c2_eq_F rx0 (by decide) (by omega))) ?_
    refine evx_F E20 D20_5 rfl rfl ?_
    refine evx_F E20 D20_6 rfl rfl ?_
    refine evx_rqT (b := false) E20 D20_10 I20_84 (Nat.le_of_ble_eq_true rfl) rfl (Nat.le_of_ble_eq_true rfl) (by decide) (by decide) ?_
    refine evx_F E20 D20_13 rfl rfl ?_
    cases hs
    exact evx_ret E20 D20_14 rfl (fun d => rfl) rfl (show rg _ from rx0) R
set_option maxRecDepth 20000 in
theorem E23 : pgMm 23 = some (⟨"DictionaryHouse", "function", "(II)I"⟩, prog_1_method_3_code, 3, (some .int), []) := rfl
theorem D23_0 : pgDecT 23 0 = some (.aload_n 0, 1) := by decide +kernel
theorem D23_1 : pgDecT 23 1 = some (.getfield 12, 3) := by decide +kernel
theorem F23_12 : pgFf 23 12 = some (11, 0, 3) := by decide +kernel
theorem D23_4 : pgDecT 23 4 = some (.iload_n 1, 1) := by decide +kernel
theorem D23_5 : pgDecT 23 5 = some (.invokevirtual 63, 3) := by decide +kernel
theorem I23_63 : pgIi 23 63 = some (17, 1, 9) := by decide +kernel
theorem D23_8 : pgDecT 23 8 = some (.ifCond .eq 18, 3) := by decide +kernel
theorem D23_26 : pgDecT 23 26 = some (.iconst 0, 1) := by decide +kernel
theorem D23_27 : pgDecT 23 27 = some (.invokestatic 67, 3) := by decide +kernel
theorem I23_67 : pgIi 23 67 = some (18, 1, 100) := by decide +kernel
theorem D23_11 : pgDecT 23 11 = some (.aload_n 0, 1) := by decide +kernel
theorem D23_12 : pgDecT 23 12 = some (.getfield 12, 3) := by decide +kernel
theorem D23_15 : pgDecT 23 15 = some (.iload_n 2, 1) := by decide +kernel
theorem D23_16 : pgDecT 23 16 = some (.invokevirtual 63, 3) := by decide +kernel
theorem D23_19 : pgDecT 23 19 = some (.ifCond .eq 7, 3) := by decide +kernel
theorem D23_22 : pgDecT 23 22 = some (.iconst 1, 1) := by decide +kernel
theorem D23_23 : pgDecT 23 23 = some (.goto 4, 3) := by decide +kernel
theorem D23_30 : pgDecT 23 30 = some (.aload_n 0, 1) := by decide +kernel
theorem D23_31 : pgDecT 23 31 = some (.getfield 12, 3) := by decide +kernel
theorem D23_34 : pgDecT 23 34 = some (.iload_n 1, 1) := by decide +kernel
theorem D23_35 : pgDecT 23 35 = some (.iload_n 2, 1) := by decide +kernel
theorem D23_36 : pgDecT 23 36 = some (.invokevirtual 71, 3) := by decide +kernel
theorem I23_71 : pgIi 23 71 = some (19, 2, 9) := by decide +kernel
theorem D23_39 : pgDecT 23 39 = some (.invokestatic 75, 3) := by decide +kernel
theorem I23_75 : pgIi 23 75 = some (20, 1, 100) := by decide +kernel
theorem D23_42 : pgDecT 23 42 = some (.ireturn, 1) := by decide +kernel
/-! 23: DictionaryHouse.function (II)I -/
def f23 (M : Mm) (x1 : Int) (x2 : Int) : Option (Int × Int × Mm) := (f17 M x1).bind (fun q2 => if q2 = 0 then (some (1, 0, M)) else (f17 M x2).bind (fun q9 => if q9 = 0 then (some (1, 0, M)) else (f19 M x1 x2).bind (fun zq17 => (f20 zq17.2 zq17.1).bind (fun zq23 => if zq23.1 = 0 then (some (0, zq23.2.1, zq23.2.2)) else some (zq23.1, 0, zq23.2.2)))))
theorem c23 {L : Nat} {xs : Nat → Int32} {h : mvH} {M : Mm} {x1 x2 : Int} {k v : Int} {M' : Mm} (R : rp h M) (rx1 : rg x1) (rx2 : rg x2) (hs : f23 M x1 x2 = some (k, v, M')) : evx L xs 10 23 0 [(0, .inr (.inr (.inl (some 0)))), (1, .inl (iz x1)), (2, .inl (iz x2))] [] h (ot k v) M' := by
  unfold f23 at hs
  refine evx_F E23 D23_0 rfl rfl ?_
  refine evx_gfr E23 D23_1 F23_12 H0 rfl R ?_
  refine evx_F E23 D23_4 rfl rfl ?_
  obtain ⟨q2, e1, hs⟩ := Option.bind_eq_some_iff.mp hs
  refine evx_cv (D := 9) E23 D23_5 I23_63 rfl rfl H1 ⟨Nat.le_of_ble_eq_true rfl, Nat.le_of_ble_eq_true rfl⟩ ⟨rfl, Nat.le_of_ble_eq_true rfl⟩ rfl R (evx_up (Nat.le_of_ble_eq_true rfl) (c17 R rx1 e1)) ?_
  intro h3 R4 w5
  have w5 : rg q2 := w5
  show evx _ _ _ _ _ _ (.inl (iz q2) :: _) _ _ _
  by_cases cb6 : q2 = 0
  · rw [if_pos cb6] at hs
    refine evx_F E23 D23_8 rfl (ifT (c1_eq_T w5 cb6)) ?_
    refine evx_F E23 D23_26 rfl rfl ?_
    cases hs
    exact evx_rqF (b := true) E23 D23_27 I23_67 (Nat.le_of_ble_eq_true rfl) rfl (Nat.le_of_ble_eq_true rfl) rfl rfl rfl R4
  · rw [if_neg cb6] at hs
    refine evx_F E23 D23_8 rfl (ifF (c1_eq_F w5 (by omega))) ?_
    refine evx_F E23 D23_11 rfl rfl ?_
    refine evx_gfr E23 D23_12 F23_12 H0 rfl R4 ?_
    refine evx_F E23 D23_15 rfl rfl ?_
    obtain ⟨q9, e8, hs⟩ := Option.bind_eq_some_iff.mp hs
    refine evx_cv (D := 9) E23 D23_16 I23_63 rfl rfl H1 ⟨Nat.le_of_ble_eq_true rfl, Nat.le_of_ble_eq_true rfl⟩ ⟨rfl, Nat.le_of_ble_eq_true rfl⟩ rfl R4 (evx_up (Nat.le_of_ble_eq_true rfl) (c17 R4 rx2 e8)) ?_
    intro h10 R11 w12
    have w12 : rg q9 := w12
    show evx _ _ _ _ _ _ (.inl (iz q9) :: _) _ _ _
    by_cases cb13 : q9 = 0
    · rw [if_pos cb13] at hs
      refine evx_F E23 D23_19 rfl (ifT (c1_eq_T w12 cb13)) ?_
      refine evx_F E23 D23_26 rfl rfl ?_
      cases hs
      exact evx_rqF (b := true) E23 D23_27 I23_67 (Nat.le_of_ble_eq_true rfl) rfl (Nat.le_of_ble_eq_true rfl) rfl rfl rfl R11
    · rw [if_neg cb13] at hs
      refine evx_F E23 D23_19 rfl (ifF (c1_eq_F w12 (by omega))) ?_
      refine evx_F E23 D23_22 rfl rfl ?_
      refine evx_F E23 D23_23 rfl rfl ?_
      refine evx_rqT (b := true) E23 D23_27 I23_67 (Nat.le_of_ble_eq_true rfl) rfl (Nat.le_of_ble_eq_true rfl) (by decide) (by decide) ?_
      refine evx_F E23 D23_30 rfl rfl ?_
      refine evx_gfr E23 D23_31 F23_12 H0 rfl R11 ?_
      refine evx_F E23 D23_34 rfl rfl ?_
      refine evx_F E23 D23_35 rfl rfl ?_
      obtain ⟨⟨q17, M21⟩, e16, hs⟩ := Option.bind_eq_some_iff.mp hs
      dsimp only at hs
      refine evx_cv (D := 9) E23 D23_36 I23_71 rfl rfl H1 ⟨Nat.le_of_ble_eq_true rfl, Nat.le_of_ble_eq_true rfl⟩ ⟨rfl, Nat.le_of_ble_eq_true rfl⟩ rfl R11 (evx_up (Nat.le_of_ble_eq_true rfl) (c19 R11 rx1 rx2 e16)) ?_
      intro h18 R19 w20
      have w20 : rg q17 := w20
      show evx _ _ _ _ _ _ (.inl (iz q17) :: _) _ _ _
      obtain ⟨⟨kq28, q23, M27⟩, e22, hs⟩ := Option.bind_eq_some_iff.mp hs
      dsimp only at hs
      have ge22 := c20 (L := L) (xs := xs) R19 w20 e22
      by_cases cb29 : kq28 = 0
      · rw [if_pos cb29] at hs
        subst cb29
        refine evx_cs (D := 9) E23 D23_39 I23_75 rfl rfl (Nat.le_of_ble_eq_true rfl) ⟨rfl, Nat.le_of_ble_eq_true rfl⟩ rfl (evx_up (Nat.le_of_ble_eq_true rfl) ge22) ?_
        intro h24 R25 w26
        have w26 : rg q23 := w26
        show evx _ _ _ _ _ _ (.inl (iz q23) :: _) _ _ _
        cases hs
        exact evx_ret E23 D23_42 rfl (fun d => rfl) rfl (show rg _ from w26) R25
      · rw [if_neg cb29] at hs
        cases hs
        rw [ot_ne cb29] at ge22 ⊢
        exact evx_ths (D := 9) E23 D23_39 I23_75 rfl rfl (Nat.le_of_ble_eq_true rfl) ⟨rfl, Nat.le_of_ble_eq_true rfl⟩ rfl (thb (P := fun b => pgHf 23 39 (exn b) = none) rfl rfl _) rfl (evx_up (Nat.le_of_ble_eq_true rfl) ge22)
set_option maxRecDepth 20000 in
theorem E26 : pgMm 26 = some (⟨"DictionaryHouse$ClassTable", "has", "(I)Z"⟩, prog_3_method_3_code, 2, (some .boolean), []) := rfl
theorem D26_0 : pgDecT 26 0 = some (.iload_n 1, 1) := by decide +kernel
theorem D26_1 : pgDecT 26 1 = some (.ifCond .lt 15, 3) := by decide +kernel
theorem D26_16 : pgDecT 26 16 = some (.iconst 0, 1) := by decide +kernel
theorem D26_17 : pgDecT 26 17 = some (.ireturn, 1) := by decide +kernel
theorem D26_4 : pgDecT 26 4 = some (.iload_n 1, 1) := by decide +kernel
theorem D26_5 : pgDecT 26 5 = some (.aload_n 0, 1) := by decide +kernel
theorem D26_6 : pgDecT 26 6 = some (.getfield 37, 3) := by decide +kernel
theorem F26_37 : pgFf 26 37 = some (1, 6, 0) := by decide +kernel
theorem D26_9 : pgDecT 26 9 = some (.if_icmp .ge 7, 3) := by decide +kernel
theorem D26_12 : pgDecT 26 12 = some (.iconst 1, 1) := by decide +kernel
theorem D26_13 : pgDecT 26 13 = some (.goto 4, 3) := by decide +kernel
/-! 26: DictionaryHouse$ClassTable.has (I)Z -/
def f26 (M : Mm) (x1 : Int) : Option Int := if x1 < 0 then (some 0) else (if (M 5 6) ≤ x1 then (some 0) else (some 1))
theorem c26 {L : Nat} {xs : Nat → Int32} {h : mvH} {M : Mm} {x1 : Int} {v : Int} (R : rp h M) (rx1 : rg x1) (hs : f26 M x1 = some v) : evx L xs 1 26 0 [(0, .inr (.inr (.inl (some 5)))), (1, .inl (iz x1))] [] h (.inl (some (.inl v)), 0) M := by
  unfold f26 at hs
  refine evx_F E26 D26_0 rfl rfl ?_
  by_cases cb1 : x1 < 0
  · rw [if_pos cb1] at hs
    refine evx_F E26 D26_1 rfl (ifT (c1_lt_T rx1 cb1)) ?_
    refine evx_F E26 D26_16 rfl rfl ?_
    cases hs
    exact evx_ret E26 D26_17 rfl (fun d => rfl) rfl (show rg _ from (by decide)) R
  · rw [if_neg cb1] at hs
    refine evx_F E26 D26_1 rfl (ifF (c1_lt_F rx1 (by omega))) ?_
    refine evx_F E26 D26_4 rfl rfl ?_
    refine evx_F E26 D26_5 rfl rfl ?_
    refine evx_gfi (k := 6) E26 D26_6 F26_37 H5 rfl R ?_
    by_cases cb2 : (M 5 6) ≤ x1
    · rw [if_pos cb2] at hs
      refine evx_F E26 D26_9 rfl (ifT (c2_ge_T rx1 (R.1 5 6) cb2)) ?_
      refine evx_F E26 D26_16 rfl rfl ?_
      cases hs
      exact evx_ret E26 D26_17 rfl (fun d => rfl) rfl (show rg _ from (by decide)) R
    · rw [if_neg cb2] at hs
      refine evx_F E26 D26_9 rfl (ifF (c2_ge_F rx1 (R.1 5 6) (by omega))) ?_
      refine evx_F E26 D26_12 rfl rfl ?_
      refine evx_F E26 D26_13 rfl rfl ?_
      cases hs
      exact evx_ret E26 D26_17 rfl (fun d => rfl) rfl (show rg _ from (by decide)) R
set_option maxRecDepth 20000 in
theorem E27 : pgMm 27 = some (⟨"DictionaryHouse$ClassTable", "count", "()I"⟩, prog_3_method_2_code, 1, (some .int), []) := rfl
theorem D27_0 : pgDecT 27 0 = some (.aload_n 0, 1) := by decide +kernel
theorem D27_1 : pgDecT 27 1 = some (.getfield 37, 3) := by decide +kernel
theorem F27_37 : pgFf 27 37 = some (1, 6, 0) := by decide +kernel
theorem D27_4 : pgDecT 27 4 = some (.ireturn, 1) := by decide +kernel
/-! 27: DictionaryHouse$ClassTable.count ()I -/
def f27 (M : Mm) : Option Int := some (M 5 6)
theorem c27 {L : Nat} {xs : Nat → Int32} {h : mvH} {M : Mm} {v : Int} (R : rp h M)  (hs : f27 M  = some v) : evx L xs 1 27 0 [(0, .inr (.inr (.inl (some 5))))] [] h (.inl (some (.inl v)), 0) M := by
  unfold f27 at hs
  refine evx_F E27 D27_0 rfl rfl ?_
  refine evx_gfi (k := 6) E27 D27_1 F27_37 H5 rfl R ?_
  cases hs
  exact evx_ret E27 D27_4 rfl (fun d => rfl) rfl (show rg _ from (R.1 5 6)) R
set_option maxRecDepth 20000 in
theorem E28 : pgMm 28 = some (⟨"DictionaryHouse$ClassTable", "addClass", "(I)I"⟩, prog_3_method_7_code, 2, (some .int), []) := rfl
theorem D28_0 : pgDecT 28 0 = some (.aload_n 0, 1) := by decide +kernel
theorem D28_1 : pgDecT 28 1 = some (.getfield 9, 3) := by decide +kernel
theorem F28_9 : pgFf 28 9 = some (1, 0, 3) := by decide +kernel
theorem D28_4 : pgDecT 28 4 = some (.aload_n 0, 1) := by decide +kernel
theorem D28_5 : pgDecT 28 5 = some (.getfield 37, 3) := by decide +kernel
theorem F28_37 : pgFf 28 37 = some (1, 6, 0) := by decide +kernel
theorem D28_8 : pgDecT 28 8 = some (.iload_n 1, 1) := by decide +kernel
theorem D28_9 : pgDecT 28 9 = some (.iastore, 1) := by decide +kernel
theorem D28_10 : pgDecT 28 10 = some (.aload_n 0, 1) := by decide +kernel
theorem D28_11 : pgDecT 28 11 = some (.dup, 1) := by decide +kernel
theorem D28_12 : pgDecT 28 12 = some (.getfield 37, 3) := by decide +kernel
theorem D28_15 : pgDecT 28 15 = some (.dup_x1, 1) := by decide +kernel
theorem D28_16 : pgDecT 28 16 = some (.iconst 1, 1) := by decide +kernel
theorem D28_17 : pgDecT 28 17 = some (.iadd, 1) := by decide +kernel
theorem D28_18 : pgDecT 28 18 = some (.putfield 37, 3) := by decide +kernel
theorem D28_21 : pgDecT 28 21 = some (.ireturn, 1) := by decide +kernel
/-! 28: DictionaryHouse$ClassTable.addClass (I)I -/
def f28 (M : Mm) (x1 : Int) : Option (Int × Mm) := if 0 ≤ (M 5 6) ∧ (M 5 6) < 6 then (if rg ((M 5 6) + 1) then (some ((M 5 6), (up (up M 6 (Int.toNat (M 5 6)) x1) 5 6 ((M 5 6) + 1)))) else none) else none
theorem c28 {L : Nat} {xs : Nat → Int32} {h : mvH} {M : Mm} {x1 : Int} {v : Int} {M' : Mm} (R : rp h M) (rx1 : rg x1) (hs : f28 M x1 = some (v, M')) : evx L xs 1 28 0 [(0, .inr (.inr (.inl (some 5)))), (1, .inl (iz x1))] [] h (.inl (some (.inl v)), 0) M' := by
  unfold f28 at hs
  refine evx_F E28 D28_0 rfl rfl ?_
  refine evx_gfr E28 D28_1 F28_9 H5 rfl R ?_
  refine evx_F E28 D28_4 rfl rfl ?_
  refine evx_gfi (k := 6) E28 D28_5 F28_37 H5 rfl R ?_
  refine evx_F E28 D28_8 rfl rfl ?_
  obtain ⟨k1, hs⟩ := ck hs
  refine evx_ias E28 D28_9 H6 (by decide) R k1 rx1 ?_
  intro h2 R3
  refine evx_F E28 D28_10 rfl rfl ?_
  refine evx_F E28 D28_11 rfl rfl ?_
  refine evx_gfi (k := 6) E28 D28_12 F28_37 H5 rfl R3 ?_
  show evx _ _ _ _ _ _ (.inl (iz (M 5 6)) :: _) _ _ _
  refine evx_F E28 D28_15 rfl rfl ?_
  refine evx_F E28 D28_16 rfl rfl ?_
  refine evx_add E28 D28_17 ?_
  obtain ⟨k4, hs⟩ := ck hs
  refine evx_pfi (k := 6) E28 D28_18 F28_37 H5 rfl R3 k4 rfl ?_
  intro h5 R6
  cases hs
  exact evx_ret E28 D28_21 rfl (fun d => rfl) rfl (show rg _ from (R3.1 5 6)) R6
set_option maxRecDepth 20000 in
theorem E31 : pgMm 31 = some (⟨"DictionaryHouse$TypeTable", "hasOnlyTheFirstVariable", "(I)Z"⟩, prog_11_method_8_code, 2, (some .boolean), []) := rfl
theorem D31_0 : pgDecT 31 0 = some (.aload_n 0, 1) := by decide +kernel
theorem D31_1 : pgDecT 31 1 = some (.getfield 18, 3) := by decide +kernel
theorem F31_18 : pgFf 31 18 = some (9, 2, 3) := by decide +kernel
theorem D31_4 : pgDecT 31 4 = some (.iload_n 1, 1) := by decide +kernel
theorem D31_5 : pgDecT 31 5 = some (.iaload, 1) := by decide +kernel
theorem D31_6 : pgDecT 31 6 = some (.iconst 1, 1) := by decide +kernel
theorem D31_7 : pgDecT 31 7 = some (.if_icmp .ne 7, 3) := by decide +kernel
theorem D31_14 : pgDecT 31 14 = some (.iconst 0, 1) := by decide +kernel
theorem D31_15 : pgDecT 31 15 = some (.ireturn, 1) := by decide +kernel
theorem D31_10 : pgDecT 31 10 = some (.iconst 1, 1) := by decide +kernel
theorem D31_11 : pgDecT 31 11 = some (.goto 4, 3) := by decide +kernel
/-! 31: DictionaryHouse$TypeTable.hasOnlyTheFirstVariable (I)Z -/
def f31 (M : Mm) (x1 : Int) : Option Int := if 0 ≤ x1 ∧ x1 < 40 then (if ¬ (M 4 (Int.toNat x1)) = 1 then (some 0) else (some 1)) else none
theorem c31 {L : Nat} {xs : Nat → Int32} {h : mvH} {M : Mm} {x1 : Int} {v : Int} (R : rp h M) (rx1 : rg x1) (hs : f31 M x1 = some v) : evx L xs 1 31 0 [(0, .inr (.inr (.inl (some 1)))), (1, .inl (iz x1))] [] h (.inl (some (.inl v)), 0) M := by
  unfold f31 at hs
  refine evx_F E31 D31_0 rfl rfl ?_
  refine evx_gfr E31 D31_1 F31_18 H1 rfl R ?_
  refine evx_F E31 D31_4 rfl rfl ?_
  obtain ⟨k1, hs⟩ := ck hs
  refine evx_ial E31 D31_5 H4 (by decide) R k1 ?_
  refine evx_F E31 D31_6 rfl rfl ?_
  by_cases cb2 : ¬ (M 4 (Int.toNat x1)) = 1
  · rw [if_pos cb2] at hs
    refine evx_F E31 D31_7 rfl (ifT (c2_ne_T (R.1 4 (Int.toNat x1)) (by decide) cb2)) ?_
    refine evx_F E31 D31_14 rfl rfl ?_
    cases hs
    exact evx_ret E31 D31_15 rfl (fun d => rfl) rfl (show rg _ from (by decide)) R
  · rw [if_neg cb2] at hs
    refine evx_F E31 D31_7 rfl (ifF (c2_ne_F (R.1 4 (Int.toNat x1)) (by decide) (by omega))) ?_
    refine evx_F E31 D31_10 rfl rfl ?_
    refine evx_F E31 D31_11 rfl rfl ?_
    cases hs
    exact evx_ret E31 D31_15 rfl (fun d => rfl) rfl (show rg _ from (by decide)) R
set_option maxRecDepth 20000 in
theorem E32 : pgMm 32 = some (⟨"DictionaryHouse$ClassTable", "methodsOf", "(I)I"⟩, prog_3_method_5_code, 2, (some .int), []) := rfl
theorem D32_0 : pgDecT 32 0 = some (.aload_n 0, 1) := by decide +kernel
theorem D32_1 : pgDecT 32 1 = some (.getfield 15, 3) := by decide +kernel
theorem F32_15 : pgFf 32 15 = some (1, 1, 3) := by decide +kernel
theorem D32_4 : pgDecT 32 4 = some (.iload_n 1, 1) := by decide +kernel
theorem D32_5 : pgDecT 32 5 = some (.iaload, 1) := by decide +kernel
theorem D32_6 : pgDecT 32 6 = some (.ireturn, 1) := by decide +kernel
/-! 32: DictionaryHouse$ClassTable.methodsOf (I)I -/
def f32 (M : Mm) (x1 : Int) : Option Int := if 0 ≤ x1 ∧ x1 < 6 then (some (M 7 (Int.toNat x1))) else none
theorem c32 {L : Nat} {xs : Nat → Int32} {h : mvH} {M : Mm} {x1 : Int} {v : Int} (R : rp h M) (rx1 : rg x1) (hs : f32 M x1 = some v) : evx L xs 1 32 0 [(0, .inr (.inr (.inl (some 5)))), (1, .inl (iz x1))] [] h (.inl (some (.inl v)), 0) M := by
  unfold f32 at hs
  refine evx_F E32 D32_0 rfl rfl ?_
  refine evx_gfr E32 D32_1 F32_15 H5 rfl R ?_
  refine evx_F E32 D32_4 rfl rfl ?_
  obtain ⟨k1, hs⟩ := ck hs
  refine evx_ial E32 D32_5 H7 (by decide) R k1 ?_
  cases hs
  exact evx_ret E32 D32_6 rfl (fun d => rfl) rfl (show rg _ from (R.1 7 (Int.toNat x1))) R
set_option maxRecDepth 20000 in
theorem E34 : pgMm 34 = some (⟨"DictionaryHouse$ClassTable", "hasInstance", "(II)Z"⟩, prog_3_method_9_code, 3, (some .boolean), []) := rfl
theorem D34_0 : pgDecT 34 0 = some (.aload_n 0, 1) := by decide +kernel
theorem D34_1 : pgDecT 34 1 = some (.getfield 21, 3) := by decide +kernel
theorem F34_21 : pgFf 34 21 = some (1, 3, 3) := by decide +kernel
theorem D34_4 : pgDecT 34 4 = some (.iload_n 1, 1) := by decide +kernel
theorem D34_5 : pgDecT 34 5 = some (.iconst 3, 1) := by decide +kernel
theorem D34_6 : pgDecT 34 6 = some (.imul, 1) := by decide +kernel
theorem D34_7 : pgDecT 34 7 = some (.iload_n 2, 1) := by decide +kernel
theorem D34_8 : pgDecT 34 8 = some (.iadd, 1) := by decide +kernel
theorem D34_9 : pgDecT 34 9 = some (.baload, 1) := by decide +kernel
theorem D34_10 : pgDecT 34 10 = some (.ireturn, 1) := by decide +kernel
/-! 34: DictionaryHouse$ClassTable.hasInstance (II)Z -/
def f34 (M : Mm) (x1 : Int) (x2 : Int) : Option Int := if 0 ≤ ((x1 * 3) + x2) ∧ ((x1 * 3) + x2) < 18 then (if (M 9 (Int.toNat ((x1 * 3) + x2))) = 0 ∨ (M 9 (Int.toNat ((x1 * 3) + x2))) = 1 then (some (M 9 (Int.toNat ((x1 * 3) + x2)))) else none) else none
theorem c34 {L : Nat} {xs : Nat → Int32} {h : mvH} {M : Mm} {x1 x2 : Int} {v : Int} (R : rp h M) (rx1 : rg x1) (rx2 : rg x2) (hs : f34 M x1 x2 = some v) : evx L xs 1 34 0 [(0, .inr (.inr (.inl (some 5)))), (1, .inl (iz x1)), (2, .inl (iz x2))] [] h (.inl (some (.inl v)), 0) M := by
  unfold f34 at hs
  refine evx_F E34 D34_0 rfl rfl ?_
  refine evx_gfr E34 D34_1 F34_21 H5 rfl R ?_
  refine evx_F E34 D34_4 rfl rfl ?_
  refine evx_F E34 D34_5 rfl rfl ?_
  refine evx_mul E34 D34_6 ?_
  refine evx_F E34 D34_7 rfl rfl ?_
  refine evx_add E34 D34_8 ?_
  obtain ⟨k1, hs⟩ := ck hs
  refine evx_bal E34 D34_9 H9 (by decide) R k1 ?_
  obtain ⟨k2, hs⟩ := ck hs
  cases hs
  exact evx_retb E34 D34_10 rfl k2 R
set_option maxRecDepth 20000 in
theorem E35 : pgMm 35 = some (⟨"DictionaryHouse$ClassTable", "addMethod", "(II)I"⟩, prog_3_method_8_code, 3, (some .int), []) := rfl
theorem D35_0 : pgDecT 35 0 = some (.aload_n 0, 1) := by decide +kernel
theorem D35_1 : pgDecT 35 1 = some (.getfield 18, 3) := by decide +kernel
theorem F35_18 : pgFf 35 18 = some (1, 2, 3) := by decide +kernel
theorem D35_4 : pgDecT 35 4 = some (.iload_n 1, 1) := by decide +kernel
theorem D35_5 : pgDecT 35 5 = some (.iconst 3, 1) := by decide +kernel
theorem D35_6 : pgDecT 35 6 = some (.imul, 1) := by decide +kernel
theorem D35_7 : pgDecT 35 7 = some (.aload_n 0, 1) := by decide +kernel
theorem D35_8 : pgDecT 35 8 = some (.getfield 15, 3) := by decide +kernel
theorem F35_15 : pgFf 35 15 = some (1, 1, 3) := by decide +kernel
theorem D35_11 : pgDecT 35 11 = some (.iload_n 1, 1) := by decide +kernel
theorem D35_12 : pgDecT 35 12 = some (.iaload, 1) := by decide +kernel
theorem D35_13 : pgDecT 35 13 = some (.iadd, 1) := by decide +kernel
theorem D35_14 : pgDecT 35 14 = some (.iload_n 2, 1) := by decide +kernel
theorem D35_15 : pgDecT 35 15 = some (.iastore, 1) := by decide +kernel
theorem D35_16 : pgDecT 35 16 = some (.aload_n 0, 1) := by decide +kernel
theorem D35_17 : pgDecT 35 17 = some (.getfield 15, 3) := by decide +kernel
theorem D35_20 : pgDecT 35 20 = some (.iload_n 1, 1) := by decide +kernel
theorem D35_21 : pgDecT 35 21 = some (.dup2, 1) := by decide +kernel
theorem D35_22 : pgDecT 35 22 = some (.iaload, 1) := by decide +kernel
theorem D35_23 : pgDecT 35 23 = some (.dup_x2, 1) := by decide +kernel
theorem D35_24 : pgDecT 35 24 = some (.iconst 1, 1) := by decide +kernel
theorem D35_25 : pgDecT 35 25 = some (.iadd, 1) := by decide +kernel
theorem D35_26 : pgDecT 35 26 = some (.iastore, 1) := by decide +kernel
theorem D35_27 : pgDecT 35 27 = some (.ireturn, 1) := by decide +kernel
/-! 35: DictionaryHouse$ClassTable.addMethod (II)I -/
def f35 (M : Mm) (x1 : Int) (x2 : Int) : Option (Int × Mm) := if 0 ≤ x1 ∧ x1 < 6 then (if 0 ≤ ((x1 * 3) + (M 7 (Int.toNat x1))) ∧ ((x1 * 3) + (M 7 (Int.toNat x1))) < 18 then (if rg ((M 7 (Int.toNat x1)) + 1) then (some ((M 7 (Int.toNat x1)), (up (up M 8 (Int.toNat ((x1 * 3) + (M 7 (Int.toNat x1)))) x2) 7 (Int.toNat x1) ((M 7 (Int.toNat x1)) + 1)))) else none) else none) else none
theorem c35 {L : Nat} {xs : Nat → Int32} {h : mvH} {M : Mm} {x1 x2 : Int} {v : Int} {M' : Mm} (R : rp h M) (rx1 : rg x1) (rx2 : rg x2) (hs : f35 M x1 x2 = some (v, M')) : evx L xs 1 35 0 [(0, .inr (.inr (.inl (some 5)))), (1, .inl (iz x1)), (2, .inl (iz x2))] [] h (.inl (some (.inl v)), 0) M' := by
  unfold f35 at hs
  refine evx_F E35 D35_0 rfl rfl ?_
  refine evx_gfr E35 D35_1 F35_18 H5 rfl R ?_
  refine evx_F E35 D35_4 rfl rfl ?_
  refine evx_F E35 D35_5 rfl rfl ?_
  refine evx_mul E35 D35_6 ?_
  refine evx_F E35 D35_7 rfl rfl ?_
  refine evx_gfr E35 D35_8 F35_15 H5 rfl R ?_
  refine evx_F E35 D35_11 rfl rfl ?_
  obtain ⟨k1, hs⟩ := ck hs
  refine evx_ial E35 D35_12 H7 (by decide) R k1 ?_
  refine evx_add E35 D35_13 ?_
  refine evx_F E35 D35_14 rfl rfl ?_
  obtain ⟨k2, hs⟩ := ck hs
  refine evx_ias E35 D35_15 H8 (by decide) R k2 rx2 ?_
  intro h3 R4
  refine evx_F E35 D35_16 rfl rfl ?_
  refine evx_gfr E35 D35_17 F35_15 H5 rfl R4 ?_
  refine evx_F E35 D35_20 rfl rfl ?_
  refine evx_F E35 D35_21 rfl rfl ?_
  refine evx_ial E35 D35_22 H7 (by decide) R4 k1 ?_
  show evx _ _ _ _ _ _ (.inl (iz (M 7 (Int.toNat x1))) :: _) _ _ _
  refine evx_F E35 D35_23 rfl rfl ?_
  refine evx_F E35 D35_24 rfl rfl ?_
  refine evx_add E35 D35_25 ?_
  obtain ⟨k5, hs⟩ := ck hs
  refine evx_ias E35 D35_26 H7 (by decide) R4 k1 k5 ?_
  intro h6 R7
  cases hs
  exact evx_ret E35 D35_27 rfl (fun d => rfl) rfl (show rg _ from (R4.1 7 (Int.toNat x1))) R7
set_option maxRecDepth 20000 in
theorem E40 : pgMm 40 = some (⟨"DictionaryHouse$Expressions", "placesFor", "(III)I"⟩, prog_6_method_9_code, 4, (some .int), []) := rfl
theorem D40_0 : pgDecT 40 0 = some (.iload_n 1, 1) := by decide +kernel
theorem D40_1 : pgDecT 40 1 = some (.iconst 3, 1) := by decide +kernel
theorem D40_2 : pgDecT 40 2 = some (.if_icmp .ne 12, 3) := by decide +kernel
theorem D40_14 : pgDecT 40 14 = some (.iload_n 1, 1) := by decide +kernel
theorem D40_15 : pgDecT 40 15 = some (.iconst 4, 1) := by decide +kernel
theorem D40_16 : pgDecT 40 16 = some (.if_icmp .ne 21, 3) := by decide +kernel
theorem D40_37 : pgDecT 40 37 = some (.iconst 1, 1) := by decide +kernel
theorem D40_38 : pgDecT 40 38 = some (.ireturn, 1) := by decide +kernel
theorem D40_19 : pgDecT 40 19 = some (.iconst 1, 1) := by decide +kernel
theorem D40_20 : pgDecT 40 20 = some (.aload_n 0, 1) := by decide +kernel
theorem D40_21 : pgDecT 40 21 = some (.getfield 21, 3) := by decide +kernel
theorem F40_21 : pgFf 40 21 = some (4, 3, 3) := by decide +kernel
theorem D40_24 : pgDecT 40 24 = some (.iload_n 2, 1) := by decide +kernel
theorem D40_25 : pgDecT 40 25 = some (.iaload, 1) := by decide +kernel
theorem D40_26 : pgDecT 40 26 = some (.iadd, 1) := by decide +kernel
theorem D40_27 : pgDecT 40 27 = some (.aload_n 0, 1) := by decide +kernel
theorem D40_28 : pgDecT 40 28 = some (.getfield 21, 3) := by decide +kernel
theorem D40_31 : pgDecT 40 31 = some (.iload_n 3, 1) := by decide +kernel
theorem D40_32 : pgDecT 40 32 = some (.iaload, 1) := by decide +kernel
theorem D40_33 : pgDecT 40 33 = some (.iadd, 1) := by decide +kernel
theorem D40_34 : pgDecT 40 34 = some (.goto 4, 3) := by decide +kernel
theorem D40_5 : pgDecT 40 5 = some (.iconst 1, 1) := by decide +kernel
theorem D40_6 : pgDecT 40 6 = some (.aload_n 0, 1) := by decide +kernel
theorem D40_7 : pgDecT 40 7 = some (.getfield 21, 3) := by decide +kernel
theorem D40_10 : pgDecT 40 10 = some (.iload_n 2, 1) := by decide +kernel
theorem D40_11 : pgDecT 40 11 = some (.iaload, 1) := by decide +kernel
theorem D40_12 : pgDecT 40 12 = some (.iadd, 1) := by decide +kernel
theorem D40_13 : pgDecT 40 13 = some (.ireturn, 1) := by decide +kernel
/-! 40: DictionaryHouse$Expressions.placesFor (III)I -/
def f40 (M : Mm) (x1 : Int) (x2 : Int) (x3 : Int) : Option Int := if ¬ x1 = 3 then (if ¬ x1 = 4 then (some 1) else (if 0 ≤ x2 ∧ x2 < 200 then (if 0 ≤ x3 ∧ x3 < 200 then (if rg (((1 : Int) + (M 16 (Int.toNat x2))) + (M 16 (Int.toNat x3))) then (some (((1 : Int) + (M 16 (Int.toNat x2))) + (M 16 (Int.toNat x3)))) else none) else none) else none)) else (if 0 ≤ x2 ∧ x2 < 200 then (if rg ((1 : Int) + (M 16 (Int.toNat x2))) then (some ((1 : Int) + (M 16 (Int.toNat x2)))) else none) else none)
theorem c40 {L : Nat} {xs : Nat → Int32} {h : mvH} {M : Mm} {x1 x2 x3 : Int} {v : Int} (R : rp h M) (rx1 : rg x1) (rx2 : rg x2) (rx3 : rg x3) (hs : f40 M x1 x2 x3 = some v) : evx L xs 1 40 0 [(0, .inr (.inr (.inl (some 12)))), (1, .inl (iz x1)), (2, .inl (iz x2)), (3, .inl (iz x3))] [] h (.inl (some (.inl v)), 0) M := by
  unfold f40 at hs
  refine evx_F E40 D40_0 rfl rfl ?_
  refine evx_F E40 D40_1 rfl rfl ?_
  by_cases cb1 : ¬ x1 = 3
  · rw [if_pos cb1] at hs
    refine evx_F E40 D40_2 rfl (ifT (c2_ne_T rx1 (by decide) cb1)) ?_
    refine evx_F E40 D40_14 rfl rfl ?_
    refine evx_F E40 D40_15 rfl rfl ?_
    by_cases cb2 : ¬ x1 = 4
    · rw [if_pos cb2] at hs
      refine evx_F E40 D40_16 rfl (ifT (c2_ne_T rx1 (by decide) cb2)) ?_
      refine evx_F E40 D40_37 rfl rfl ?_
      cases hs
      exact evx_ret E40 D40_38 rfl (fun d => rfl) rfl (show rg _ from (by decide)) R
    · rw [if_neg cb2] at hs
      refine evx_F E40 D40_16 rfl (ifF (c2_ne_F rx1 (by decide) (by omega))) ?_
      refine evx_F E40 D40_19 rfl rfl ?_
      refine evx_F E40 D40_20 rfl rfl ?_
      refine evx_gfr E40 D40_21 F40_21 H12 rfl R ?_
      refine evx_F E40 D40_24 rfl rfl ?_
      obtain ⟨k3, hs⟩ := ck hs
      refine evx_ial E40 D40_25 H16 (by decide) R k3 ?_
      refine evx_add E40 D40_26 ?_
      refine evx_F E40 D40_27 rfl rfl ?_
      refine evx_gfr E40 D40_28 F40_21 H12 rfl R ?_
      refine evx_F E40 D40_31 rfl rfl ?_
      obtain ⟨k4, hs⟩ := ck hs
      refine evx_ial E40 D40_32 H16 (by decide) R k4 ?_
      refine evx_add E40 D40_33 ?_
      refine evx_F E40 D40_34 rfl rfl ?_
      obtain ⟨k5, hs⟩ := ck hs
      cases hs
      exact evx_ret E40 D40_38 rfl (fun d => rfl) rfl (show rg _ from k5) R
  · rw [if_neg cb1] at hs
    refine evx_F E40 D40_2 rfl (ifF (c2_ne_F rx1 (by decide) (by omega))) ?_
    refine evx_F E40 D40_5 rfl rfl ?_
    refine evx_F E40 D40_6 rfl rfl ?_
    refine evx_gfr E40 D40_7 F40_21 H12 rfl R ?_
    refine evx_F E40 D40_10 rfl rfl ?_
    obtain ⟨k6, hs⟩ := ck hs
    refine evx_ial E40 D40_11 H16 (by decide) R k6 ?_
    refine evx_add E40 D40_12 ?_
    obtain ⟨k7, hs⟩ := ck hs
    cases hs
    exact evx_ret E40 D40_13 rfl (fun d => rfl) rfl (show rg _ from k7) R
set_option maxRecDepth 20000 in
theorem E41 : pgMm 41 = some (⟨"DictionaryHouse$Expressions", "add", "(III)I"⟩, prog_6_method_8_code, 4, (some .int), []) := rfl
theorem D41_0 : pgDecT 41 0 = some (.aload_n 0, 1) := by decide +kernel
theorem D41_1 : pgDecT 41 1 = some (.getfield 9, 3) := by decide +kernel
theorem F41_9 : pgFf 41 9 = some (4, 0, 3) := by decide +kernel
theorem D41_4 : pgDecT 41 4 = some (.aload_n 0, 1) := by decide +kernel
theorem D41_5 : pgDecT 41 5 = some (.getfield 24, 3) := by decide +kernel
theorem F41_24 : pgFf 41 24 = some (4, 4, 0) := by decide +kernel
theorem D41_8 : pgDecT 41 8 = some (.iload_n 1, 1) := by decide +kernel
theorem D41_9 : pgDecT 41 9 = some (.iastore, 1) := by decide +kernel
theorem D41_10 : pgDecT 41 10 = some (.aload_n 0, 1) := by decide +kernel
theorem D41_11 : pgDecT 41 11 = some (.getfield 15, 3) := by decide +kernel
theorem F41_15 : pgFf 41 15 = some (4, 1, 3) := by decide +kernel
theorem D41_14 : pgDecT 41 14 = some (.aload_n 0, 1) := by decide +kernel
theorem D41_15 : pgDecT 41 15 = some (.getfield 24, 3) := by decide +kernel
theorem D41_18 : pgDecT 41 18 = some (.iload_n 2, 1) := by decide +kernel
theorem D41_19 : pgDecT 41 19 = some (.iastore, 1) := by decide +kernel
theorem D41_20 : pgDecT 41 20 = some (.aload_n 0, 1) := by decide +kernel
theorem D41_21 : pgDecT 41 21 = some (.getfield 18, 3) := by decide +kernel
theorem F41_18 : pgFf 41 18 = some (4, 2, 3) := by decide +kernel
theorem D41_24 : pgDecT 41 24 = some (.aload_n 0, 1) := by decide +kernel
theorem D41_25 : pgDecT 41 25 = some (.getfield 24, 3) := by decide +kernel
theorem D41_28 : pgDecT 41 28 = some (.iload_n 3, 1) := by decide +kernel
theorem D41_29 : pgDecT 41 29 = some (.iastore, 1) := by decide +kernel
theorem D41_30 : pgDecT 41 30 = some (.aload_n 0, 1) := by decide +kernel
theorem D41_31 : pgDecT 41 31 = some (.getfield 21, 3) := by decide +kernel
theorem F41_21 : pgFf 41 21 = some (4, 3, 3) := by decide +kernel
theorem D41_34 : pgDecT 41 34 = some (.aload_n 0, 1) := by decide +kernel
theorem D41_35 : pgDecT 41 35 = some (.getfield 24, 3) := by decide +kernel
theorem D41_38 : pgDecT 41 38 = some (.aload_n 0, 1) := by decide +kernel
theorem D41_39 : pgDecT 41 39 = some (.iload_n 1, 1) := by decide +kernel
theorem D41_40 : pgDecT 41 40 = some (.iload_n 2, 1) := by decide +kernel
theorem D41_41 : pgDecT 41 41 = some (.iload_n 3, 1) := by decide +kernel
theorem D41_42 : pgDecT 41 42 = some (.invokevirtual 28, 3) := by decide +kernel
theorem I41_28 : pgIi 41 28 = some (40, 3, 4) := by decide +kernel
theorem D41_45 : pgDecT 41 45 = some (.iastore, 1) := by decide +kernel
theorem D41_46 : pgDecT 41 46 = some (.aload_n 0, 1) := by decide +kernel
theorem D41_47 : pgDecT 41 47 = some (.dup, 1) := by decide +kernel
theorem D41_48 : pgDecT 41 48 = some (.getfield 24, 3) := by decide +kernel
theorem D41_51 : pgDecT 41 51 = some (.dup_x1, 1) := by decide +kernel
theorem D41_52 : pgDecT 41 52 = some (.iconst 1, 1) := by decide +kernel
theorem D41_53 : pgDecT 41 53 = some (.iadd, 1) := by decide +kernel
theorem D41_54 : pgDecT 41 54 = some (.putfield 24, 3) := by decide +kernel
theorem D41_57 : pgDecT 41 57 = some (.ireturn, 1) := by decide +kernel
/-! 41: DictionaryHouse$Expressions.add (III)I -/
def f41 (M : Mm) (x1 : Int) (x2 : Int) (x3 : Int) : Option (Int × Mm) := if 0 ≤ (M 12 4) ∧ (M 12 4) < 200 then (f40 (up (up (up M 13 (Int.toNat (M 12 4)) x1) 14 (Int.toNat (M 12 4)) x2) 15 (Int.toNat (M 12 4)) x3) x1 x2 x3).bind (fun q9 => if rg ((M 12 4) + 1) then (some ((M 12 4), (up (up (up (up (up M 13 (Int.toNat (M 12 4)) x1) 14 (Int.toNat (M 12 4)) x2) 15 (Int.toNat (M 12 4)) x3) 16 (Int.toNat (M 12 4)) q9) 12 4 ((M 12 4) + 1)))) else none) else none
theorem c41 {L : Nat} {xs : Nat → Int32} {h : mvH} {M : Mm} {x1 x2 x3 : Int} {v : Int} {M' : Mm} (R : rp h M) (rx1 : rg x1) (rx2 : rg x2) (rx3 : rg x3) (hs : f41 M x1 x2 x3 = some (v, M')) : evx L xs 2 41 0 [(0, .inr (.inr (.inl (some 12)))), (1, .inl (iz x1)), (2, .inl (iz x2)), (3, .inl (iz x3))] [] h (.inl (some (.inl v)), 0) M' := by
  unfold f41 at hs
  refine evx_F E41 D41_0 rfl rfl ?_
  refine evx_gfr E41 D41_1 F41_9 H12 rfl R ?_
  refine evx_F E41 D41_4 rfl rfl ?_
  refine evx_gfi (k := 4) E41 D41_5 F41_24 H12 rfl R ?_
  refine evx_F E41 D41_8 rfl rfl ?_
  obtain ⟨k1, hs⟩ := ck hs
  refine evx_ias E41 D41_9 H13 (by decide) R k1 rx1 ?_
  intro h2 R3
  refine evx_F E41 D41_10 rfl rfl ?_
  refine evx_gfr E41 D41_11 F41_15 H12 rfl R3 ?_
  refine evx_F E41 D41_14 rfl rfl ?_
  refine evx_gfi (k := 4) E41 D41_15 F41_24 H12 rfl R3 ?_
  show evx _ _ _ _ _ _ (.inl (iz (M 12 4)) :: _) _ _ _
  refine evx_F E41 D41_18 rfl rfl ?_
  refine evx_ias E41 D41_19 H14 (by decide) R3 k1 rx2 ?_
  intro h4 R5
  refine evx_F E41 D41_20 rfl rfl ?_
  refine evx_gfr E41 D41_21 F41_18 H12 rfl R5 ?_
  refine evx_F E41 D41_24 rfl rfl ?_
  refine evx_gfi (k := 4) E41 D41_25 F41_24 H12 rfl R5 ?_
  show evx _ _ _ _ _ _ (.inl (iz (M 12 4)) :: _) _ _ _
  refine evx_F E41 D41_28 rfl rfl ?_
  refine evx_ias E41 D41_29 H15 (by decide) R5 k1 rx3 ?_
  intro h6 R7
  refine evx_F E41 D41_30 rfl rfl ?_
  refine evx_gfr E41 D41_31 F41_21 H12 rfl R7 ?_
  refine evx_F E41 D41_34 rfl rfl ?_
  refine evx_gfi (k := 4) E41 D41_35 F41_24 H12 rfl R7 ?_
  show evx _ _ _ _ _ _ (.inl (iz (M 12 4)) :: _) _ _ _
  refine evx_F E41 D41_38 rfl rfl ?_
  refine evx_F E41 D41_39 rfl rfl ?_
  refine evx_F E41 D41_40 rfl rfl ?_
  refine evx_F E41 D41_41 rfl rfl ?_
  obtain ⟨q9, e8, hs⟩ := Option.bind_eq_some_iff.mp hs
  refine evx_cv (D := 1) E41 D41_42 I41_28 rfl rfl H12 ⟨Nat.le_of_ble_eq_true rfl, Nat.le_of_ble_eq_true rfl⟩ ⟨rfl, Nat.le_of_ble_eq_true rfl⟩ rfl R7 (evx_up (Nat.le_of_ble_eq_true rfl) (c40 R7 rx1 rx2 rx3 e8)) ?_
  intro h10 R11 w12
  have w12 : rg q9 := w12
  show evx _ _ _ _ _ _ (.inl (iz q9) :: _) _ _ _
  refine evx_ias E41 D41_45 H16 (by decide) R11 k1 w12 ?_
  intro h13 R14
  refine evx_F E41 D41_46 rfl rfl ?_
  refine evx_F E41 D41_47 rfl rfl ?_
  refine evx_gfi (k := 4) E41 D41_48 F41_24 H12 rfl R14 ?_
  show evx _ _ _ _ _ _ (.inl (iz (M 12 4)) :: _) _ _ _
  refine evx_F E41 D41_51 rfl rfl ?_
  refine evx_F E41 D41_52 rfl rfl ?_
  refine evx_add E41 D41_53 ?_
  obtain ⟨k15, hs⟩ := ck hs
  refine evx_pfi (k := 4) E41 D41_54 F41_24 H12 rfl R14 k15 rfl ?_
  intro h16 R17
  cases hs
  exact evx_ret E41 D41_57 rfl (fun d => rfl) rfl (show rg _ from (R14.1 12 4)) R17
set_option maxRecDepth 20000 in
theorem E48 : pgMm 48 = some (⟨"DictionaryHouse$Expressions", "has", "(I)Z"⟩, prog_6_method_2_code, 2, (some .boolean), []) := rfl
theorem D48_0 : pgDecT 48 0 = some (.iload_n 1, 1) := by decide +kernel
theorem D48_1 : pgDecT 48 1 = some (.ifCond .lt 15, 3) := by decide +kernel
theorem D48_16 : pgDecT 48 16 = some (.iconst 0, 1) := by decide +kernel
theorem D48_17 : pgDecT 48 17 = some (.ireturn, 1) := by decide +kernel
theorem D48_4 : pgDecT 48 4 = some (.iload_n 1, 1) := by decide +kernel
theorem D48_5 : pgDecT 48 5 = some (.aload_n 0, 1) := by decide +kernel
theorem D48_6 : pgDecT 48 6 = some (.getfield 24, 3) := by decide +kernel
theorem F48_24 : pgFf 48 24 = some (4, 4, 0) := by decide +kernel
theorem D48_9 : pgDecT 48 9 = some (.if_icmp .ge 7, 3) := by decide +kernel
theorem D48_12 : pgDecT 48 12 = some (.iconst 1, 1) := by decide +kernel
theorem D48_13 : pgDecT 48 13 = some (.goto 4, 3) := by decide +kernel
/-! 48: DictionaryHouse$Expressions.has (I)Z -/
def f48 (M : Mm) (x1 : Int) : Option Int := if x1 < 0 then (some 0) else (if (M 12 4) ≤ x1 then (some 0) else (some 1))
theorem c48 {L : Nat} {xs : Nat → Int32} {h : mvH} {M : Mm} {x1 : Int} {v : Int} (R : rp h M) (rx1 : rg x1) (hs : f48 M x1 = some v) : evx L xs 1 48 0 [(0, .inr (.inr (.inl (some 12)))), (1, .inl (iz x1))] [] h (.inl (some (.inl v)), 0) M := by
  unfold f48 at hs
  refine evx_F E48 D48_0 rfl rfl ?_
  by_cases cb1 : x1 < 0
  · rw [if_pos cb1] at hs
    refine evx_F E48 D48_1 rfl (ifT (c1_lt_T rx1 cb1)) ?_
    refine evx_F E48 D48_16 rfl rfl ?_
    cases hs
    exact evx_ret E48 D48_17 rfl (fun d => rfl) rfl (show rg _ from (by decide)) R
  · rw [if_neg cb1] at hs
    refine evx_F E48 D48_1 rfl (ifF (c1_lt_F rx1 (by omega))) ?_
    refine evx_F E48 D48_4 rfl rfl ?_
    refine evx_F E48 D48_5 rfl rfl ?_
    refine evx_gfi (k := 4) E48 D48_6 F48_24 H12 rfl R ?_
    by_cases cb2 : (M 12 4) ≤ x1
    · rw [if_pos cb2] at hs
      refine evx_F E48 D48_9 rfl (ifT (c2_ge_T rx1 (R.1 12 4) cb2)) ?_
      refine evx_F E48 D48_16 rfl rfl ?_
      cases hs
      exact evx_ret E48 D48_17 rfl (fun d => rfl) rfl (show rg _ from (by decide)) R
    · rw [if_neg cb2] at hs
      refine evx_F E48 D48_9 rfl (ifF (c2_ge_F rx1 (R.1 12 4) (by omega))) ?_
      refine evx_F E48 D48_12 rfl rfl ?_
      refine evx_F E48 D48_13 rfl rfl ?_
      cases hs
      exact evx_ret E48 D48_17 rfl (fun d => rfl) rfl (show rg _ from (by decide)) R
set_option maxRecDepth 20000 in
theorem E53 : pgMm 53 = some (⟨"DictionaryHouse$ClassTable", "hasMethod", "(II)Z"⟩, prog_3_method_4_code, 3, (some .boolean), []) := rfl
theorem D53_0 : pgDecT 53 0 = some (.aload_n 0, 1) := by decide +kernel
theorem D53_1 : pgDecT 53 1 = some (.iload_n 1, 1) := by decide +kernel
theorem D53_2 : pgDecT 53 2 = some (.invokevirtual 41, 3) := by decide +kernel
theorem I53_41 : pgIi 53 41 = some (26, 1, 1) := by decide +kernel
theorem D53_5 : pgDecT 53 5 = some (.ifCond .eq 21, 3) := by decide +kernel
theorem D53_26 : pgDecT 53 26 = some (.iconst 0, 1) := by decide +kernel
theorem D53_27 : pgDecT 53 27 = some (.ireturn, 1) := by decide +kernel
theorem D53_8 : pgDecT 53 8 = some (.iload_n 2, 1) := by decide +kernel
theorem D53_9 : pgDecT 53 9 = some (.ifCond .lt 17, 3) := by decide +kernel
theorem D53_12 : pgDecT 53 12 = some (.iload_n 2, 1) := by decide +kernel
theorem D53_13 : pgDecT 53 13 = some (.aload_n 0, 1) := by decide +kernel
theorem D53_14 : pgDecT 53 14 = some (.getfield 15, 3) := by decide +kernel
theorem F53_15 : pgFf 53 15 = some (1, 1, 3) := by decide +kernel
theorem D53_17 : pgDecT 53 17 = some (.iload_n 1, 1) := by decide +kernel
theorem D53_18 : pgDecT 53 18 = some (.iaload, 1) := by decide +kernel
theorem D53_19 : pgDecT 53 19 = some (.if_icmp .ge 7, 3) := by decide +kernel
theorem D53_22 : pgDecT 53 22 = some (.iconst 1, 1) := by decide +kernel
theorem D53_23 : pgDecT 53 23 = some (.goto 4, 3) := by decide +kernel
/-! 53: DictionaryHouse$ClassTable.hasMethod (II)Z -/
def f53 (M : Mm) (x1 : Int) (x2 : Int) : Option Int := (f26 M x1).bind (fun q2 => if q2 = 0 then (some 0) else (if x2 < 0 then (some 0) else (if 0 ≤ x1 ∧ x1 < 6 then (if (M 7 (Int.toNat x1)) ≤ x2 then (some 0) else (some 1)) else none)))
theorem c53 {L : Nat} {xs : Nat → Int32} {h : mvH} {M : Mm} {x1 x2 : Int} {v : Int} (R : rp h M) (rx1 : rg x1) (rx2 : rg x2) (hs : f53 M x1 x2 = some v) : evx L xs 2 53 0 [(0, .inr (.inr (.inl (some 5)))), (1, .inl (iz x1)), (2, .inl (iz x2))] [] h (.inl (some (.inl v)), 0) M := by
  unfold f53 at hs
  refine evx_F E53 D53_0 rfl rfl ?_
  refine evx_F E53 D53_1 rfl rfl ?_
  obtain ⟨q2, e1, hs⟩ := Option.bind_eq_some_iff.mp hs
  refine evx_cv (D := 1) E53 D53_2 I53_41 rfl rfl H5 ⟨Nat.le_of_ble_eq_true rfl, Nat.le_of_ble_eq_true rfl⟩ ⟨rfl, Nat.le_of_ble_eq_true rfl⟩ rfl R (evx_up (Nat.le_of_ble_eq_true rfl) (c26 R rx1 e1)) ?_
  intro h3 R4 w5
  have w5 : rg q2 := w5
  show evx _ _ _ _ _ _ (.inl (iz q2) :: _) _ _ _
  by_cases cb6 : q2 = 0
  · rw [if_pos cb6] at hs
    refine evx_F E53 D53_5 rfl (ifT (c1_eq_T w5 cb6)) ?_
    refine evx_F E53 D53_26 rfl rfl ?_
    cases hs
    exact evx_ret E53 D53_27 rfl (fun d => rfl) rfl (show rg _ from (by decide)) R4
  · rw [if_neg cb6] at hs
    refine evx_F E53 D53_5 rfl (ifF (c1_eq_F w5 (by omega))) ?_
    refine evx_F E53 D53_8 rfl rfl ?_
    by_cases cb7 : x2 < 0
    · rw [if_pos cb7] at hs
      refine evx_F E53 D53_9 rfl (ifT (c1_lt_T rx2 cb7)) ?_
      refine evx_F E53 D53_26 rfl rfl ?_
      cases hs
      exact evx_ret E53 D53_27 rfl (fun d => rfl) rfl (show rg _ from (by decide)) R4
    · rw [if_neg cb7] at hs
      refine evx_F E53 D53_9 rfl (ifF (c1_lt_F rx2 (by omega))) ?_
      refine evx_F E53 D53_12 rfl rfl ?_
      refine evx_F E53 D53_13 rfl rfl ?_
      refine evx_gfr E53 D53_14 F53_15 H5 rfl R4 ?_
      refine evx_F E53 D53_17 rfl rfl ?_
      obtain ⟨k8, hs⟩ := ck hs
      refine evx_ial E53 D53_18 H7 (by decide) R4 k8 ?_
      by_cases cb9 : (M 7 (Int.toNat x1)) ≤ x2
      · rw [if_pos cb9] at hs
        refine evx_F E53 D53_19 rfl (ifT (c2_ge_T rx2 (R4.1 7 (Int.toNat x1)) cb9)) ?_
        refine evx_F E53 D53_26 rfl rfl ?_
        cases hs
        exact evx_ret E53 D53_27 rfl (fun d => rfl) rfl (show rg _ from (by decide)) R4
      · rw [if_neg cb9] at hs
        refine evx_F E53 D53_19 rfl (ifF (c2_ge_F rx2 (R4.1 7 (Int.toNat x1)) (by omega))) ?_
        refine evx_F E53 D53_22 rfl rfl ?_
        refine evx_F E53 D53_23 rfl rfl ?_
        cases hs
        exact evx_ret E53 D53_27 rfl (fun d => rfl) rfl (show rg _ from (by decide)) R4
set_option maxRecDepth 20000 in
theorem E56 : pgMm 56 = some (⟨"DictionaryHouse$Definitions", "has", "(I)Z"⟩, prog_5_method_3_code, 2, (some .boolean), []) := rfl
theorem D56_0 : pgDecT 56 0 = some (.iload_n 1, 1) := by decide +kernel
theorem D56_1 : pgDecT 56 1 = some (.ifCond .lt 15, 3) := by decide +kernel
theorem D56_16 : pgDecT 56 16 = some (.iconst 0, 1) := by decide +kernel
theorem D56_17 : pgDecT 56 17 = some (.ireturn, 1) := by decide +kernel
theorem D56_4 : pgDecT 56 4 = some (.iload_n 1, 1) := by decide +kernel
theorem D56_5 : pgDecT 56 5 = some (.aload_n 0, 1) := by decide +kernel
theorem D56_6 : pgDecT 56 6 = some (.getfield 24, 3) := by decide +kernel
theorem F56_24 : pgFf 56 24 = some (3, 4, 0) := by decide +kernel
theorem D56_9 : pgDecT 56 9 = some (.if_icmp .ge 7, 3) := by decide +kernel
theorem D56_12 : pgDecT 56 12 = some (.iconst 1, 1) := by decide +kernel
theorem D56_13 : pgDecT 56 13 = some (.goto 4, 3) := by decide +kernel
/-! 56: DictionaryHouse$Definitions.has (I)Z -/
def f56 (M : Mm) (x1 : Int) : Option Int := if x1 < 0 then (some 0) else (if (M 17 4) ≤ x1 then (some 0) else (some 1))
theorem c56 {L : Nat} {xs : Nat → Int32} {h : mvH} {M : Mm} {x1 : Int} {v : Int} (R : rp h M) (rx1 : rg x1) (hs : f56 M x1 = some v) : evx L xs 1 56 0 [(0, .inr (.inr (.inl (some 17)))), (1, .inl (iz x1))] [] h (.inl (some (.inl v)), 0) M := by
  unfold f56 at hs
  refine evx_F E56 D56_0 rfl rfl ?_
  by_cases cb1 : x1 < 0
  · rw [if_pos cb1] at hs
    refine evx_F E56 D56_1 rfl (ifT (c1_lt_T rx1 cb1)) ?_
    refine evx_F E56 D56_16 rfl rfl ?_
    cases hs
    exact evx_ret E56 D56_17 rfl (fun d => rfl) rfl (show rg _ from (by decide)) R
  · rw [if_neg cb1] at hs
    refine evx_F E56 D56_1 rfl (ifF (c1_lt_F rx1 (by omega))) ?_
    refine evx_F E56 D56_4 rfl rfl ?_
    refine evx_F E56 D56_5 rfl rfl ?_
    refine evx_gfi (k := 4) E56 D56_6 F56_24 H17 rfl R ?_
    by_cases cb2 : (M 17 4) ≤ x1
    · rw [if_pos cb2] at hs
      refine evx_F E56 D56_9 rfl (ifT (c2_ge_T rx1 (R.1 17 4) cb2)) ?_
      refine evx_F E56 D56_16 rfl rfl ?_
      cases hs
      exact evx_ret E56 D56_17 rfl (fun d => rfl) rfl (show rg _ from (by decide)) R
    · rw [if_neg cb2] at hs
      refine evx_F E56 D56_9 rfl (ifF (c2_ge_F rx1 (R.1 17 4) (by omega))) ?_
      refine evx_F E56 D56_12 rfl rfl ?_
      refine evx_F E56 D56_13 rfl rfl ?_
      cases hs
      exact evx_ret E56 D56_17 rfl (fun d => rfl) rfl (show rg _ from (by decide)) R
set_option maxRecDepth 20000 in
theorem E60 : pgMm 60 = some (⟨"DictionaryHouse$ClassTable", "reaches", "(II)Z"⟩, prog_3_method_13_code, 5, (some .boolean), []) := rfl
theorem D60_0 : pgDecT 60 0 = some (.iload_n 1, 1) := by decide +kernel
theorem D60_1 : pgDecT 60 1 = some (.istore_n 3, 1) := by decide +kernel
theorem D60_2 : pgDecT 60 2 = some (.iconst 0, 1) := by decide +kernel
theorem D60_3 : pgDecT 60 3 = some (.istore 4, 2) := by decide +kernel
theorem D60_5 : pgDecT 60 5 = some (.iload 4, 2) := by decide +kernel
theorem D60_7 : pgDecT 60 7 = some (.bipush 6, 2) := by decide +kernel
theorem D60_9 : pgDecT 60 9 = some (.if_icmp .ge 26, 3) := by decide +kernel
theorem D60_35 : pgDecT 60 35 = some (.iload_n 3, 1) := by decide +kernel
theorem D60_36 : pgDecT 60 36 = some (.iload_n 2, 1) := by decide +kernel
theorem D60_37 : pgDecT 60 37 = some (.if_icmp .ne 7, 3) := by decide +kernel
theorem D60_44 : pgDecT 60 44 = some (.iconst 0, 1) := by decide +kernel
theorem D60_45 : pgDecT 60 45 = some (.ireturn, 1) := by decide +kernel
theorem D60_40 : pgDecT 60 40 = some (.iconst 1, 1) := by decide +kernel
theorem D60_41 : pgDecT 60 41 = some (.goto 4, 3) := by decide +kernel
theorem D60_12 : pgDecT 60 12 = some (.iload_n 3, 1) := by decide +kernel
theorem D60_13 : pgDecT 60 13 = some (.iconst (-1), 1) := by decide +kernel
theorem D60_14 : pgDecT 60 14 = some (.if_icmp .eq 21, 3) := by decide +kernel
theorem D60_17 : pgDecT 60 17 = some (.iload_n 3, 1) := by decide +kernel
theorem D60_18 : pgDecT 60 18 = some (.iload_n 2, 1) := by decide +kernel
theorem D60_19 : pgDecT 60 19 = some (.if_icmp .eq 16, 3) := by decide +kernel
theorem D60_22 : pgDecT 60 22 = some (.aload_n 0, 1) := by decide +kernel
theorem D60_23 : pgDecT 60 23 = some (.getfield 9, 3) := by decide +kernel
theorem F60_9 : pgFf 60 9 = some (1, 0, 3) := by decide +kernel
theorem D60_26 : pgDecT 60 26 = some (.iload_n 3, 1) := by decide +kernel
theorem D60_27 : pgDecT 60 27 = some (.iaload, 1) := by decide +kernel
theorem D60_28 : pgDecT 60 28 = some (.istore_n 3, 1) := by decide +kernel
theorem D60_29 : pgDecT 60 29 = some (.iinc 4 1, 3) := by decide +kernel
theorem D60_32 : pgDecT 60 32 = some (.goto (-27), 3) := by decide +kernel
/-! 60: DictionaryHouse$ClassTable.reaches (II)Z -/
def l60 : Nat → Nat → Mm → Int → Int → Int → Int → Option Int
  | 0, _, _, _, _, _, _ => none
  | f + 1, 5, M, x1, x2, x3, x4 => if 6 ≤ x4 then (if ¬ x3 = x2 then (some 0) else (some 1)) else (if x3 = (-1) then (if ¬ x3 = x2 then (some 0) else (some 1)) else (if x3 = x2 then (if ¬ x3 = x2 then (some 0) else (some 1)) else (if 0 ≤ x3 ∧ x3 < 6 then (if rg (x4 + 1) then (l60 f 5 M x1 x2 (M 6 (Int.toNat x3)) (x4 + 1)) else none) else none)))
  | _, _, _, _, _, _, _ => none
theorem d60 {L : Nat} {xs : Nat → Int32} (f : Nat) : (∀ (M : Mm) (x1 x2 x3 x4 : Int) (h : mvH) (v : Int) , l60 f 5 M x1 x2 x3 x4 = some v → rp h M → rg x1 → rg x2 → rg x3 → rg x4 → evx L xs 1 60 5 [(0, .inr (.inr (.inl (some 5)))), (1, .inl (iz x1)), (2, .inl (iz x2)), (3, .inl (iz x3)), (4, .inl (iz x4))] [] h (.inl (some (.inl v)), 0) M) := by
  induction f with
  | zero => exact (fun M x1 x2 x3 x4 h v hs _ _ _ _ _ => by cases hs)
  | succ f ih =>
    intro M x1 x2 x3 x4 h v hs R rx1 rx2 rx3 rx4
    rw [l60] at hs
    refine evx_F E60 D60_5 rfl rfl ?_
    refine evx_k (k := 6) E60 D60_7 rfl (by decide) ?_
    by_cases cb1 : 6 ≤ x4
    · rw [if_pos cb1] at hs
      refine evx_F E60 D60_9 rfl (ifT (c2_ge_T rx4 (by decide) cb1)) ?_
      refine evx_F E60 D60_35 rfl rfl ?_
      refine evx_F E60 D60_36 rfl rfl ?_
      by_cases cb2 : ¬ x3 = x2
      · rw [if_pos cb2] at hs
        refine evx_F E60 D60_37 rfl (ifT (c2_ne_T rx3 rx2 cb2)) ?_
        refine evx_F E60 D60_44 rfl rfl ?_
        cases hs
        exact evx_ret E60 D60_45 rfl (fun d => rfl) rfl (show rg _ from (by decide)) R
      · rw [if_neg cb2] at hs
        refine evx_F E60 D60_37 rfl (ifF (c2_ne_F rx3 rx2 (by omega))) ?_
        refine evx_F E60 D60_40 rfl rfl ?_
        refine evx_F E60 D60_41 rfl rfl ?_
        cases hs
        exact evx_ret E60 D60_45 rfl (fun d => rfl) rfl (show rg _ from (by decide)) R
    · rw [if_neg cb1] at hs
      refine evx_F E60 D60_9 rfl (ifF (c2_ge_F rx4 (by decide) (by omega))) ?_
      refine evx_F E60 D60_12 rfl rfl ?_
      refine evx_F E60 D60_13 rfl rfl ?_
      by_cases cb3 : x3 = (-1)
      · rw [if_pos cb3] at hs
        refine evx_F E60 D60_14 rfl (ifT (c2_eq_T rx3 (by decide) cb3)) ?_
        refine evx_F E60 D60_35 rfl rfl ?_
        refine evx_F E60 D60_36 rfl rfl ?_
        by_cases cb4 : ¬ x3 = x2
        · rw [if_pos cb4] at hs
          refine evx_F E60 D60_37 rfl (ifT (c2_ne_T rx3 rx2 cb4)) ?_
          refine evx_F E60 D60_44 rfl rfl ?_
          cases hs
          exact evx_ret E60 D60_45 rfl (fun d => rfl) rfl (show rg _ from (by decide)) R
        · rw [if_neg cb4] at hs
          refine evx_F E60 D60_37 rfl (ifF (c2_ne_F rx3 rx2 (by omega))) ?_
          refine evx_F E60 D60_40 rfl rfl ?_
          refine evx_F E60 D60_41 rfl rfl ?_
          cases hs
          exact evx_ret E60 D60_45 rfl (fun d => rfl) rfl (show rg _ from (by decide)) R
      · rw [if_neg cb3] at hs
        refine evx_F E60 D60_14 rfl (ifF (c2_eq_F rx3 (by decide) (by omega))) ?_
        refine evx_F E60 D60_17 rfl rfl ?_
        refine evx_F E60 D60_18 rfl rfl ?_
        by_cases cb5 : x3 = x2
        · rw [if_pos cb5] at hs
          refine evx_F E60 D60_19 rfl (ifT (c2_eq_T rx3 rx2 cb5)) ?_
          refine evx_F E60 D60_35 rfl rfl ?_
          refine evx_F E60 D60_36 rfl rfl ?_
          by_cases cb6 : ¬ x3 = x2
          · rw [if_pos cb6] at hs
            refine evx_F E60 D60_37 rfl (ifT (c2_ne_T rx3 rx2 cb6)) ?_
            refine evx_F E60 D60_44 rfl rfl ?_
            cases hs
            exact evx_ret E60 D60_45 rfl (fun d => rfl) rfl (show rg _ from (by decide)) R
          · rw [if_neg cb6] at hs
            refine evx_F E60 D60_37 rfl (ifF (c2_ne_F rx3 rx2 (by omega))) ?_
            refine evx_F E60 D60_40 rfl rfl ?_
            refine evx_F E60 D60_41 rfl rfl ?_
            cases hs
            exact evx_ret E60 D60_45 rfl (fun d => rfl) rfl (show rg _ from (by decide)) R
        · rw [if_neg cb5] at hs
          refine evx_F E60 D60_19 rfl (ifF (c2_eq_F rx3 rx2 (by omega))) ?_
          refine evx_F E60 D60_22 rfl rfl ?_
          refine evx_gfr E60 D60_23 F60_9 H5 rfl R ?_
          refine evx_F E60 D60_26 rfl rfl ?_
          obtain ⟨k7, hs⟩ := ck hs
          refine evx_ial E60 D60_27 H6 (by decide) R k7 ?_
          refine evx_F E60 D60_28 rfl rfl ?_
          refine evx_inc E60 D60_29 (Nat.le_of_ble_eq_true rfl) rfl ?_
          refine evx_F E60 D60_32 rfl rfl ?_
          obtain ⟨k8, hs⟩ := ck hs
          show evx _ _ _ _ _ [(4, .inl (iz (x4 + 1))), (3, .inl (iz (M 6 (Int.toNat x3)))), (0, .inr (.inr (.inl (some 5)))), (1, .inl (iz x1)), (2, .inl (iz x2))] _ _ _ _
          exact evx_lv (lvLe_mk (fm rfl (fm rfl (fm rfl (fm rfl (fm rfl fn))))) (fm rfl (fm rfl (fm rfl (fm rfl (fm rfl fn))))) (fm rfl (fm rfl (fm rfl (fm rfl (fm rfl fn)))))) (ih _ _ _ _ _ _ _ hs R rx1 rx2 (R.1 6 (Int.toNat x3)) k8)
def f60 (M : Mm) (x1 : Int) (x2 : Int) : Option Int := l60 FU 5 M x1 x2 x1 0
theorem c60 {L : Nat} {xs : Nat → Int32} {h : mvH} {M : Mm} {x1 x2 : Int} {v : Int} (R : rp h M) (rx1 : rg x1) (rx2 : rg x2) (hs : f60 M x1 x2 = some v) : evx L xs 1 60 0 [(0, .inr (.inr (.inl (some 5)))), (1, .inl (iz x1)), (2, .inl (iz x2))] [] h (.inl (some (.inl v)), 0) M := by
  unfold f60 at hs
  refine evx_F E60 D60_0 rfl rfl ?_
  refine evx_F E60 D60_1 rfl rfl ?_
  refine evx_F E60 D60_2 rfl rfl ?_
  refine evx_F E60 D60_3 rfl rfl ?_
  show evx _ _ _ _ _ [(4, .inl (iz 0)), (3, .inl (iz x1)), (0, .inr (.inr (.inl (some 5)))), (1, .inl (iz x1)), (2, .inl (iz x2))] _ _ _ _
  exact evx_lv (lvLe_mk (fm rfl (fm rfl (fm rfl (fm rfl (fm rfl fn))))) (fm rfl (fm rfl (fm rfl (fm rfl (fm rfl fn))))) (fm rfl (fm rfl (fm rfl (fm rfl (fm rfl fn)))))) ((d60 FU) _ _ _ _ _ _ _ hs R rx1 rx2 rx1 (by decide))
set_option maxRecDepth 20000 in
theorem E61 : pgMm 61 = some (⟨"DictionaryHouse$ClassTable", "addInstance", "(III)V"⟩, prog_3_method_15_code, 4, none, []) := rfl
theorem D61_0 : pgDecT 61 0 = some (.aload_n 0, 1) := by decide +kernel
theorem D61_1 : pgDecT 61 1 = some (.getfield 21, 3) := by decide +kernel
theorem F61_21 : pgFf 61 21 = some (1, 3, 3) := by decide +kernel
theorem D61_4 : pgDecT 61 4 = some (.iload_n 1, 1) := by decide +kernel
theorem D61_5 : pgDecT 61 5 = some (.iconst 3, 1) := by decide +kernel
theorem D61_6 : pgDecT 61 6 = some (.imul, 1) := by decide +kernel
theorem D61_7 : pgDecT 61 7 = some (.iload_n 2, 1) := by decide +kernel
theorem D61_8 : pgDecT 61 8 = some (.iadd, 1) := by decide +kernel
theorem D61_9 : pgDecT 61 9 = some (.iconst 1, 1) := by decide +kernel
theorem D61_10 : pgDecT 61 10 = some (.bastore, 1) := by decide +kernel
theorem D61_11 : pgDecT 61 11 = some (.aload_n 0, 1) := by decide +kernel
theorem D61_12 : pgDecT 61 12 = some (.getfield 25, 3) := by decide +kernel
theorem F61_25 : pgFf 61 25 = some (1, 4, 3) := by decide +kernel
theorem D61_15 : pgDecT 61 15 = some (.iload_n 1, 1) := by decide +kernel
theorem D61_16 : pgDecT 61 16 = some (.iconst 3, 1) := by decide +kernel
theorem D61_17 : pgDecT 61 17 = some (.imul, 1) := by decide +kernel
theorem D61_18 : pgDecT 61 18 = some (.iload_n 2, 1) := by decide +kernel
theorem D61_19 : pgDecT 61 19 = some (.iadd, 1) := by decide +kernel
theorem D61_20 : pgDecT 61 20 = some (.iload_n 3, 1) := by decide +kernel
theorem D61_21 : pgDecT 61 21 = some (.iastore, 1) := by decide +kernel
theorem D61_22 : pgDecT 61 22 = some (.return_, 1) := by decide +kernel
/-! 61: DictionaryHouse$ClassTable.addInstance (III)V -/
def f61 (M : Mm) (x1 : Int) (x2 : Int) (x3 : Int) : Option (Int × Mm) := if 0 ≤ ((x1 * 3) + x2) ∧ ((x1 * 3) + x2) < 18 then (some (0, (up (up M 9 (Int.toNat ((x1 * 3) + x2)) 1) 10 (Int.toNat ((x1 * 3) + x2)) x3))) else none
theorem c61 {L : Nat} {xs : Nat → Int32} {h : mvH} {M : Mm} {x1 x2 x3 : Int} {v : Int} {M' : Mm} (R : rp h M) (rx1 : rg x1) (rx2 : rg x2) (rx3 : rg x3) (hs : f61 M x1 x2 x3 = some (v, M')) : evx L xs 1 61 0 [(0, .inr (.inr (.inl (some 5)))), (1, .inl (iz x1)), (2, .inl (iz x2)), (3, .inl (iz x3))] [] h (.inl none, 0) M' := by
  unfold f61 at hs
  refine evx_F E61 D61_0 rfl rfl ?_
  refine evx_gfr E61 D61_1 F61_21 H5 rfl R ?_
  refine evx_F E61 D61_4 rfl rfl ?_
  refine evx_F E61 D61_5 rfl rfl ?_
  refine evx_mul E61 D61_6 ?_
  refine evx_F E61 D61_7 rfl rfl ?_
  refine evx_add E61 D61_8 ?_
  refine evx_F E61 D61_9 rfl rfl ?_
  obtain ⟨k1, hs⟩ := ck hs
  refine evx_bas E61 D61_10 H9 (by decide) R k1 (by decide) ?_
  intro h2 R3
  refine evx_F E61 D61_11 rfl rfl ?_
  refine evx_gfr E61 D61_12 F61_25 H5 rfl R3 ?_
  refine evx_F E61 D61_15 rfl rfl ?_
  refine evx_F E61 D61_16 rfl rfl ?_
  refine evx_mul E61 D61_17 ?_
  refine evx_F E61 D61_18 rfl rfl ?_
  refine evx_add E61 D61_19 ?_
  refine evx_F E61 D61_20 rfl rfl ?_
  refine evx_ias E61 D61_21 H10 (by decide) R3 k1 rx3 ?_
  intro h4 R5
  cases hs
  exact evx_ret E61 D61_22 rfl (fun d => rfl) rfl trivial R5
set_option maxRecDepth 20000 in
theorem E62 : pgMm 62 = some (⟨"DictionaryHouse$ClassTable", "setBodies", "(IIIII)V"⟩, prog_3_method_16_code, 7, none, []) := rfl
theorem D62_0 : pgDecT 62 0 = some (.iload_n 1, 1) := by decide +kernel
theorem D62_1 : pgDecT 62 1 = some (.iconst 3, 1) := by decide +kernel
theorem D62_2 : pgDecT 62 2 = some (.imul, 1) := by decide +kernel
theorem D62_3 : pgDecT 62 3 = some (.iload_n 2, 1) := by decide +kernel
theorem D62_4 : pgDecT 62 4 = some (.iadd, 1) := by decide +kernel
theorem D62_5 : pgDecT 62 5 = some (.iconst 3, 1) := by decide +kernel
theorem D62_6 : pgDecT 62 6 = some (.imul, 1) := by decide +kernel
theorem D62_7 : pgDecT 62 7 = some (.istore 6, 2) := by decide +kernel
theorem D62_9 : pgDecT 62 9 = some (.aload_n 0, 1) := by decide +kernel
theorem D62_10 : pgDecT 62 10 = some (.getfield 28, 3) := by decide +kernel
theorem F62_28 : pgFf 62 28 = some (1, 5, 3) := by decide +kernel
theorem D62_13 : pgDecT 62 13 = some (.iload 6, 2) := by decide +kernel
theorem D62_15 : pgDecT 62 15 = some (.iload_n 3, 1) := by decide +kernel
theorem D62_16 : pgDecT 62 16 = some (.iastore, 1) := by decide +kernel
theorem D62_17 : pgDecT 62 17 = some (.aload_n 0, 1) := by decide +kernel
theorem D62_18 : pgDecT 62 18 = some (.getfield 28, 3) := by decide +kernel
theorem D62_21 : pgDecT 62 21 = some (.iload 6, 2) := by decide +kernel
theorem D62_23 : pgDecT 62 23 = some (.iconst 1, 1) := by decide +kernel
theorem D62_24 : pgDecT 62 24 = some (.iadd, 1) := by decide +kernel
theorem D62_25 : pgDecT 62 25 = some (.iload 4, 2) := by decide +kernel
theorem D62_27 : pgDecT 62 27 = some (.iastore, 1) := by decide +kernel
theorem D62_28 : pgDecT 62 28 = some (.aload_n 0, 1) := by decide +kernel
theorem D62_29 : pgDecT 62 29 = some (.getfield 28, 3) := by decide +kernel
theorem D62_32 : pgDecT 62 32 = some (.iload 6, 2) := by decide +kernel
theorem D62_34 : pgDecT 62 34 = some (.iconst 2, 1) := by decide +kernel
theorem D62_35 : pgDecT 62 35 = some (.iadd, 1) := by decide +kernel
theorem D62_36 : pgDecT 62 36 = some (.iload 5, 2) := by decide +kernel
theorem D62_38 : pgDecT 62 38 = some (.iastore, 1) := by decide +kernel
theorem D62_39 : pgDecT 62 39 = some (.return_, 1) := by decide +kernel
/-! 62: DictionaryHouse$ClassTable.setBodies (IIIII)V -/
def f62 (M : Mm) (x1 : Int) (x2 : Int) (x3 : Int) (x4 : Int) (x5 : Int) : Option (Int × Mm) := if 0 ≤ (((x1 * 3) + x2) * 3) ∧ (((x1 * 3) + x2) * 3) < 54 then (if 0 ≤ ((((x1 * 3) + x2) * 3) + 1) ∧ ((((x1 * 3) + x2) * 3) + 1) < 54 then (if 0 ≤ ((((x1 * 3) + x2) * 3) + 2) ∧ ((((x1 * 3) + x2) * 3) + 2) < 54 then (some (0, (up (up (up M 11 (Int.toNat (((x1 * 3) + x2) * 3)) x3) 11 (Int.toNat ((((x1 * 3) + x2) * 3) + 1)) x4) 11 (Int.toNat ((((x1 * 3) + x2) * 3) + 2)) x5))) else none) else none) else none
theorem c62 {L : Nat} {xs : Nat → Int32} {h : mvH} {M : Mm} {x1 x2 x3 x4 x5 : Int} {v : Int} {M' : Mm} (R : rp h M) (rx1 : rg x1) (rx2 : rg x2) (rx3 : rg x3) (rx4 : rg x4) (rx5 : rg x5) (hs : f62 M x1 x2 x3 x4 x5 = some (v, M')) : evx L xs 1 62 0 [(0, .inr (.inr (.inl (some 5)))), (1, .inl (iz x1)), (2, .inl (iz x2)), (3, .inl (iz x3)), (4, .inl (iz x4)), (5, .inl (iz x5))] [] h (.inl none, 0) M' := by
  unfold f62 at hs
  refine evx_F E62 D62_0 rfl rfl ?_
  refine evx_F E62 D62_1 rfl rfl ?_
  refine evx_mul E62 D62_2 ?_
  refine evx_F E62 D62_3 rfl rfl ?_
  refine evx_add E62 D62_4 ?_
  refine evx_F E62 D62_5 rfl rfl ?_
  refine evx_mul E62 D62_6 ?_
  refine evx_F E62 D62_7 rfl rfl ?_
  refine evx_F E62 D62_9 rfl rfl ?_
  refine evx_gfr E62 D62_10 F62_28 H5 rfl R ?_
  refine evx_F E62 D62_13 rfl rfl ?_
  refine evx_F E62 D62_15 rfl rfl ?_
  obtain ⟨k1, hs⟩ := ck hs
  refine evx_ias E62 D62_16 H11 (by decide) R k1 rx3 ?_
  intro h2 R3
  refine evx_F E62 D62_17 rfl rfl ?_
  refine evx_gfr E62 D62_18 F62_28 H5 rfl R3 ?_
  refine evx_F E62 D62_21 rfl rfl ?_
  refine evx_F E62 D62_23 rfl rfl ?_
  refine evx_add E62 D62_24 ?_
  refine evx_F E62 D62_25 rfl rfl ?_
  obtain ⟨k4, hs⟩ := ck hs
  refine evx_ias E62 D62_27 H11 (by decide) R3 k4 rx4 ?_
  intro h5 R6
  refine evx_F E62 D62_28 rfl rfl ?_
  refine evx_gfr E62 D62_29 F62_28 H5 rfl R6 ?_
  refine evx_F E62 D62_32 rfl rfl ?_
  refine evx_F E62 D62_34 rfl rfl ?_
  refine evx_add E62 D62_35 ?_
  refine evx_F E62 D62_36 rfl rfl ?_
  obtain ⟨k7, hs⟩ := ck hs
  refine evx_ias E62 D62_38 H11 (by decide) R6 k7 rx5 ?_
  intro h8 R9
  cases hs
  exact evx_ret E62 D62_39 rfl (fun d => rfl) rfl trivial R9
set_option maxRecDepth 20000 in
theorem E64 : pgMm 64 = some (⟨"DictionaryHouse$ClassTable", "body", "(III)I"⟩, prog_3_method_12_code, 4, (some .int), []) := rfl
theorem D64_0 : pgDecT 64 0 = some (.aload_n 0, 1) := by decide +kernel
theorem D64_1 : pgDecT 64 1 = some (.getfield 28, 3) := by decide +kernel
theorem F64_28 : pgFf 64 28 = some (1, 5, 3) := by decide +kernel
theorem D64_4 : pgDecT 64 4 = some (.iload_n 1, 1) := by decide +kernel
theorem D64_5 : pgDecT 64 5 = some (.iconst 3, 1) := by decide +kernel
theorem D64_6 : pgDecT 64 6 = some (.imul, 1) := by decide +kernel
theorem D64_7 : pgDecT 64 7 = some (.iload_n 2, 1) := by decide +kernel
theorem D64_8 : pgDecT 64 8 = some (.iadd, 1) := by decide +kernel
theorem D64_9 : pgDecT 64 9 = some (.iconst 3, 1) := by decide +kernel
theorem D64_10 : pgDecT 64 10 = some (.imul, 1) := by decide +kernel
theorem D64_11 : pgDecT 64 11 = some (.iload_n 3, 1) := by decide +kernel
theorem D64_12 : pgDecT 64 12 = some (.iadd, 1) := by decide +kernel
theorem D64_13 : pgDecT 64 13 = some (.iaload, 1) := by decide +kernel
theorem D64_14 : pgDecT 64 14 = some (.ireturn, 1) := by decide +kernel
/-! 64: DictionaryHouse$ClassTable.body (III)I -/
def f64 (M : Mm) (x1 : Int) (x2 : Int) (x3 : Int) : Option Int := if 0 ≤ ((((x1 * 3) + x2) * 3) + x3) ∧ ((((x1 * 3) + x2) * 3) + x3) < 54 then (some (M 11 (Int.toNat ((((x1 * 3) + x2) * 3) + x3)))) else none
theorem c64 {L : Nat} {xs : Nat → Int32} {h : mvH} {M : Mm} {x1 x2 x3 : Int} {v : Int} (R : rp h M) (rx1 : rg x1) (rx2 : rg x2) (rx3 : rg x3) (hs : f64 M x1 x2 x3 = some v) : evx L xs 1 64 0 [(0, .inr (.inr (.inl (some 5)))), (1, .inl (iz x1)), (2, .inl (iz x2)), (3, .inl (iz x3))] [] h (.inl (some (.inl v)), 0) M := by
  unfold f64 at hs
  refine evx_F E64 D64_0 rfl rfl ?_
  refine evx_gfr E64 D64_1 F64_28 H5 rfl R ?_
  refine evx_F E64 D64_4 rfl rfl ?_
  refine evx_F E64 D64_5 rfl rfl ?_
  refine evx_mul E64 D64_6 ?_
  refine evx_F E64 D64_7 rfl rfl ?_
  refine evx_add E64 D64_8 ?_
  refine evx_F E64 D64_9 rfl rfl ?_
  refine evx_mul E64 D64_10 ?_
  refine evx_F E64 D64_11 rfl rfl ?_
  refine evx_add E64 D64_12 ?_
  obtain ⟨k1, hs⟩ := ck hs
  refine evx_ial E64 D64_13 H11 (by decide) R k1 ?_
  cases hs
  exact evx_ret E64 D64_14 rfl (fun d => rfl) rfl (show rg _ from (R.1 11 (Int.toNat ((((x1 * 3) + x2) * 3) + x3)))) R
set_option maxRecDepth 20000 in
theorem E67 : pgMm 67 = some (⟨"DictionaryHouse$Expressions", "places", "(I)I"⟩, prog_6_method_6_code, 2, (some .int), []) := rfl
theorem D67_0 : pgDecT 67 0 = some (.aload_n 0, 1) := by decide +kernel
theorem D67_1 : pgDecT 67 1 = some (.getfield 21, 3) := by decide +kernel
theorem F67_21 : pgFf 67 21 = some (4, 3, 3) := by decide +kernel
theorem D67_4 : pgDecT 67 4 = some (.iload_n 1, 1) := by decide +kernel
theorem D67_5 : pgDecT 67 5 = some (.iaload, 1) := by decide +kernel
theorem D67_6 : pgDecT 67 6 = some (.ireturn, 1) := by decide +kernel
/-! 67: DictionaryHouse$Expressions.places (I)I -/
def f67 (M : Mm) (x1 : Int) : Option Int := if 0 ≤ x1 ∧ x1 < 200 then (some (M 16 (Int.toNat x1))) else none
theorem c67 {L : Nat} {xs : Nat → Int32} {h : mvH} {M : Mm} {x1 : Int} {v : Int} (R : rp h M) (rx1 : rg x1) (hs : f67 M x1 = some v) : evx L xs 1 67 0 [(0, .inr (.inr (.inl (some 12)))), (1, .inl (iz x1))] [] h (.inl (some (.inl v)), 0) M := by
  unfold f67 at hs
  refine evx_F E67 D67_0 rfl rfl ?_
  refine evx_gfr E67 D67_1 F67_21 H12 rfl R ?_
  refine evx_F E67 D67_4 rfl rfl ?_
  obtain ⟨k1, hs⟩ := ck hs
  refine evx_ial E67 D67_5 H16 (by decide) R k1 ?_
  cases hs
  exact evx_ret E67 D67_6 rfl (fun d => rfl) rfl (show rg _ from (R.1 16 (Int.toNat x1))) R
set_option maxRecDepth 20000 in
theorem E68 : pgMm 68 = some (⟨"DictionaryHouse$Typing", "lay", "(III)V"⟩, prog_12_method_12_code, 4, none, []) := rfl
theorem D68_0 : pgDecT 68 0 = some (.aload_n 0, 1) := by decide +kernel
theorem D68_1 : pgDecT 68 1 = some (.getfield 18, 3) := by decide +kernel
theorem F68_18 : pgFf 68 18 = some (10, 5, 3) := by decide +kernel
theorem D68_4 : pgDecT 68 4 = some (.iload_n 1, 1) := by decide +kernel
theorem D68_5 : pgDecT 68 5 = some (.iload_n 2, 1) := by decide +kernel
theorem D68_6 : pgDecT 68 6 = some (.iastore, 1) := by decide +kernel
theorem D68_7 : pgDecT 68 7 = some (.aload_n 0, 1) := by decide +kernel
theorem D68_8 : pgDecT 68 8 = some (.getfield 22, 3) := by decide +kernel
theorem F68_22 : pgFf 68 22 = some (10, 6, 3) := by decide +kernel
theorem D68_11 : pgDecT 68 11 = some (.iload_n 1, 1) := by decide +kernel
theorem D68_12 : pgDecT 68 12 = some (.iload_n 3, 1) := by decide +kernel
theorem D68_13 : pgDecT 68 13 = some (.iastore, 1) := by decide +kernel
theorem D68_14 : pgDecT 68 14 = some (.return_, 1) := by decide +kernel
/-! 68: DictionaryHouse$Typing.lay (III)V -/
def f68 (M : Mm) (x1 : Int) (x2 : Int) (x3 : Int) : Option (Int × Mm) := if 0 ≤ x1 ∧ x1 < 60 then (some (0, (up (up M 34 (Int.toNat x1) x2) 35 (Int.toNat x1) x3))) else none
theorem c68 {L : Nat} {xs : Nat → Int32} {h : mvH} {M : Mm} {x1 x2 x3 : Int} {v : Int} {M' : Mm} (R : rp h M) (rx1 : rg x1) (rx2 : rg x2) (rx3 : rg x3) (hs : f68 M x1 x2 x3 = some (v, M')) : evx L xs 1 68 0 [(0, .inr (.inr (.inl (some 24)))), (1, .inl (iz x1)), (2, .inl (iz x2)), (3, .inl (iz x3))] [] h (.inl none, 0) M' := by
  unfold f68 at hs
  refine evx_F E68 D68_0 rfl rfl ?_
  refine evx_gfr E68 D68_1 F68_18 H24 rfl R ?_
  refine evx_F E68 D68_4 rfl rfl ?_
  refine evx_F E68 D68_5 rfl rfl ?_
  obtain ⟨k1, hs⟩ := ck hs
  refine evx_ias E68 D68_6 H34 (by decide) R k1 rx2 ?_
  intro h2 R3
  refine evx_F E68 D68_7 rfl rfl ?_
  refine evx_gfr E68 D68_8 F68_22 H24 rfl R3 ?_
  refine evx_F E68 D68_11 rfl rfl ?_
  refine evx_F E68 D68_12 rfl rfl ?_
  refine evx_ias E68 D68_13 H35 (by decide) R3 k1 rx3 ?_
  intro h4 R5
  cases hs
  exact evx_ret E68 D68_14 rfl (fun d => rfl) rfl trivial R5
set_option maxRecDepth 20000 in
theorem E69 : pgMm 69 = some (⟨"DictionaryHouse$Expressions", "kind", "(I)I"⟩, prog_6_method_3_code, 2, (some .int), []) := rfl
theorem D69_0 : pgDecT 69 0 = some (.aload_n 0, 1) := by decide +kernel
theorem D69_1 : pgDecT 69 1 = some (.getfield 9, 3) := by decide +kernel
theorem F69_9 : pgFf 69 9 = some (4, 0, 3) := by decide +kernel
theorem D69_4 : pgDecT 69 4 = some (.iload_n 1, 1) := by decide +kernel
theorem D69_5 : pgDecT 69 5 = some (.iaload, 1) := by decide +kernel
theorem D69_6 : pgDecT 69 6 = some (.ireturn, 1) := by decide +kernel
/-! 69: DictionaryHouse$Expressions.kind (I)I -/
def f69 (M : Mm) (x1 : Int) : Option Int := if 0 ≤ x1 ∧ x1 < 200 then (some (M 13 (Int.toNat x1))) else none
theorem c69 {L : Nat} {xs : Nat → Int32} {h : mvH} {M : Mm} {x1 : Int} {v : Int} (R : rp h M) (rx1 : rg x1) (hs : f69 M x1 = some v) : evx L xs 1 69 0 [(0, .inr (.inr (.inl (some 12)))), (1, .inl (iz x1))] [] h (.inl (some (.inl v)), 0) M := by
  unfold f69 at hs
  refine evx_F E69 D69_0 rfl rfl ?_
  refine evx_gfr E69 D69_1 F69_9 H12 rfl R ?_
  refine evx_F E69 D69_4 rfl rfl ?_
  obtain ⟨k1, hs⟩ := ck hs
  refine evx_ial E69 D69_5 H13 (by decide) R k1 ?_
  cases hs
  exact evx_ret E69 D69_6 rfl (fun d => rfl) rfl (show rg _ from (R.1 13 (Int.toNat x1))) R
set_option maxRecDepth 20000 in
theorem E70 : pgMm 70 = some (⟨"DictionaryHouse$Expressions", "first", "(I)I"⟩, prog_6_method_4_code, 2, (some .int), []) := rfl
theorem D70_0 : pgDecT 70 0 = some (.aload_n 0, 1) := by decide +kernel
theorem D70_1 : pgDecT 70 1 = some (.getfield 15, 3) := by decide +kernel
theorem F70_15 : pgFf 70 15 = some (4, 1, 3) := by decide +kernel
theorem D70_4 : pgDecT 70 4 = some (.iload_n 1, 1) := by decide +kernel
theorem D70_5 : pgDecT 70 5 = some (.iaload, 1) := by decide +kernel
theorem D70_6 : pgDecT 70 6 = some (.ireturn, 1) := by decide +kernel
/-! 70: DictionaryHouse$Expressions.first (I)I -/
def f70 (M : Mm) (x1 : Int) : Option Int := if 0 ≤ x1 ∧ x1 < 200 then (some (M 14 (Int.toNat x1))) else none
theorem c70 {L : Nat} {xs : Nat → Int32} {h : mvH} {M : Mm} {x1 : Int} {v : Int} (R : rp h M) (rx1 : rg x1) (hs : f70 M x1 = some v) : evx L xs 1 70 0 [(0, .inr (.inr (.inl (some 12)))), (1, .inl (iz x1))] [] h (.inl (some (.inl v)), 0) M := by
  unfold f70 at hs
  refine evx_F E70 D70_0 rfl rfl ?_
  refine evx_gfr E70 D70_1 F70_15 H12 rfl R ?_
  refine evx_F E70 D70_4 rfl rfl ?_
  obtain ⟨k1, hs⟩ := ck hs
  refine evx_ial E70 D70_5 H14 (by decide) R k1 ?_
  cases hs
  exact evx_ret E70 D70_6 rfl (fun d => rfl) rfl (show rg _ from (R.1 14 (Int.toNat x1))) R
set_option maxRecDepth 20000 in
theorem E71 : pgMm 71 = some (⟨"DictionaryHouse$Typing", "placeOfOther", "(I)I"⟩, prog_12_method_13_code, 2, (some .int), []) := rfl
theorem D71_0 : pgDecT 71 0 = some (.iload_n 1, 1) := by decide +kernel
theorem D71_1 : pgDecT 71 1 = some (.iconst 1, 1) := by decide +kernel
theorem D71_2 : pgDecT 71 2 = some (.iadd, 1) := by decide +kernel
theorem D71_3 : pgDecT 71 3 = some (.aload_n 0, 1) := by decide +kernel
theorem D71_4 : pgDecT 71 4 = some (.getfield 52, 3) := by decide +kernel
theorem F71_52 : pgFf 71 52 = some (10, 2, 3) := by decide +kernel
theorem D71_7 : pgDecT 71 7 = some (.aload_n 0, 1) := by decide +kernel
theorem D71_8 : pgDecT 71 8 = some (.getfield 52, 3) := by decide +kernel
theorem D71_11 : pgDecT 71 11 = some (.aload_n 0, 1) := by decide +kernel
theorem D71_12 : pgDecT 71 12 = some (.getfield 18, 3) := by decide +kernel
theorem F71_18 : pgFf 71 18 = some (10, 5, 3) := by decide +kernel
theorem D71_15 : pgDecT 71 15 = some (.iload_n 1, 1) := by decide +kernel
theorem D71_16 : pgDecT 71 16 = some (.iaload, 1) := by decide +kernel
theorem D71_17 : pgDecT 71 17 = some (.invokevirtual 70, 3) := by decide +kernel
theorem I71_70 : pgIi 71 70 = some (70, 1, 4) := by decide +kernel
theorem D71_20 : pgDecT 71 20 = some (.invokevirtual 100, 3) := by decide +kernel
theorem I71_100 : pgIi 71 100 = some (67, 1, 4) := by decide +kernel
theorem D71_23 : pgDecT 71 23 = some (.iadd, 1) := by decide +kernel
theorem D71_24 : pgDecT 71 24 = some (.ireturn, 1) := by decide +kernel
/-! 71: DictionaryHouse$Typing.placeOfOther (I)I -/
def f71 (M : Mm) (x1 : Int) : Option Int := if 0 ≤ x1 ∧ x1 < 60 then (f70 M (M 34 (Int.toNat x1))).bind (fun q3 => (f67 M q3).bind (fun q8 => if rg ((x1 + 1) + q8) then (some ((x1 + 1) + q8)) else none)) else none
theorem c71 {L : Nat} {xs : Nat → Int32} {h : mvH} {M : Mm} {x1 : Int} {v : Int} (R : rp h M) (rx1 : rg x1) (hs : f71 M x1 = some v) : evx L xs 2 71 0 [(0, .inr (.inr (.inl (some 24)))), (1, .inl (iz x1))] [] h (.inl (some (.inl v)), 0) M := by
  unfold f71 at hs
  refine evx_F E71 D71_0 rfl rfl ?_
  refine evx_F E71 D71_1 rfl rfl ?_
  refine evx_add E71 D71_2 ?_
  refine evx_F E71 D71_3 rfl rfl ?_
  refine evx_gfr E71 D71_4 F71_52 H24 rfl R ?_
  refine evx_F E71 D71_7 rfl rfl ?_
  refine evx_gfr E71 D71_8 F71_52 H24 rfl R ?_
  refine evx_F E71 D71_11 rfl rfl ?_
  refine evx_gfr E71 D71_12 F71_18 H24 rfl R ?_
  refine evx_F E71 D71_15 rfl rfl ?_
  obtain ⟨k1, hs⟩ := ck hs
  refine evx_ial E71 D71_16 H34 (by decide) R k1 ?_
  obtain ⟨q3, e2, hs⟩ := Option.bind_eq_some_iff.mp hs
  refine evx_cv (D := 1) E71 D71_17 I71_70 rfl rfl H12 ⟨Nat.le_of_ble_eq_true rfl, Nat.le_of_ble_eq_true rfl⟩ ⟨rfl, Nat.le_of_ble_eq_true rfl⟩ rfl R (evx_up (Nat.le_of_ble_eq_true rfl) (c70 R (R.1 34 (Int.toNat x1)) e2)) ?_
  intro h4 R5 w6
  have w6 : rg q3 := w6
  show evx _ _ _ _ _ _ (.inl (iz q3) :: _) _ _ _
  obtain ⟨q8, e7, hs⟩ := Option.bind_eq_some_iff.mp hs
  refine evx_cv (D := 1) E71 D71_20 I71_100 rfl rfl H12 ⟨Nat.le_of_ble_eq_true rfl, Nat.le_of_ble_eq_true rfl⟩ ⟨rfl, Nat.le_of_ble_eq_true rfl⟩ rfl R5 (evx_up (Nat.le_of_ble_eq_true rfl) (c67 R5 w6 e7)) ?_
  intro h9 R10 w11
  have w11 : rg q8 := w11
  show evx _ _ _ _ _ _ (.inl (iz q8) :: _) _ _ _
  refine evx_add E71 D71_23 ?_
  obtain ⟨k12, hs⟩ := ck hs
  cases hs
  exact evx_ret E71 D71_24 rfl (fun d => rfl) rfl (show rg _ from k12) R10
set_option maxRecDepth 20000 in
theorem E72 : pgMm 72 = some (⟨"DictionaryHouse$Expressions", "second", "(I)I"⟩, prog_6_method_5_code, 2, (some .int), []) := rfl
theorem D72_0 : pgDecT 72 0 = some (.aload_n 0, 1) := by decide +kernel
theorem D72_1 : pgDecT 72 1 = some (.getfield 18, 3) := by decide +kernel
theorem F72_18 : pgFf 72 18 = some (4, 2, 3) := by decide +kernel
theorem D72_4 : pgDecT 72 4 = some (.iload_n 1, 1) := by decide +kernel
theorem D72_5 : pgDecT 72 5 = some (.iaload, 1) := by decide +kernel
theorem D72_6 : pgDecT 72 6 = some (.ireturn, 1) := by decide +kernel
/-! 72: DictionaryHouse$Expressions.second (I)I -/
def f72 (M : Mm) (x1 : Int) : Option Int := if 0 ≤ x1 ∧ x1 < 200 then (some (M 15 (Int.toNat x1))) else none
theorem c72 {L : Nat} {xs : Nat → Int32} {h : mvH} {M : Mm} {x1 : Int} {v : Int} (R : rp h M) (rx1 : rg x1) (hs : f72 M x1 = some v) : evx L xs 1 72 0 [(0, .inr (.inr (.inl (some 12)))), (1, .inl (iz x1))] [] h (.inl (some (.inl v)), 0) M := by
  unfold f72 at hs
  refine evx_F E72 D72_0 rfl rfl ?_
  refine evx_gfr E72 D72_1 F72_18 H12 rfl R ?_
  refine evx_F E72 D72_4 rfl rfl ?_
  obtain ⟨k1, hs⟩ := ck hs
  refine evx_ial E72 D72_5 H15 (by decide) R k1 ?_
  cases hs
  exact evx_ret E72 D72_6 rfl (fun d => rfl) rfl (show rg _ from (R.1 15 (Int.toNat x1))) R
set_option maxRecDepth 20000 in
theorem E74 : pgMm 74 = some (⟨"DictionaryHouse$Graph", "add", "(III)I"⟩, prog_7_method_4_code, 4, (some .int), []) := rfl
theorem D74_0 : pgDecT 74 0 = some (.aload_n 0, 1) := by decide +kernel
theorem D74_1 : pgDecT 74 1 = some (.getfield 11, 3) := by decide +kernel
theorem F74_11 : pgFf 74 11 = some (5, 0, 3) := by decide +kernel
theorem D74_4 : pgDecT 74 4 = some (.aload_n 0, 1) := by decide +kernel
theorem D74_5 : pgDecT 74 5 = some (.getfield 36, 3) := by decide +kernel
theorem F74_36 : pgFf 74 36 = some (5, 8, 0) := by decide +kernel
theorem D74_8 : pgDecT 74 8 = some (.iload_n 1, 1) := by decide +kernel
theorem D74_9 : pgDecT 74 9 = some (.iastore, 1) := by decide +kernel
theorem D74_10 : pgDecT 74 10 = some (.aload_n 0, 1) := by decide +kernel
theorem D74_11 : pgDecT 74 11 = some (.getfield 15, 3) := by decide +kernel
theorem F74_15 : pgFf 74 15 = some (5, 1, 3) := by decide +kernel
theorem D74_14 : pgDecT 74 14 = some (.aload_n 0, 1) := by decide +kernel
theorem D74_15 : pgDecT 74 15 = some (.getfield 36, 3) := by decide +kernel
theorem D74_18 : pgDecT 74 18 = some (.iload_n 2, 1) := by decide +kernel
theorem D74_19 : pgDecT 74 19 = some (.iastore, 1) := by decide +kernel
theorem D74_20 : pgDecT 74 20 = some (.aload_n 0, 1) := by decide +kernel
theorem D74_21 : pgDecT 74 21 = some (.getfield 18, 3) := by decide +kernel
theorem F74_18 : pgFf 74 18 = some (5, 2, 3) := by decide +kernel
theorem D74_24 : pgDecT 74 24 = some (.aload_n 0, 1) := by decide +kernel
theorem D74_25 : pgDecT 74 25 = some (.getfield 36, 3) := by decide +kernel
theorem D74_28 : pgDecT 74 28 = some (.iload_n 3, 1) := by decide +kernel
theorem D74_29 : pgDecT 74 29 = some (.iastore, 1) := by decide +kernel
theorem D74_30 : pgDecT 74 30 = some (.aload_n 0, 1) := by decide +kernel
theorem D74_31 : pgDecT 74 31 = some (.getfield 21, 3) := by decide +kernel
theorem F74_21 : pgFf 74 21 = some (5, 3, 3) := by decide +kernel
theorem D74_34 : pgDecT 74 34 = some (.aload_n 0, 1) := by decide +kernel
theorem D74_35 : pgDecT 74 35 = some (.getfield 36, 3) := by decide +kernel
theorem D74_38 : pgDecT 74 38 = some (.aload_n 0, 1) := by decide +kernel
theorem D74_39 : pgDecT 74 39 = some (.getfield 36, 3) := by decide +kernel
theorem D74_42 : pgDecT 74 42 = some (.iastore, 1) := by decide +kernel
theorem D74_43 : pgDecT 74 43 = some (.aload_n 0, 1) := by decide +kernel
theorem D74_44 : pgDecT 74 44 = some (.dup, 1) := by decide +kernel
theorem D74_45 : pgDecT 74 45 = some (.getfield 36, 3) := by decide +kernel
theorem D74_48 : pgDecT 74 48 = some (.dup_x1, 1) := by decide +kernel
theorem D74_49 : pgDecT 74 49 = some (.iconst 1, 1) := by decide +kernel
theorem D74_50 : pgDecT 74 50 = some (.iadd, 1) := by decide +kernel
theorem D74_51 : pgDecT 74 51 = some (.putfield 36, 3) := by decide +kernel
theorem D74_54 : pgDecT 74 54 = some (.ireturn, 1) := by decide +kernel
/-! 74: DictionaryHouse$Graph.add (III)I -/
def f74 (M : Mm) (x1 : Int) (x2 : Int) (x3 : Int) : Option (Int × Mm) := if 0 ≤ (M 25 8) ∧ (M 25 8) < 2504 then (if rg ((M 25 8) + 1) then (some ((M 25 8), (up (up (up (up (up M 26 (Int.toNat (M 25 8)) x1) 27 (Int.toNat (M 25 8)) x2) 28 (Int.toNat (M 25 8)) x3) 29 (Int.toNat (M 25 8)) (M 25 8)) 25 8 ((M 25 8) + 1)))) else none) else none
theorem c74 {L : Nat} {xs : Nat → Int32} {h : mvH} {M : Mm} {x1 x2 x3 : Int} {v : Int} {M' : Mm} (R : rp h M) (rx1 : rg x1) (rx2 : rg x2) (rx3 : rg x3) (hs : f74 M x1 x2 x3 = some (v, M')) : evx L xs 1 74 0 [(0, .inr (.inr (.inl (some 25)))), (1, .inl (iz x1)), (2, .inl (iz x2)), (3, .inl (iz x3))] [] h (.inl (some (.inl v)), 0) M' := by
  unfold f74 at hs
  refine evx_F E74 D74_0 rfl rfl ?_
  refine evx_gfr E74 D74_1 F74_11 H25 rfl R ?_
  refine evx_F E74 D74_4 rfl rfl ?_
  refine evx_gfi (k := 8) E74 D74_5 F74_36 H25 rfl R ?_
  refine evx_F E74 D74_8 rfl rfl ?_
  obtain ⟨k1, hs⟩ := ck hs
  refine evx_ias E74 D74_9 H26 (by decide) R k1 rx1 ?_
  intro h2 R3
  refine evx_F E74 D74_10 rfl rfl ?_
  refine evx_gfr E74 D74_11 F74_15 H25 rfl R3 ?_
  refine evx_F E74 D74_14 rfl rfl ?_
  refine evx_gfi (k := 8) E74 D74_15 F74_36 H25 rfl R3 ?_
  show evx _ _ _ _ _ _ (.inl (iz (M 25 8)) :: _) _ _ _
  refine evx_F E74 D74_18 rfl rfl ?_
  refine evx_ias E74 D74_19 H27 (by decide) R3 k1 rx2 ?_
  intro h4 R5
  refine evx_F E74 D74_20 rfl rfl ?_
  refine evx_gfr E74 D74_21 F74_18 H25 rfl R5 ?_
  refine evx_F E74 D74_24 rfl rfl ?_
  refine evx_gfi (k := 8) E74 D74_25 F74_36 H25 rfl R5 ?_
  show evx _ _ _ _ _ _ (.inl (iz (M 25 8)) :: _) _ _ _
  refine evx_F E74 D74_28 rfl rfl ?_
  refine evx_ias E74 D74_29 H28 (by decide) R5 k1 rx3 ?_
  intro h6 R7
  refine evx_F E74 D74_30 rfl rfl ?_
  refine evx_gfr E74 D74_31 F74_21 H25 rfl R7 ?_
  refine evx_F E74 D74_34 rfl rfl ?_
  refine evx_gfi (k := 8) E74 D74_35 F74_36 H25 rfl R7 ?_
  show evx _ _ _ _ _ _ (.inl (iz (M 25 8)) :: _) _ _ _
  refine evx_F E74 D74_38 rfl rfl ?_
  refine evx_gfi (k := 8) E74 D74_39 F74_36 H25 rfl R7 ?_
  show evx _ _ _ _ _ _ (.inl (iz (M 25 8)) :: _) _ _ _
  refine evx_ias E74 D74_42 H29 (by decide) R7 k1 (R7.1 25 8) ?_
  intro h8 R9
  refine evx_F E74 D74_43 rfl rfl ?_
  refine evx_F E74 D74_44 rfl rfl ?_
  refine evx_gfi (k := 8) E74 D74_45 F74_36 H25 rfl R9 ?_
  show evx _ _ _ _ _ _ (.inl (iz (M 25 8)) :: _) _ _ _
  refine evx_F E74 D74_48 rfl rfl ?_
  refine evx_F E74 D74_49 rfl rfl ?_
  refine evx_add E74 D74_50 ?_
  obtain ⟨k10, hs⟩ := ck hs
  refine evx_pfi (k := 8) E74 D74_51 F74_36 H25 rfl R9 k10 rfl ?_
  intro h11 R12
  cases hs
  exact evx_ret E74 D74_54 rfl (fun d => rfl) rfl (show rg _ from (R9.1 25 8)) R12
set_option maxRecDepth 20000 in
theorem E75 : pgMm 75 = some (⟨"DictionaryHouse$Graph", "hasRoomForType", "()Z"⟩, prog_7_method_3_code, 1, (some .boolean), []) := rfl
theorem D75_0 : pgDecT 75 0 = some (.aload_n 0, 1) := by decide +kernel
theorem D75_1 : pgDecT 75 1 = some (.getfield 36, 3) := by decide +kernel
theorem F75_36 : pgFf 75 36 = some (5, 8, 0) := by decide +kernel
theorem D75_4 : pgDecT 75 4 = some (.bipush 40, 2) := by decide +kernel
theorem D75_6 : pgDecT 75 6 = some (.iadd, 1) := by decide +kernel
theorem D75_7 : pgDecT 75 7 = some (.iconst 2, 1) := by decide +kernel
theorem D75_8 : pgDecT 75 8 = some (.iadd, 1) := by decide +kernel
theorem D75_9 : pgDecT 75 9 = some (.sipush 2504, 3) := by decide +kernel
theorem D75_12 : pgDecT 75 12 = some (.if_icmp .gt 7, 3) := by decide +kernel
theorem D75_19 : pgDecT 75 19 = some (.iconst 0, 1) := by decide +kernel
theorem D75_20 : pgDecT 75 20 = some (.ireturn, 1) := by decide +kernel
theorem D75_15 : pgDecT 75 15 = some (.iconst 1, 1) := by decide +kernel
theorem D75_16 : pgDecT 75 16 = some (.goto 4, 3) := by decide +kernel
/-! 75: DictionaryHouse$Graph.hasRoomForType ()Z -/
def f75 (M : Mm) : Option Int := if rg (((M 25 8) + 40) + 2) then (if 2504 < (((M 25 8) + 40) + 2) then (some 0) else (some 1)) else none
theorem c75 {L : Nat} {xs : Nat → Int32} {h : mvH} {M : Mm} {v : Int} (R : rp h M)  (hs : f75 M  = some v) : evx L xs 1 75 0 [(0, .inr (.inr (.inl (some 25))))] [] h (.inl (some (.inl v)), 0) M := by
  unfold f75 at hs
  refine evx_F E75 D75_0 rfl rfl ?_
  refine evx_gfi (k := 8) E75 D75_1 F75_36 H25 rfl R ?_
  refine evx_k (k := 40) E75 D75_4 rfl (by decide) ?_
  refine evx_add E75 D75_6 ?_
  refine evx_F E75 D75_7 rfl rfl ?_
  refine evx_add E75 D75_8 ?_
  refine evx_k (k := 2504) E75 D75_9 rfl (by decide) ?_
  obtain ⟨k1, hs⟩ := ck hs
  by_cases cb2 : 2504 < (((M 25 8) + 40) + 2)
  · rw [if_pos cb2] at hs
    refine evx_F E75 D75_12 rfl (ifT (c2_gt_T k1 (by decide) cb2)) ?_
    refine evx_F E75 D75_19 rfl rfl ?_
    cases hs
    exact evx_ret E75 D75_20 rfl (fun d => rfl) rfl (show rg _ from (by decide)) R
  · rw [if_neg cb2] at hs
    refine evx_F E75 D75_12 rfl (ifF (c2_gt_F k1 (by decide) (by omega))) ?_
    refine evx_F E75 D75_15 rfl rfl ?_
    refine evx_F E75 D75_16 rfl rfl ?_
    cases hs
    exact evx_ret E75 D75_20 rfl (fun d => rfl) rfl (show rg _ from (by decide)) R
set_option maxRecDepth 20000 in
theorem E77 : pgMm 77 = some (⟨"DictionaryHouse$Typing", "subjectAt", "(I)I"⟩, prog_12_method_5_code, 2, (some .int), []) := rfl
theorem D77_0 : pgDecT 77 0 = some (.aload_n 0, 1) := by decide +kernel
theorem D77_1 : pgDecT 77 1 = some (.getfield 52, 3) := by decide +kernel
theorem F77_52 : pgFf 77 52 = some (10, 2, 3) := by decide +kernel
theorem D77_4 : pgDecT 77 4 = some (.aload_n 0, 1) := by decide +kernel
theorem D77_5 : pgDecT 77 5 = some (.getfield 18, 3) := by decide +kernel
theorem F77_18 : pgFf 77 18 = some (10, 5, 3) := by decide +kernel
theorem D77_8 : pgDecT 77 8 = some (.iload_n 1, 1) := by decide +kernel
theorem D77_9 : pgDecT 77 9 = some (.iaload, 1) := by decide +kernel
theorem D77_10 : pgDecT 77 10 = some (.invokevirtual 70, 3) := by decide +kernel
theorem I77_70 : pgIi 77 70 = some (70, 1, 4) := by decide +kernel
theorem D77_13 : pgDecT 77 13 = some (.ireturn, 1) := by decide +kernel
/-! 77: DictionaryHouse$Typing.subjectAt (I)I -/
def f77 (M : Mm) (x1 : Int) : Option Int := if 0 ≤ x1 ∧ x1 < 60 then (f70 M (M 34 (Int.toNat x1))).bind (fun q3 => some q3) else none
theorem c77 {L : Nat} {xs : Nat → Int32} {h : mvH} {M : Mm} {x1 : Int} {v : Int} (R : rp h M) (rx1 : rg x1) (hs : f77 M x1 = some v) : evx L xs 2 77 0 [(0, .inr (.inr (.inl (some 24)))), (1, .inl (iz x1))] [] h (.inl (some (.inl v)), 0) M := by
  unfold f77 at hs
  refine evx_F E77 D77_0 rfl rfl ?_
  refine evx_gfr E77 D77_1 F77_52 H24 rfl R ?_
  refine evx_F E77 D77_4 rfl rfl ?_
  refine evx_gfr E77 D77_5 F77_18 H24 rfl R ?_
  refine evx_F E77 D77_8 rfl rfl ?_
  obtain ⟨k1, hs⟩ := ck hs
  refine evx_ial E77 D77_9 H34 (by decide) R k1 ?_
  obtain ⟨q3, e2, hs⟩ := Option.bind_eq_some_iff.mp hs
  refine evx_cv (D := 1) E77 D77_10 I77_70 rfl rfl H12 ⟨Nat.le_of_ble_eq_true rfl, Nat.le_of_ble_eq_true rfl⟩ ⟨rfl, Nat.le_of_ble_eq_true rfl⟩ rfl R (evx_up (Nat.le_of_ble_eq_true rfl) (c70 R (R.1 34 (Int.toNat x1)) e2)) ?_
  intro h4 R5 w6
  have w6 : rg q3 := w6
  show evx _ _ _ _ _ _ (.inl (iz q3) :: _) _ _ _
  cases hs
  exact evx_ret E77 D77_13 rfl (fun d => rfl) rfl (show rg _ from w6) R5
set_option maxRecDepth 20000 in
theorem E78 : pgMm 78 = some (⟨"DictionaryHouse$Typing", "kindAt", "(I)I"⟩, prog_12_method_4_code, 2, (some .int), []) := rfl
theorem D78_0 : pgDecT 78 0 = some (.aload_n 0, 1) := by decide +kernel
theorem D78_1 : pgDecT 78 1 = some (.getfield 52, 3) := by decide +kernel
theorem F78_52 : pgFf 78 52 = some (10, 2, 3) := by decide +kernel
theorem D78_4 : pgDecT 78 4 = some (.aload_n 0, 1) := by decide +kernel
theorem D78_5 : pgDecT 78 5 = some (.getfield 18, 3) := by decide +kernel
theorem F78_18 : pgFf 78 18 = some (10, 5, 3) := by decide +kernel
theorem D78_8 : pgDecT 78 8 = some (.iload_n 1, 1) := by decide +kernel
theorem D78_9 : pgDecT 78 9 = some (.iaload, 1) := by decide +kernel
theorem D78_10 : pgDecT 78 10 = some (.invokevirtual 64, 3) := by decide +kernel
theorem I78_64 : pgIi 78 64 = some (69, 1, 4) := by decide +kernel
theorem D78_13 : pgDecT 78 13 = some (.ireturn, 1) := by decide +kernel
/-! 78: DictionaryHouse$Typing.kindAt (I)I -/
def f78 (M : Mm) (x1 : Int) : Option Int := if 0 ≤ x1 ∧ x1 < 60 then (f69 M (M 34 (Int.toNat x1))).bind (fun q3 => some q3) else none
theorem c78 {L : Nat} {xs : Nat → Int32} {h : mvH} {M : Mm} {x1 : Int} {v : Int} (R : rp h M) (rx1 : rg x1) (hs : f78 M x1 = some v) : evx L xs 2 78 0 [(0, .inr (.inr (.inl (some 24)))), (1, .inl (iz x1))] [] h (.inl (some (.inl v)), 0) M := by
  unfold f78 at hs
  refine evx_F E78 D78_0 rfl rfl ?_
  refine evx_gfr E78 D78_1 F78_52 H24 rfl R ?_
  refine evx_F E78 D78_4 rfl rfl ?_
  refine evx_gfr E78 D78_5 F78_18 H24 rfl R ?_
  refine evx_F E78 D78_8 rfl rfl ?_
  obtain ⟨k1, hs⟩ := ck hs
  refine evx_ial E78 D78_9 H34 (by decide) R k1 ?_
  obtain ⟨q3, e2, hs⟩ := Option.bind_eq_some_iff.mp hs
  refine evx_cv (D := 1) E78 D78_10 I78_64 rfl rfl H12 ⟨Nat.le_of_ble_eq_true rfl, Nat.le_of_ble_eq_true rfl⟩ ⟨rfl, Nat.le_of_ble_eq_true rfl⟩ rfl R (evx_up (Nat.le_of_ble_eq_true rfl) (c69 R (R.1 34 (Int.toNat x1)) e2)) ?_
  intro h4 R5 w6
  have w6 : rg q3 := w6
  show evx _ _ _ _ _ _ (.inl (iz q3) :: _) _ _ _
  cases hs
  exact evx_ret E78 D78_13 rfl (fun d => rfl) rfl (show rg _ from w6) R5
set_option maxRecDepth 20000 in
theorem E80 : pgMm 80 = some (⟨"DictionaryHouse$Graph", "root", "(I)I"⟩, prog_7_method_6_code, 4, (some .int), []) := rfl
theorem D80_0 : pgDecT 80 0 = some (.iload_n 1, 1) := by decide +kernel
theorem D80_1 : pgDecT 80 1 = some (.istore_n 2, 1) := by decide +kernel
theorem D80_2 : pgDecT 80 2 = some (.iconst 0, 1) := by decide +kernel
theorem D80_3 : pgDecT 80 3 = some (.istore_n 3, 1) := by decide +kernel
theorem D80_4 : pgDecT 80 4 = some (.iload_n 3, 1) := by decide +kernel
theorem D80_5 : pgDecT 80 5 = some (.sipush 2504, 3) := by decide +kernel
theorem D80_8 : pgDecT 80 8 = some (.if_icmp .ge 43, 3) := by decide +kernel
theorem D80_51 : pgDecT 80 51 = some (.iload_n 2, 1) := by decide +kernel
theorem D80_52 : pgDecT 80 52 = some (.ireturn, 1) := by decide +kernel
theorem D80_11 : pgDecT 80 11 = some (.aload_n 0, 1) := by decide +kernel
theorem D80_12 : pgDecT 80 12 = some (.getfield 21, 3) := by decide +kernel
theorem F80_21 : pgFf 80 21 = some (5, 3, 3) := by decide +kernel
theorem D80_15 : pgDecT 80 15 = some (.iload_n 2, 1) := by decide +kernel
theorem D80_16 : pgDecT 80 16 = some (.iaload, 1) := by decide +kernel
theorem D80_17 : pgDecT 80 17 = some (.iload_n 2, 1) := by decide +kernel
theorem D80_18 : pgDecT 80 18 = some (.if_icmp .eq 33, 3) := by decide +kernel
theorem D80_21 : pgDecT 80 21 = some (.aload_n 0, 1) := by decide +kernel
theorem D80_22 : pgDecT 80 22 = some (.getfield 21, 3) := by decide +kernel
theorem D80_25 : pgDecT 80 25 = some (.iload_n 2, 1) := by decide +kernel
theorem D80_26 : pgDecT 80 26 = some (.aload_n 0, 1) := by decide +kernel
theorem D80_27 : pgDecT 80 27 = some (.getfield 21, 3) := by decide +kernel
theorem D80_30 : pgDecT 80 30 = some (.aload_n 0, 1) := by decide +kernel
theorem D80_31 : pgDecT 80 31 = some (.getfield 21, 3) := by decide +kernel
theorem D80_34 : pgDecT 80 34 = some (.iload_n 2, 1) := by decide +kernel
theorem D80_35 : pgDecT 80 35 = some (.iaload, 1) := by decide +kernel
theorem D80_36 : pgDecT 80 36 = some (.iaload, 1) := by decide +kernel
theorem D80_37 : pgDecT 80 37 = some (.iastore, 1) := by decide +kernel
theorem D80_38 : pgDecT 80 38 = some (.aload_n 0, 1) := by decide +kernel
theorem D80_39 : pgDecT 80 39 = some (.getfield 21, 3) := by decide +kernel
theorem D80_42 : pgDecT 80 42 = some (.iload_n 2, 1) := by decide +kernel
theorem D80_43 : pgDecT 80 43 = some (.iaload, 1) := by decide +kernel
theorem D80_44 : pgDecT 80 44 = some (.istore_n 2, 1) := by decide +kernel
theorem D80_45 : pgDecT 80 45 = some (.iinc 3 1, 3) := by decide +kernel
theorem D80_48 : pgDecT 80 48 = some (.goto (-44), 3) := by decide +kernel
/-! 80: DictionaryHouse$Graph.root (I)I -/
def l80 : Nat → Nat → Mm → Int → Int → Int → Option (Int × Mm)
  | 0, _, _, _, _, _ => none
  | f + 1, 4, M, x1, x2, x3 => if 2504 ≤ x3 then (some (x2, M)) else (if 0 ≤ x2 ∧ x2 < 2504 then (if (M 29 (Int.toNat x2)) = x2 then (some (x2, M)) else (if 0 ≤ (M 29 (Int.toNat x2)) ∧ (M 29 (Int.toNat x2)) < 2504 then (if rg (x3 + 1) then (l80 f 4 (up M 29 (Int.toNat x2) (M 29 (Int.toNat (M 29 (Int.toNat x2))))) x1 ((up M 29 (Int.toNat x2) (M 29 (Int.toNat (M 29 (Int.toNat x2))))) 29 (Int.toNat x2)) (x3 + 1)) else none) else none)) else none)
  | _, _, _, _, _, _ => none
theorem d80 {L : Nat} {xs : Nat → Int32} (f : Nat) : (∀ (M : Mm) (x1 x2 x3 : Int) (h : mvH) (v : Int) (M' : Mm), l80 f 4 M x1 x2 x3 = some (v, M') → rp h M → rg x1 → rg x2 → rg x3 → evx L xs 1 80 4 [(0, .inr (.inr (.inl (some 25)))), (1, .inl (iz x1)), (2, .inl (iz x2)), (3, .inl (iz x3))] [] h (.inl (some (.inl v)), 0) M') := by
  induction f with
  | zero => exact (fun M x1 x2 x3 h v M' hs _ _ _ _ => by cases hs)
  | succ f ih =>
    intro M x1 x2 x3 h v M' hs R rx1 rx2 rx3
    rw [l80] at hs
    refine evx_F E80 D80_4 rfl rfl ?_
    refine evx_k (k := 2504) E80 D80_5 rfl (by decide) ?_
    by_cases cb1 : 2504 ≤ x3
    · rw [if_pos cb1] at hs
      refine evx_F E80 D80_8 rfl (ifT (c2_ge_T rx3 (by decide) cb1)) ?_
      refine evx_F E80 D80_51 rfl rfl ?_
      cases hs
      exact evx_ret E80 D80_52 rfl (fun d => rfl) rfl (show rg _ from rx2) R
    · rw [if_neg cb1] at hs
      refine evx_F E80 D80_8 rfl (ifF (c2_ge_F rx3 (by decide) (by omega))) ?_
      refine evx_F E80 D80_11 rfl rfl ?_
      refine evx_gfr E80 D80_12 F80_21 H25 rfl R ?_
      refine evx_F E80 D80_15 rfl rfl ?_
      obtain ⟨k2, hs⟩ := ck hs
      refine evx_ial E80 D80_16 H29 (by decide) R k2 ?_
      refine evx_F E80 D80_17 rfl rfl ?_
      by_cases cb3 : (M 29 (Int.toNat x2)) = x2
      · rw [if_pos cb3] at hs
        refine evx_F E80 D80_18 rfl (ifT (c2_eq_T (R.1 29 (Int.toNat x2)) rx2 cb3)) ?_
        refine evx_F E80 D80_51 rfl rfl ?_
        cases hs
        exact evx_ret E80 D80_52 rfl (fun d => rfl) rfl (show rg _ from rx2) R
      · rw [if_neg cb3] at hs
        refine evx_F E80 D80_18 rfl (ifF (c2_eq_F (R.1 29 (Int.toNat x2)) rx2 (by omega))) ?_
        refine evx_F E80 D80_21 rfl rfl ?_
        refine evx_gfr E80 D80_22 F80_21 H25 rfl R ?_
        refine evx_F E80 D80_25 rfl rfl ?_
        refine evx_F E80 D80_26 rfl rfl ?_
        refine evx_gfr E80 D80_27 F80_21 H25 rfl R ?_
        refine evx_F E80 D80_30 rfl rfl ?_
        refine evx_gfr E80 D80_31 F80_21 H25 rfl R ?_
        refine evx_F E80 D80_34 rfl rfl ?_
        refine evx_ial E80 D80_35 H29 (by decide) R k2 ?_
        obtain ⟨k4, hs⟩ := ck hs
        refine evx_ial E80 D80_36 H29 (by decide) R k4 ?_
        refine evx_ias E80 D80_37 H29 (by decide) R k2 (R.1 29 (Int.toNat (M 29 (Int.toNat x2)))) ?_
        intro h5 R6
        refine evx_F E80 D80_38 rfl rfl ?_
        refine evx_gfr E80 D80_39 F80_21 H25 rfl R6 ?_
        refine evx_F E80 D80_42 rfl rfl ?_
        refine evx_ial E80 D80_43 H29 (by decide) R6 k2 ?_
        refine evx_F E80 D80_44 rfl rfl ?_
        refine evx_inc E80 D80_45 (Nat.le_of_ble_eq_true rfl) rfl ?_
        refine evx_F E80 D80_48 rfl rfl ?_
        obtain ⟨k7, hs⟩ := ck hs
        show evx _ _ _ _ _ [(3, .inl (iz (x3 + 1))), (2, .inl (iz ((up M 29 (Int.toNat x2) (M 29 (Int.toNat (M 29 (Int.toNat x2))))) 29 (Int.toNat x2)))), (0, .inr (.inr (.inl (some 25)))), (1, .inl (iz x1))] _ _ _ _
        exact evx_lv (lvLe_mk (fm rfl (fm rfl (fm rfl (fm rfl fn)))) (fm rfl (fm rfl (fm rfl (fm rfl fn)))) (fm rfl (fm rfl (fm rfl (fm rfl fn))))) (ih _ _ _ _ _ _ _ hs R6 rx1 (R6.1 29 (Int.toNat x2)) k7)
def f80 (M : Mm) (x1 : Int) : Option (Int × Mm) := l80 FU 4 M x1 x1 0
theorem c80 {L : Nat} {xs : Nat → Int32} {h : mvH} {M : Mm} {x1 : Int} {v : Int} {M' : Mm} (R : rp h M) (rx1 : rg x1) (hs : f80 M x1 = some (v, M')) : evx L xs 1 80 0 [(0, .inr (.inr (.inl (some 25)))), (1, .inl (iz x1))] [] h (.inl (some (.inl v)), 0) M' := by
  unfold f80 at hs
  refine evx_F E80 D80_0 rfl rfl ?_
  refine evx_F E80 D80_1 rfl rfl ?_
  refine evx_F E80 D80_2 rfl rfl ?_
  refine evx_F E80 D80_3 rfl rfl ?_
  show evx _ _ _ _ _ [(3, .inl (iz 0)), (2, .inl (iz x1)), (0, .inr (.inr (.inl (some 25)))), (1, .inl (iz x1))] _ _ _ _
  exact evx_lv (lvLe_mk (fm rfl (fm rfl (fm rfl (fm rfl fn)))) (fm rfl (fm rfl (fm rfl (fm rfl fn)))) (fm rfl (fm rfl (fm rfl (fm rfl fn))))) ((d80 FU) _ _ _ _ _ _ _ hs R rx1 rx1 (by decide))
set_option maxRecDepth 20000 in
theorem E81 : pgMm 81 = some (⟨"DictionaryHouse$Graph", "addParts", "(III)I"⟩, prog_7_method_11_code, 5, (some .int), []) := rfl
theorem D81_0 : pgDecT 81 0 = some (.iload_n 3, 1) := by decide +kernel
theorem D81_1 : pgDecT 81 1 = some (.istore 4, 2) := by decide +kernel
theorem D81_3 : pgDecT 81 3 = some (.aload_n 0, 1) := by decide +kernel
theorem D81_4 : pgDecT 81 4 = some (.getfield 15, 3) := by decide +kernel
theorem F81_15 : pgFf 81 15 = some (5, 1, 3) := by decide +kernel
theorem D81_7 : pgDecT 81 7 = some (.iload_n 1, 1) := by decide +kernel
theorem D81_8 : pgDecT 81 8 = some (.iaload, 1) := by decide +kernel
theorem D81_9 : pgDecT 81 9 = some (.iconst (-1), 1) := by decide +kernel
theorem D81_10 : pgDecT 81 10 = some (.if_icmp .eq 45, 3) := by decide +kernel
theorem D81_55 : pgDecT 81 55 = some (.aload_n 0, 1) := by decide +kernel
theorem D81_56 : pgDecT 81 56 = some (.getfield 18, 3) := by decide +kernel
theorem F81_18 : pgFf 81 18 = some (5, 2, 3) := by decide +kernel
theorem D81_59 : pgDecT 81 59 = some (.iload_n 1, 1) := by decide +kernel
theorem D81_60 : pgDecT 81 60 = some (.iaload, 1) := by decide +kernel
theorem D81_61 : pgDecT 81 61 = some (.iconst (-1), 1) := by decide +kernel
theorem D81_62 : pgDecT 81 62 = some (.if_icmp .eq 45, 3) := by decide +kernel
theorem D81_107 : pgDecT 81 107 = some (.iload 4, 2) := by decide +kernel
theorem D81_109 : pgDecT 81 109 = some (.ireturn, 1) := by decide +kernel
theorem D81_65 : pgDecT 81 65 = some (.aload_n 0, 1) := by decide +kernel
theorem D81_66 : pgDecT 81 66 = some (.getfield 18, 3) := by decide +kernel
theorem D81_69 : pgDecT 81 69 = some (.iload_n 2, 1) := by decide +kernel
theorem D81_70 : pgDecT 81 70 = some (.iaload, 1) := by decide +kernel
theorem D81_71 : pgDecT 81 71 = some (.iconst (-1), 1) := by decide +kernel
theorem D81_72 : pgDecT 81 72 = some (.if_icmp .eq 35, 3) := by decide +kernel
theorem D81_75 : pgDecT 81 75 = some (.aload_n 0, 1) := by decide +kernel
theorem D81_76 : pgDecT 81 76 = some (.getfield 33, 3) := by decide +kernel
theorem F81_33 : pgFf 81 33 = some (5, 7, 3) := by decide +kernel
theorem D81_79 : pgDecT 81 79 = some (.iload 4, 2) := by decide +kernel
theorem D81_81 : pgDecT 81 81 = some (.iinc 4 1, 3) := by decide +kernel
theorem D81_84 : pgDecT 81 84 = some (.aload_n 0, 1) := by decide +kernel
theorem D81_85 : pgDecT 81 85 = some (.getfield 18, 3) := by decide +kernel
theorem D81_88 : pgDecT 81 88 = some (.iload_n 1, 1) := by decide +kernel
theorem D81_89 : pgDecT 81 89 = some (.iaload, 1) := by decide +kernel
theorem D81_90 : pgDecT 81 90 = some (.iastore, 1) := by decide +kernel
theorem D81_91 : pgDecT 81 91 = some (.aload_n 0, 1) := by decide +kernel
theorem D81_92 : pgDecT 81 92 = some (.getfield 33, 3) := by decide +kernel
theorem D81_95 : pgDecT 81 95 = some (.iload 4, 2) := by decide +kernel
theorem D81_97 : pgDecT 81 97 = some (.iinc 4 1, 3) := by decide +kernel
theorem D81_100 : pgDecT 81 100 = some (.aload_n 0, 1) := by decide +kernel
theorem D81_101 : pgDecT 81 101 = some (.getfield 18, 3) := by decide +kernel
theorem D81_104 : pgDecT 81 104 = some (.iload_n 2, 1) := by decide +kernel
theorem D81_105 : pgDecT 81 105 = some (.iaload, 1) := by decide +kernel
theorem D81_106 : pgDecT 81 106 = some (.iastore, 1) := by decide +kernel
theorem D81_13 : pgDecT 81 13 = some (.aload_n 0, 1) := by decide +kernel
theorem D81_14 : pgDecT 81 14 = some (.getfield 15, 3) := by decide +kernel
theorem D81_17 : pgDecT 81 17 = some (.iload_n 2, 1) := by decide +kernel
theorem D81_18 : pgDecT 81 18 = some (.iaload, 1) := by decide +kernel
theorem D81_19 : pgDecT 81 19 = some (.iconst (-1), 1) := by decide +kernel
theorem D81_20 : pgDecT 81 20 = some (.if_icmp .eq 35, 3) := by decide +kernel
theorem D81_23 : pgDecT 81 23 = some (.aload_n 0, 1) := by decide +kernel
theorem D81_24 : pgDecT 81 24 = some (.getfield 33, 3) := by decide +kernel
theorem D81_27 : pgDecT 81 27 = some (.iload 4, 2) := by decide +kernel
theorem D81_29 : pgDecT 81 29 = some (.iinc 4 1, 3) := by decide +kernel
theorem D81_32 : pgDecT 81 32 = some (.aload_n 0, 1) := by decide +kernel
theorem D81_33 : pgDecT 81 33 = some (.getfield 15, 3) := by decide +kernel
theorem D81_36 : pgDecT 81 36 = some (.iload_n 1, 1) := by decide +kernel
theorem D81_37 : pgDecT 81 37 = some (.iaload, 1) := by decide +kernel
theorem D81_38 : pgDecT 81 38 = some (.iastore, 1) := by decide +kernel
theorem D81_39 : pgDecT 81 39 = some (.aload_n 0, 1) := by decide +kernel
theorem D81_40 : pgDecT 81 40 = some (.getfield 33, 3) := by decide +kernel
theorem D81_43 : pgDecT 81 43 = some (.iload 4, 2) := by decide +kernel
theorem D81_45 : pgDecT 81 45 = some (.iinc 4 1, 3) := by decide +kernel
theorem D81_48 : pgDecT 81 48 = some (.aload_n 0, 1) := by decide +kernel
theorem D81_49 : pgDecT 81 49 = some (.getfield 15, 3) := by decide +kernel
theorem D81_52 : pgDecT 81 52 = some (.iload_n 2, 1) := by decide +kernel
theorem D81_53 : pgDecT 81 53 = some (.iaload, 1) := by decide +kernel
theorem D81_54 : pgDecT 81 54 = some (.iastore, 1) := by decide +kernel
/-! 81: DictionaryHouse$Graph.addParts (III)I -/
def f81 (M : Mm) (x1 : Int) (x2 : Int) (x3 : Int) : Option (Int × Mm) := if 0 ≤ x1 ∧ x1 < 2504 then (if (M 27 (Int.toNat x1)) = (-1) then (if (M 28 (Int.toNat x1)) = (-1) then (some (x3, M)) else (if 0 ≤ x2 ∧ x2 < 2504 then (if (M 28 (Int.toNat x2)) = (-1) then (some (x3, M)) else (if 0 ≤ x3 ∧ x3 < 5012 then (if 0 ≤ (x3 + 1) ∧ (x3 + 1) < 5012 then (if rg ((x3 + 1) + 1) then (some (((x3 + 1) + 1), (up (up M 33 (Int.toNat x3) (M 28 (Int.toNat x1))) 33 (Int.toNat (x3 + 1)) (M 28 (Int.toNat x2))))) else none) else none) else none)) else none)) else (if 0 ≤ x2 ∧ x2 < 2504 then (if (M 27 (Int.toNat x2)) = (-1) then (if (M 28 (Int.toNat x1)) = (-1) then (some (x3, M)) else (if (M 28 (Int.toNat x2)) = (-1) then (some (x3, M)) else (if 0 ≤ x3 ∧ x3 < 5012 then (if 0 ≤ (x3 + 1) ∧ (x3 + 1) < 5012 then (if rg ((x3 + 1) + 1) then (some (((x3 + 1) + 1), (up (up M 33 (Int.toNat x3) (M 28 (Int.toNat x1))) 33 (Int.toNat (x3 + 1)) (M 28 (Int.toNat x2))))) else none) else none) else none))) else (if 0 ≤ x3 ∧ x3 < 5012 then (if 0 ≤ (x3 + 1) ∧ (x3 + 1) < 5012 then (if (M 28 (Int.toNat x1)) = (-1) then (if rg ((x3 + 1) + 1) then (some (((x3 + 1) + 1), (up (up M 33 (Int.toNat x3) (M 27 (Int.toNat x1))) 33 (Int.toNat (x3 + 1)) (M 27 (Int.toNat x2))))) else none) else (if (M 28 (Int.toNat x2)) = (-1) then (if rg ((x3 + 1) + 1) then (some (((x3 + 1) + 1), (up (up M 33 (Int.toNat x3) (M 27 (Int.toNat x1))) 33 (Int.toNat (x3 + 1)) (M 27 (Int.toNat x2))))) else none) else (if 0 ≤ ((x3 + 1) + 1) ∧ ((x3 + 1) + 1) < 5012 then (if 0 ≤ (((x3 + 1) + 1) + 1) ∧ (((x3 + 1) + 1) + 1) < 5012 then (if rg ((((x3 + 1) + 1) + 1) + 1) then (some (((((x3 + 1) + 1) + 1) + 1), (up (up (up (up M 33 (Int.toNat x3) (M 27 (Int.toNat x1))) 33 (Int.toNat (x3 + 1)) (M 27 (Int.toNat x2))) 33 (Int.toNat ((x3 + 1) + 1)) (M 28 (Int.toNat x1))) 33 (Int.toNat (((x3 + 1) + 1) + 1)) (M 28 (Int.toNat x2))))) else none) else none) else none))) else none) else none)) else none)) else none
theorem c81 {L : Nat} {xs : Nat → Int32} {h : mvH} {M : Mm} {x1 x2 x3 : Int} {v : Int} {M' : Mm} (R : rp h M) (rx1 : rg x1) (rx2 : rg x2) (rx3 : rg x3) (hs : f81 M x1 x2 x3 = some (v, M')) : evx L xs 1 81 0 [(0, .inr (.inr (.inl (some 25)))), (1, .inl (iz x1)), (2, .inl (iz x2)), (3, .inl (iz x3))] [] h (.inl (some (.inl v)), 0) M' := by
  unfold f81 at hs
  refine evx_F E81 D81_0 rfl rfl ?_
  refine evx_F E81 D81_1 rfl rfl ?_
  refine evx_F E81 D81_3 rfl rfl ?_
  refine evx_gfr E81 D81_4 F81_15 H25 rfl R ?_
  refine evx_F E81 D81_7 rfl rfl ?_
  obtain ⟨k1, hs⟩ := ck hs
  refine evx_ial E81 D81_8 H27 (by decide) R k1 ?_
  refine evx_F E81 D81_9 rfl rfl ?_
  by_cases cb2 : (M 27 (Int.toNat x1)) = (-1)
  · rw [if_pos cb2] at hs
    refine evx_F E81 D81_10 rfl (ifT (c2_eq_T (R.1 27 (Int.toNat x1)) (by decide) cb2)) ?_
    refine evx_F E81 D81_55 rfl rfl ?_
    refine evx_gfr E81 D81_56 F81_18 H25 rfl R ?_
    refine evx_F E81 D81_59 rfl rfl ?_
    refine evx_ial E81 D81_60 H28 (by decide) R k1 ?_
    refine evx_F E81 D81_61 rfl rfl ?_
    by_cases cb3 : (M 28 (Int.toNat x1)) = (-1)
    · rw [if_pos cb3] at hs
      refine evx_F E81 D81_62 rfl (ifT (c2_eq_T (R.1 28 (Int.toNat x1)) (by decide) cb3)) ?_
      refine evx_F E81 D81_107 rfl rfl ?_
      cases hs
      exact evx_ret E81 D81_109 rfl (fun d => rfl) rfl (show rg _ from rx3) R
    · rw [if_neg cb3] at hs
      refine evx_F E81 D81_62 rfl (ifF (c2_eq_F (R.1 28 (Int.toNat x1)) (by decide) (by omega))) ?_
      refine evx_F E81 D81_65 rfl rfl ?_
      refine evx_gfr E81 D81_66 F81_18 H25 rfl R ?_
      refine evx_F E81 D81_69 rfl rfl ?_
      obtain ⟨k4, hs⟩ := ck hs
      refine evx_ial E81 D81_70 H28 (by decide) R k4 ?_
      refine evx_F E81 D81_71 rfl rfl ?_
      by_cases cb5 : (M 28 (Int.toNat x2)) = (-1)
      · rw [if_pos cb5] at hs
        refine evx_F E81 D81_72 rfl (ifT (c2_eq_T (R.1 28 (Int.toNat x2)) (by decide) cb5)) ?_
        refine evx_F E81 D81_107 rfl rfl ?_
        cases hs
        exact evx_ret E81 D81_109 rfl (fun d => rfl) rfl (show rg _ from rx3) R
      · rw [if_neg cb5] at hs
        refine evx_F E81 D81_72 rfl (ifF (c2_eq_F (R.1 28 (Int.toNat x2)) (by decide) (by omega))) ?_
        refine evx_F E81 D81_75 rfl rfl ?_
        refine evx_gfr E81 D81_76 F81_33 H25 rfl R ?_
        refine evx_F E81 D81_79 rfl rfl ?_
        refine evx_inc E81 D81_81 (Nat.le_of_ble_eq_true rfl) rfl ?_
        refine evx_F E81 D81_84 rfl rfl ?_
        refine evx_gfr E81 D81_85 F81_18 H25 rfl R ?_
        refine evx_F E81 D81_88 rfl rfl ?_
        refine evx_ial E81 D81_89 H28 (by decide) R k1 ?_
        obtain ⟨k6, hs⟩ := ck hs
        refine evx_ias E81 D81_90 H33 (by decide) R k6 (R.1 28 (Int.toNat x1)) ?_
        intro h7 R8
        refine evx_F E81 D81_91 rfl rfl ?_
        refine evx_gfr E81 D81_92 F81_33 H25 rfl R8 ?_
        refine evx_F E81 D81_95 rfl rfl ?_
        refine evx_inc E81 D81_97 (Nat.le_of_ble_eq_true rfl) rfl ?_
        refine evx_F E81 D81_100 rfl rfl ?_
        refine evx_gfr E81 D81_101 F81_18 H25 rfl R8 ?_
        refine evx_F E81 D81_104 rfl rfl ?_
        refine evx_ial E81 D81_105 H28 (by decide) R8 k4 ?_
        show evx _ _ _ _ _ _ (.inl (iz (M 28 (Int.toNat x2))) :: _) _ _ _
        obtain ⟨k9, hs⟩ := ck hs
        refine evx_ias E81 D81_106 H33 (by decide) R8 k9 (R8.1 28 (Int.toNat x2)) ?_
        intro h10 R11
        refine evx_F E81 D81_107 rfl rfl ?_
        obtain ⟨k12, hs⟩ := ck hs
        cases hs
        exact evx_ret E81 D81_109 rfl (fun d => rfl) rfl (show rg _ from k12) R11
  · rw [if_neg cb2] at hs
    refine evx_F E81 D81_10 rfl (ifF (c2_eq_F (R.1 27 (Int.toNat x1)) (by decide) (by omega))) ?_
    refine evx_F E81 D81_13 rfl rfl ?_
    refine evx_gfr E81 D81_14 F81_15 H25 rfl R ?_
    refine evx_F E81 D81_17 rfl rfl ?_
    obtain ⟨k13, hs⟩ := ck hs
    refine evx_ial E81 D81_18 H27 (by decide) R k13 ?_
    refine evx_F E81 D81_19 rfl rfl ?_
    by_cases cb14 : (M 27 (Int.toNat x2)) = (-1)
    · rw [if_pos cb14] at hs
      refine evx_F E81 D81_20 rfl (ifT (c2_eq_T (R.1 27 (Int.toNat x2)) (by decide) cb14)) ?_
      refine evx_F E81 D81_55 rfl rfl ?_
      refine evx_gfr E81 D81_56 F81_18 H25 rfl R ?_
      refine evx_F E81 D81_59 rfl rfl ?_
      refine evx_ial E81 D81_60 H28 (by decide) R k1 ?_
      refine evx_F E81 D81_61 rfl rfl ?_
      by_cases cb15 : (M 28 (Int.toNat x1)) = (-1)
      · rw [if_pos cb15] at hs
        refine evx_F E81 D81_62 rfl (ifT (c2_eq_T (R.1 28 (Int.toNat x1)) (by decide) cb15)) ?_
        refine evx_F E81 D81_107 rfl rfl ?_
        cases hs
        exact evx_ret E81 D81_109 rfl (fun d => rfl) rfl (show rg _ from rx3) R
      · rw [if_neg cb15] at hs
        refine evx_F E81 D81_62 rfl (ifF (c2_eq_F (R.1 28 (Int.toNat x1)) (by decide) (by omega))) ?_
        refine evx_F E81 D81_65 rfl rfl ?_
        refine evx_gfr E81 D81_66 F81_18 H25 rfl R ?_
        refine evx_F E81 D81_69 rfl rfl ?_
        refine evx_ial E81 D81_70 H28 (by decide) R k13 ?_
        refine evx_F E81 D81_71 rfl rfl ?_
        by_cases cb16 : (M 28 (Int.toNat x2)) = (-1)
        · rw [if_pos cb16] at hs
          refine evx_F E81 D81_72 rfl (ifT (c2_eq_T (R.1 28 (Int.toNat x2)) (by decide) cb16)) ?_
          refine evx_F E81 D81_107 rfl rfl ?_
          cases hs
          exact evx_ret E81 D81_109 rfl (fun d => rfl) rfl (show rg _ from rx3) R
        · rw [if_neg cb16] at hs
          refine evx_F E81 D81_72 rfl (ifF (c2_eq_F (R.1 28 (Int.toNat x2)) (by decide) (by omega))) ?_
          refine evx_F E81 D81_75 rfl rfl ?_
          refine evx_gfr E81 D81_76 F81_33 H25 rfl R ?_
          refine evx_F E81 D81_79 rfl rfl ?_
          refine evx_inc E81 D81_81 (Nat.le_of_ble_eq_true rfl) rfl ?_
          refine evx_F E81 D81_84 rfl rfl ?_
          refine evx_gfr E81 D81_85 F81_18 H25 rfl R ?_
          refine evx_F E81 D81_88 rfl rfl ?_
          refine evx_ial E81 D81_89 H28 (by decide) R k1 ?_
          obtain ⟨k17, hs⟩ := ck hs
          refine evx_ias E81 D81_90 H33 (by decide) R k17 (R.1 28 (Int.toNat x1)) ?_
          intro h18 R19
          refine evx_F E81 D81_91 rfl rfl ?_
          refine evx_gfr E81 D81_92 F81_33 H25 rfl R19 ?_
          refine evx_F E81 D81_95 rfl rfl ?_
          refine evx_inc E81 D81_97 (Nat.le_of_ble_eq_true rfl) rfl ?_
          refine evx_F E81 D81_100 rfl rfl ?_
          refine evx_gfr E81 D81_101 F81_18 H25 rfl R19 ?_
          refine evx_F E81 D81_104 rfl rfl ?_
          refine evx_ial E81 D81_105 H28 (by decide) R19 k13 ?_
          show evx _ _ _ _ _ _ (.inl (iz (M 28 (Int.toNat x2))) :: _) _ _ _
          obtain ⟨k20, hs⟩ := ck hs
          refine evx_ias E81 D81_106 H33 (by decide) R19 k20 (R19.1 28 (Int.toNat x2)) ?_
          intro h21 R22
          refine evx_F E81 D81_107 rfl rfl ?_
          obtain ⟨k23, hs⟩ := ck hs
          cases hs
          exact evx_ret E81 D81_109 rfl (fun d => rfl) rfl (show rg _ from k23) R22
    · rw [if_neg cb14] at hs
      refine evx_F E81 D81_20 rfl (ifF (c2_eq_F (R.1 27 (Int.toNat x2)) (by decide) (by omega))) ?_
      refine evx_F E81 D81_23 rfl rfl ?_
      refine evx_gfr E81 D81_24 F81_33 H25 rfl R ?_
      refine evx_F E81 D81_27 rfl rfl ?_
      refine evx_inc E81 D81_29 (Nat.le_of_ble_eq_true rfl) rfl ?_
      refine evx_F E81 D81_32 rfl rfl ?_
      refine evx_gfr E81 D81_33 F81_15 H25 rfl R ?_
      refine evx_F E81 D81_36 rfl rfl ?_
      refine evx_ial E81 D81_37 H27 (by decide) R k1 ?_
      obtain ⟨k24, hs⟩ := ck hs
      refine evx_ias E81 D81_38 H33 (by decide) R k24 (R.1 27 (Int.toNat x1)) ?_
      intro h25 R26
      refine evx_F E81 D81_39 rfl rfl ?_
      refine evx_gfr E81 D81_40 F81_33 H25 rfl R26 ?_
      refine evx_F E81 D81_43 rfl rfl ?_
      refine evx_inc E81 D81_45 (Nat.le_of_ble_eq_true rfl) rfl ?_
      refine evx_F E81 D81_48 rfl rfl ?_
      refine evx_gfr E81 D81_49 F81_15 H25 rfl R26 ?_
      refine evx_F E81 D81_52 rfl rfl ?_
      refine evx_ial E81 D81_53 H27 (by decide) R26 k13 ?_
      show evx _ _ _ _ _ _ (.inl (iz (M 27 (Int.toNat x2))) :: _) _ _ _
      obtain ⟨k27, hs⟩ := ck hs
      refine evx_ias E81 D81_54 H33 (by decide) R26 k27 (R26.1 27 (Int.toNat x2)) ?_
      intro h28 R29
      refine evx_F E81 D81_55 rfl rfl ?_
      refine evx_gfr E81 D81_56 F81_18 H25 rfl R29 ?_
      refine evx_F E81 D81_59 rfl rfl ?_
      refine evx_ial E81 D81_60 H28 (by decide) R29 k1 ?_
      show evx _ _ _ _ _ _ (.inl (iz (M 28 (Int.toNat x1))) :: _) _ _ _
      refine evx_F E81 D81_61 rfl rfl ?_
      by_cases cb30 : (M 28 (Int.toNat x1)) = (-1)
      · rw [if_pos cb30] at hs
        refine evx_F E81 D81_62 rfl (ifT (c2_eq_T (R29.1 28 (Int.toNat x1)) (by decide) cb30)) ?_
        refine evx_F E81 D81_107 rfl rfl ?_
        obtain ⟨k31, hs⟩ := ck hs
        cases hs
        exact evx_ret E81 D81_109 rfl (fun d => rfl) rfl (show rg _ from k31) R29
      · rw [if_neg cb30] at hs
        refine evx_F E81 D81_62 rfl (ifF (c2_eq_F (R29.1 28 (Int.toNat x1)) (by decide) (by omega))) ?_
        refine evx_F E81 D81_65 rfl rfl ?_
        refine evx_gfr E81 D81_66 F81_18 H25 rfl R29 ?_
        refine evx_F E81 D81_69 rfl rfl ?_
        refine evx_ial E81 D81_70 H28 (by decide) R29 k13 ?_
        show evx _ _ _ _ _ _ (.inl (iz (M 28 (Int.toNat x2))) :: _) _ _ _
        refine evx_F E81 D81_71 rfl rfl ?_
        by_cases cb32 : (M 28 (Int.toNat x2)) = (-1)
        · rw [if_pos cb32] at hs
          refine evx_F E81 D81_72 rfl (ifT (c2_eq_T (R29.1 28 (Int.toNat x2)) (by decide) cb32)) ?_
          refine evx_F E81 D81_107 rfl rfl ?_
          obtain ⟨k33, hs⟩ := ck hs
          cases hs
          exact evx_ret E81 D81_109 rfl (fun d => rfl) rfl (show rg _ from k33) R29
        · rw [if_neg cb32] at hs
          refine evx_F E81 D81_72 rfl (ifF (c2_eq_F (R29.1 28 (Int.toNat x2)) (by decide) (by omega))) ?_
          refine evx_F E81 D81_75 rfl rfl ?_
          refine evx_gfr E81 D81_76 F81_33 H25 rfl R29 ?_
          refine evx_F E81 D81_79 rfl rfl ?_
          refine evx_inc E81 D81_81 (Nat.le_of_ble_eq_true rfl) rfl ?_
          refine evx_F E81 D81_84 rfl rfl ?_
          refine evx_gfr E81 D81_85 F81_18 H25 rfl R29 ?_
          refine evx_F E81 D81_88 rfl rfl ?_
          refine evx_ial E81 D81_89 H28 (by decide) R29 k1 ?_
          show evx _ _ _ _ _ _ (.inl (iz (M 28 (Int.toNat x1))) :: _) _ _ _
          obtain ⟨k34, hs⟩ := ck hs
          refine evx_ias E81 D81_90 H33 (by decide) R29 k34 (R29.1 28 (Int.toNat x1)) ?_
          intro h35 R36
          refine evx_F E81 D81_91 rfl rfl ?_
          refine evx_gfr E81 D81_92 F81_33 H25 rfl R36 ?_
          refine evx_F E81 D81_95 rfl rfl ?_
          refine evx_inc E81 D81_97 (Nat.le_of_ble_eq_true rfl) rfl ?_
          refine evx_F E81 D81_100 rfl rfl ?_
          refine evx_gfr E81 D81_101 F81_18 H25 rfl R36 ?_
          refine evx_F E81 D81_104 rfl rfl ?_
          refine evx_ial E81 D81_105 H28 (by decide) R36 k13 ?_
          show evx _ _ _ _ _ _ (.inl (iz (M 28 (Int.toNat x2))) :: _) _ _ _
          obtain ⟨k37, hs⟩ := ck hs
          refine evx_ias E81 D81_106 H33 (by decide) R36 k37 (R36.1 28 (Int.toNat x2)) ?_
          intro h38 R39
          refine evx_F E81 D81_107 rfl rfl ?_
          obtain ⟨k40, hs⟩ := ck hs
          cases hs
          exact evx_ret E81 D81_109 rfl (fun d => rfl) rfl (show rg _ from k40) R39
set_option maxRecDepth 20000 in
theorem E83 : pgMm 83 = some (⟨"DictionaryHouse$Typing", "arrow", "(II)I"⟩, prog_12_method_20_code, 3, (some .int), []) := rfl
theorem D83_0 : pgDecT 83 0 = some (.aload_n 0, 1) := by decide +kernel
theorem D83_1 : pgDecT 83 1 = some (.getfield 12, 3) := by decide +kernel
theorem F83_12 : pgFf 83 12 = some (10, 4, 3) := by decide +kernel
theorem D83_4 : pgDecT 83 4 = some (.iconst 4, 1) := by decide +kernel
theorem D83_5 : pgDecT 83 5 = some (.iload_n 1, 1) := by decide +kernel
theorem D83_6 : pgDecT 83 6 = some (.iload_n 2, 1) := by decide +kernel
theorem D83_7 : pgDecT 83 7 = some (.invokevirtual 80, 3) := by decide +kernel
theorem I83_80 : pgIi 83 80 = some (74, 3, 5) := by decide +kernel
theorem D83_10 : pgDecT 83 10 = some (.ireturn, 1) := by decide +kernel
/-! 83: DictionaryHouse$Typing.arrow (II)I -/
def f83 (M : Mm) (x1 : Int) (x2 : Int) : Option (Int × Mm) := (f74 M 4 x1 x2).bind (fun zq2 => some (zq2.1, zq2.2))
theorem c83 {L : Nat} {xs : Nat → Int32} {h : mvH} {M : Mm} {x1 x2 : Int} {v : Int} {M' : Mm} (R : rp h M) (rx1 : rg x1) (rx2 : rg x2) (hs : f83 M x1 x2 = some (v, M')) : evx L xs 2 83 0 [(0, .inr (.inr (.inl (some 24)))), (1, .inl (iz x1)), (2, .inl (iz x2))] [] h (.inl (some (.inl v)), 0) M' := by
  unfold f83 at hs
  refine evx_F E83 D83_0 rfl rfl ?_
  refine evx_gfr E83 D83_1 F83_12 H24 rfl R ?_
  refine evx_F E83 D83_4 rfl rfl ?_
  refine evx_F E83 D83_5 rfl rfl ?_
  refine evx_F E83 D83_6 rfl rfl ?_
  obtain ⟨⟨q2, M6⟩, e1, hs⟩ := Option.bind_eq_some_iff.mp hs
  dsimp only at hs
  refine evx_cv (D := 1) E83 D83_7 I83_80 rfl rfl H25 ⟨Nat.le_of_ble_eq_true rfl, Nat.le_of_ble_eq_true rfl⟩ ⟨rfl, Nat.le_of_ble_eq_true rfl⟩ rfl R (evx_up (Nat.le_of_ble_eq_true rfl) (c74 R (by decide) rx1 rx2 e1)) ?_
  intro h3 R4 w5
  have w5 : rg q2 := w5
  show evx _ _ _ _ _ _ (.inl (iz q2) :: _) _ _ _
  cases hs
  exact evx_ret E83 D83_10 rfl (fun d => rfl) rfl (show rg _ from w5) R4
set_option maxRecDepth 20000 in
theorem E85 : pgMm 85 = some (⟨"DictionaryHouse$ClassTable", "methodType", "(II)I"⟩, prog_3_method_6_code, 3, (some .int), []) := rfl
theorem D85_0 : pgDecT 85 0 = some (.aload_n 0, 1) := by decide +kernel
theorem D85_1 : pgDecT 85 1 = some (.getfield 18, 3) := by decide +kernel
theorem F85_18 : pgFf 85 18 = some (1, 2, 3) := by decide +kernel
theorem D85_4 : pgDecT 85 4 = some (.iload_n 1, 1) := by decide +kernel
theorem D85_5 : pgDecT 85 5 = some (.iconst 3, 1) := by decide +kernel
theorem D85_6 : pgDecT 85 6 = some (.imul, 1) := by decide +kernel
theorem D85_7 : pgDecT 85 7 = some (.iload_n 2, 1) := by decide +kernel
theorem D85_8 : pgDecT 85 8 = some (.iadd, 1) := by decide +kernel
theorem D85_9 : pgDecT 85 9 = some (.iaload, 1) := by decide +kernel
theorem D85_10 : pgDecT 85 10 = some (.ireturn, 1) := by decide +kernel
/-! 85: DictionaryHouse$ClassTable.methodType (II)I -/
def f85 (M : Mm) (x1 : Int) (x2 : Int) : Option Int := if 0 ≤ ((x1 * 3) + x2) ∧ ((x1 * 3) + x2) < 18 then (some (M 8 (Int.toNat ((x1 * 3) + x2)))) else none
theorem c85 {L : Nat} {xs : Nat → Int32} {h : mvH} {M : Mm} {x1 x2 : Int} {v : Int} (R : rp h M) (rx1 : rg x1) (rx2 : rg x2) (hs : f85 M x1 x2 = some v) : evx L xs 1 85 0 [(0, .inr (.inr (.inl (some 5)))), (1, .inl (iz x1)), (2, .inl (iz x2))] [] h (.inl (some (.inl v)), 0) M := by
  unfold f85 at hs
  refine evx_F E85 D85_0 rfl rfl ?_
  refine evx_gfr E85 D85_1 F85_18 H5 rfl R ?_
  refine evx_F E85 D85_4 rfl rfl ?_
  refine evx_F E85 D85_5 rfl rfl ?_
  refine evx_mul E85 D85_6 ?_
  refine evx_F E85 D85_7 rfl rfl ?_
  refine evx_add E85 D85_8 ?_
  obtain ⟨k1, hs⟩ := ck hs
  refine evx_ial E85 D85_9 H8 (by decide) R k1 ?_
  cases hs
  exact evx_ret E85 D85_10 rfl (fun d => rfl) rfl (show rg _ from (R.1 8 (Int.toNat ((x1 * 3) + x2)))) R
set_option maxRecDepth 20000 in
theorem E88 : pgMm 88 = some (⟨"java/lang/Integer", "bitCount", "(I)I"⟩, prog_20_method_49_code, 1, (some .int), []) := rfl
theorem D88_0 : pgDecT 88 0 = some (.iload_n 0, 1) := by decide +kernel
theorem D88_1 : pgDecT 88 1 = some (.iload_n 0, 1) := by decide +kernel
theorem D88_2 : pgDecT 88 2 = some (.iconst 1, 1) := by decide +kernel
theorem D88_3 : pgDecT 88 3 = some (.iushr, 1) := by decide +kernel
theorem D88_4 : pgDecT 88 4 = some (.ldc_w 265, 3) := by decide +kernel
theorem D88_7 : pgDecT 88 7 = some (.iand, 1) := by decide +kernel
theorem D88_8 : pgDecT 88 8 = some (.isub, 1) := by decide +kernel
theorem D88_9 : pgDecT 88 9 = some (.istore_n 0, 1) := by decide +kernel
theorem D88_10 : pgDecT 88 10 = some (.iload_n 0, 1) := by decide +kernel
theorem D88_11 : pgDecT 88 11 = some (.ldc_w 266, 3) := by decide +kernel
theorem D88_14 : pgDecT 88 14 = some (.iand, 1) := by decide +kernel
theorem D88_15 : pgDecT 88 15 = some (.iload_n 0, 1) := by decide +kernel
theorem D88_16 : pgDecT 88 16 = some (.iconst 2, 1) := by decide +kernel
theorem D88_17 : pgDecT 88 17 = some (.iushr, 1) := by decide +kernel
theorem D88_18 : pgDecT 88 18 = some (.ldc_w 266, 3) := by decide +kernel
theorem D88_21 : pgDecT 88 21 = some (.iand, 1) := by decide +kernel
theorem D88_22 : pgDecT 88 22 = some (.iadd, 1) := by decide +kernel
theorem D88_23 : pgDecT 88 23 = some (.istore_n 0, 1) := by decide +kernel
theorem D88_24 : pgDecT 88 24 = some (.iload_n 0, 1) := by decide +kernel
theorem D88_25 : pgDecT 88 25 = some (.iload_n 0, 1) := by decide +kernel
theorem D88_26 : pgDecT 88 26 = some (.iconst 4, 1) := by decide +kernel
theorem D88_27 : pgDecT 88 27 = some (.iushr, 1) := by decide +kernel
theorem D88_28 : pgDecT 88 28 = some (.iadd, 1) := by decide +kernel
theorem D88_29 : pgDecT 88 29 = some (.ldc_w 267, 3) := by decide +kernel
theorem D88_32 : pgDecT 88 32 = some (.iand, 1) := by decide +kernel
theorem D88_33 : pgDecT 88 33 = some (.istore_n 0, 1) := by decide +kernel
theorem D88_34 : pgDecT 88 34 = some (.iload_n 0, 1) := by decide +kernel
theorem D88_35 : pgDecT 88 35 = some (.iload_n 0, 1) := by decide +kernel
theorem D88_36 : pgDecT 88 36 = some (.bipush 8, 2) := by decide +kernel
theorem D88_38 : pgDecT 88 38 = some (.iushr, 1) := by decide +kernel
theorem D88_39 : pgDecT 88 39 = some (.iadd, 1) := by decide +kernel
theorem D88_40 : pgDecT 88 40 = some (.istore_n 0, 1) := by decide +kernel
theorem D88_41 : pgDecT 88 41 = some (.iload_n 0, 1) := by decide +kernel
theorem D88_42 : pgDecT 88 42 = some (.iload_n 0, 1) := by decide +kernel
theorem D88_43 : pgDecT 88 43 = some (.bipush 16, 2) := by decide +kernel
theorem D88_45 : pgDecT 88 45 = some (.iushr, 1) := by decide +kernel
theorem D88_46 : pgDecT 88 46 = some (.iadd, 1) := by decide +kernel
theorem D88_47 : pgDecT 88 47 = some (.istore_n 0, 1) := by decide +kernel
theorem D88_48 : pgDecT 88 48 = some (.iload_n 0, 1) := by decide +kernel
theorem D88_49 : pgDecT 88 49 = some (.bipush 63, 2) := by decide +kernel
theorem D88_51 : pgDecT 88 51 = some (.iand, 1) := by decide +kernel
theorem D88_52 : pgDecT 88 52 = some (.ireturn, 1) := by decide +kernel
/-! 88: java/lang/Integer.bitCount (I)I -/
def f88 (M : Mm) (x0 : Int) : Option Int := some (bAnd (((bAnd (((bAnd (x0 - (bAnd (bUsr x0 1) 1431655765)) 858993459) + (bAnd (bUsr (x0 - (bAnd (bUsr x0 1) 1431655765)) 2) 858993459)) + (bUsr ((bAnd (x0 - (bAnd (bUsr x0 1) 1431655765)) 858993459) + (bAnd (bUsr (x0 - (bAnd (bUsr x0 1) 1431655765)) 2) 858993459)) 4)) 252645135) + (bUsr (bAnd (((bAnd (x0 - (bAnd (bUsr x0 1) 1431655765)) 858993459) + (bAnd (bUsr (x0 - (bAnd (bUsr x0 1) 1431655765)) 2) 858993459)) + (bUsr ((bAnd (x0 - (bAnd (bUsr x0 1) 1431655765)) 858993459) + (bAnd (bUsr (x0 - (bAnd (bUsr x0 1) 1431655765)) 2) 858993459)) 4)) 252645135) 8)) + (bUsr ((bAnd (((bAnd (x0 - (bAnd (bUsr x0 1) 1431655765)) 858993459) + (bAnd (bUsr (x0 - (bAnd (bUsr x0 1) 1431655765)) 2) 858993459)) + (bUsr ((bAnd (x0 - (bAnd (bUsr x0 1) 1431655765)) 858993459) + (bAnd (bUsr (x0 - (bAnd (bUsr x0 1) 1431655765)) 2) 858993459)) 4)) 252645135) + (bUsr (bAnd (((bAnd (x0 - (bAnd (bUsr x0 1) 1431655765)) 858993459) + (bAnd (bUsr (x0 - (bAnd (bUsr x0 1) 1431655765)) 2) 858993459)) + (bUsr ((bAnd (x0 - (bAnd (bUsr x0 1) 1431655765)) 858993459) + (bAnd (bUsr (x0 - (bAnd (bUsr x0 1) 1431655765)) 2) 858993459)) 4)) 252645135) 8)) 16)) 63)
theorem c88 {L : Nat} {xs : Nat → Int32} {h : mvH} {M : Mm} {x0 : Int} {v : Int} (R : rp h M) (rx0 : rg x0) (hs : f88 M x0 = some v) : evx L xs 1 88 0 [(0, .inl (iz x0))] [] h (.inl (some (.inl v)), 0) M := by
  unfold f88 at hs
  refine evx_F E88 D88_0 rfl rfl ?_
  refine evx_F E88 D88_1 rfl rfl ?_
  refine evx_F E88 D88_2 rfl rfl ?_
  refine evx_iushr E88 D88_3 ?_
  refine evx_ldcw (k := 1431655765) E88 D88_4 rfl (by decide) ?_
  refine evx_iand E88 D88_7 ?_
  refine evx_sub E88 D88_8 ?_
  refine evx_F E88 D88_9 rfl rfl ?_
  refine evx_F E88 D88_10 rfl rfl ?_
  refine evx_ldcw (k := 858993459) E88 D88_11 rfl (by decide) ?_
  refine evx_iand E88 D88_14 ?_
  refine evx_F E88 D88_15 rfl rfl ?_
  refine evx_F E88 D88_16 rfl rfl ?_
  refine evx_iushr E88 D88_17 ?_
  refine evx_ldcw (k := 858993459) E88 D88_18 rfl (by decide) ?_
  refine evx_iand E88 D88_21 ?_
  refine evx_add E88 D88_22 ?_
  refine evx_F E88 D88_23 rfl rfl ?_
  refine evx_F E88 D88_24 rfl rfl ?_
  refine evx_F E88 D88_25 rfl rfl ?_
  refine evx_F E88 D88_26 rfl rfl ?_
  refine evx_iushr E88 D88_27 ?_
  refine evx_add E88 D88_28 ?_
  refine evx_ldcw (k := 252645135) E88 D88_29 rfl (by decide) ?_
  refine evx_iand E88 D88_32 ?_
  refine evx_F E88 D88_33 rfl rfl ?_
  refine evx_F E88 D88_34 rfl rfl ?_
  refine evx_F E88 D88_35 rfl rfl ?_
  refine evx_k (k := 8) E88 D88_36 rfl (by decide) ?_
  refine evx_iushr E88 D88_38 ?_
  refine evx_add E88 D88_39 ?_
  refine evx_F E88 D88_40 rfl rfl ?_
  refine evx_F E88 D88_41 rfl rfl ?_
  refine evx_F E88 D88_42 rfl rfl ?_
  refine evx_k (k := 16) E88 D88_43 rfl (by decide) ?_
  refine evx_iushr E88 D88_45 ?_
  refine evx_add E88 D88_46 ?_
  refine evx_F E88 D88_47 rfl rfl ?_
  refine evx_F E88 D88_48 rfl rfl ?_
  refine evx_k (k := 63) E88 D88_49 rfl (by decide) ?_
  refine evx_iand E88 D88_51 ?_
  cases hs
  exact evx_ret E88 D88_52 rfl (fun d => rfl) rfl (show rg _ from (iz_rg _)) R
set_option maxRecDepth 20000 in
theorem E91 : pgMm 91 = some (⟨"DictionaryHouse$TypeTable", "left", "(I)I"⟩, prog_11_method_4_code, 2, (some .int), []) := rfl
theorem D91_0 : pgDecT 91 0 = some (.aload_n 0, 1) := by decide +kernel
theorem D91_1 : pgDecT 91 1 = some (.getfield 9, 3) := by decide +kernel
theorem F91_9 : pgFf 91 9 = some (9, 0, 3) := by decide +kernel
theorem D91_4 : pgDecT 91 4 = some (.iload_n 1, 1) := by decide +kernel
theorem D91_5 : pgDecT 91 5 = some (.iaload, 1) := by decide +kernel
theorem D91_6 : pgDecT 91 6 = some (.ireturn, 1) := by decide +kernel
/-! 91: DictionaryHouse$TypeTable.left (I)I -/
def f91 (M : Mm) (x1 : Int) : Option Int := if 0 ≤ x1 ∧ x1 < 40 then (some (M 2 (Int.toNat x1))) else none
theorem c91 {L : Nat} {xs : Nat → Int32} {h : mvH} {M : Mm} {x1 : Int} {v : Int} (R : rp h M) (rx1 : rg x1) (hs : f91 M x1 = some v) : evx L xs 1 91 0 [(0, .inr (.inr (.inl (some 1)))), (1, .inl (iz x1))] [] h (.inl (some (.inl v)), 0) M := by
  unfold f91 at hs
  refine evx_F E91 D91_0 rfl rfl ?_
  refine evx_gfr E91 D91_1 F91_9 H1 rfl R ?_
  refine evx_F E91 D91_4 rfl rfl ?_
  obtain ⟨k1, hs⟩ := ck hs
  refine evx_ial E91 D91_5 H2 (by decide) R k1 ?_
  cases hs
  exact evx_ret E91 D91_6 rfl (fun d => rfl) rfl (show rg _ from (R.1 2 (Int.toNat x1))) R
set_option maxRecDepth 20000 in
theorem E92 : pgMm 92 = some (⟨"DictionaryHouse$TypeTable", "isList", "(I)Z"⟩, prog_11_method_3_code, 2, (some .boolean), []) := rfl
theorem D92_0 : pgDecT 92 0 = some (.iload_n 1, 1) := by decide +kernel
theorem D92_1 : pgDecT 92 1 = some (.bipush 10, 2) := by decide +kernel
theorem D92_3 : pgDecT 92 3 = some (.if_icmp .lt 17, 3) := by decide +kernel
theorem D92_20 : pgDecT 92 20 = some (.iconst 0, 1) := by decide +kernel
theorem D92_21 : pgDecT 92 21 = some (.ireturn, 1) := by decide +kernel
theorem D92_6 : pgDecT 92 6 = some (.aload_n 0, 1) := by decide +kernel
theorem D92_7 : pgDecT 92 7 = some (.getfield 15, 3) := by decide +kernel
theorem F92_15 : pgFf 92 15 = some (9, 1, 3) := by decide +kernel
theorem D92_10 : pgDecT 92 10 = some (.iload_n 1, 1) := by decide +kernel
theorem D92_11 : pgDecT 92 11 = some (.iaload, 1) := by decide +kernel
theorem D92_12 : pgDecT 92 12 = some (.iconst (-1), 1) := by decide +kernel
theorem D92_13 : pgDecT 92 13 = some (.if_icmp .ne 7, 3) := by decide +kernel
theorem D92_16 : pgDecT 92 16 = some (.iconst 1, 1) := by decide +kernel
theorem D92_17 : pgDecT 92 17 = some (.goto 4, 3) := by decide +kernel
/-! 92: DictionaryHouse$TypeTable.isList (I)Z -/
def f92 (M : Mm) (x1 : Int) : Option Int := if x1 < 10 then (some 0) else (if 0 ≤ x1 ∧ x1 < 40 then (if ¬ (M 3 (Int.toNat x1)) = (-1) then (some 0) else (some 1)) else none)
theorem c92 {L : Nat} {xs : Nat → Int32} {h : mvH} {M : Mm} {x1 : Int} {v : Int} (R : rp h M) (rx1 : rg x1) (hs : f92 M x1 = some v) : evx L xs 1 92 0 [(0, .inr (.inr (.inl (some 1)))), (1, .inl (iz x1))] [] h (.inl (some (.inl v)), 0) M := by
  unfold f92 at hs
  refine evx_F E92 D92_0 rfl rfl ?_
  refine evx_k (k := 10) E92 D92_1 rfl (by decide) ?_
  by_cases cb1 : x1 < 10
  · rw [if_pos cb1] at hs
    refine evx_F E92 D92_3 rfl (ifT (c2_lt_T rx1 (by decide) cb1)) ?_
    refine evx_F E92 D92_20 rfl rfl ?_
    cases hs
    exact evx_ret E92 D92_21 rfl (fun d => rfl) rfl (show rg _ from (by decide)) R
  · rw [if_neg cb1] at hs
    refine evx_F E92 D92_3 rfl (ifF (c2_lt_F rx1 (by decide) (by omega))) ?_
    refine evx_F E92 D92_6 rfl rfl ?_
    refine evx_gfr E92 D92_7 F92_15 H1 rfl R ?_
    refine evx_F E92 D92_10 rfl rfl ?_
    obtain ⟨k2, hs⟩ := ck hs
    refine evx_ial E92 D92_11 H3 (by decide) R k2 ?_
    refine evx_F E92 D92_12 rfl rfl ?_
    by_cases cb3 : ¬ (M 3 (Int.toNat x1)) = (-1)
    · rw [if_pos cb3] at hs
      refine evx_F E92 D92_13 rfl (ifT (c2_ne_T (R.1 3 (Int.toNat x1)) (by decide) cb3)) ?_
      refine evx_F E92 D92_20 rfl rfl ?_
      cases hs
      exact evx_ret E92 D92_21 rfl (fun d => rfl) rfl (show rg _ from (by decide)) R
    · rw [if_neg cb3] at hs
      refine evx_F E92 D92_13 rfl (ifF (c2_ne_F (R.1 3 (Int.toNat x1)) (by decide) (by omega))) ?_
      refine evx_F E92 D92_16 rfl rfl ?_
      refine evx_F E92 D92_17 rfl rfl ?_
      cases hs
      exact evx_ret E92 D92_21 rfl (fun d => rfl) rfl (show rg _ from (by decide)) R
set_option maxRecDepth 20000 in
theorem E93 : pgMm 93 = some (⟨"DictionaryHouse$TypeTable", "right", "(I)I"⟩, prog_11_method_5_code, 2, (some .int), []) := rfl
theorem D93_0 : pgDecT 93 0 = some (.aload_n 0, 1) := by decide +kernel
theorem D93_1 : pgDecT 93 1 = some (.getfield 15, 3) := by decide +kernel
theorem F93_15 : pgFf 93 15 = some (9, 1, 3) := by decide +kernel
theorem D93_4 : pgDecT 93 4 = some (.iload_n 1, 1) := by decide +kernel
theorem D93_5 : pgDecT 93 5 = some (.iaload, 1) := by decide +kernel
theorem D93_6 : pgDecT 93 6 = some (.ireturn, 1) := by decide +kernel
/-! 93: DictionaryHouse$TypeTable.right (I)I -/
def f93 (M : Mm) (x1 : Int) : Option Int := if 0 ≤ x1 ∧ x1 < 40 then (some (M 3 (Int.toNat x1))) else none
theorem c93 {L : Nat} {xs : Nat → Int32} {h : mvH} {M : Mm} {x1 : Int} {v : Int} (R : rp h M) (rx1 : rg x1) (hs : f93 M x1 = some v) : evx L xs 1 93 0 [(0, .inr (.inr (.inl (some 1)))), (1, .inl (iz x1))] [] h (.inl (some (.inl v)), 0) M := by
  unfold f93 at hs
  refine evx_F E93 D93_0 rfl rfl ?_
  refine evx_gfr E93 D93_1 F93_15 H1 rfl R ?_
  refine evx_F E93 D93_4 rfl rfl ?_
  obtain ⟨k1, hs⟩ := ck hs
  refine evx_ial E93 D93_5 H3 (by decide) R k1 ?_
  cases hs
  exact evx_ret E93 D93_6 rfl (fun d => rfl) rfl (show rg _ from (R.1 3 (Int.toNat x1))) R
set_option maxRecDepth 20000 in
theorem E94 : pgMm 94 = some (⟨"DictionaryHouse$Definitions", "typeOf", "(I)I"⟩, prog_5_method_5_code, 2, (some .int), []) := rfl
theorem D94_0 : pgDecT 94 0 = some (.aload_n 0, 1) := by decide +kernel
theorem D94_1 : pgDecT 94 1 = some (.getfield 15, 3) := by decide +kernel
theorem F94_15 : pgFf 94 15 = some (3, 1, 3) := by decide +kernel
theorem D94_4 : pgDecT 94 4 = some (.iload_n 1, 1) := by decide +kernel
theorem D94_5 : pgDecT 94 5 = some (.iaload, 1) := by decide +kernel
theorem D94_6 : pgDecT 94 6 = some (.ireturn, 1) := by decide +kernel
/-! 94: DictionaryHouse$Definitions.typeOf (I)I -/
def f94 (M : Mm) (x1 : Int) : Option Int := if 0 ≤ x1 ∧ x1 < 20 then (some (M 19 (Int.toNat x1))) else none
theorem c94 {L : Nat} {xs : Nat → Int32} {h : mvH} {M : Mm} {x1 : Int} {v : Int} (R : rp h M) (rx1 : rg x1) (hs : f94 M x1 = some v) : evx L xs 1 94 0 [(0, .inr (.inr (.inl (some 17)))), (1, .inl (iz x1))] [] h (.inl (some (.inl v)), 0) M := by
  unfold f94 at hs
  refine evx_F E94 D94_0 rfl rfl ?_
  refine evx_gfr E94 D94_1 F94_15 H17 rfl R ?_
  refine evx_F E94 D94_4 rfl rfl ?_
  obtain ⟨k1, hs⟩ := ck hs
  refine evx_ial E94 D94_5 H19 (by decide) R k1 ?_
  cases hs
  exact evx_ret E94 D94_6 rfl (fun d => rfl) rfl (show rg _ from (R.1 19 (Int.toNat x1))) R
set_option maxRecDepth 20000 in
theorem E95 : pgMm 95 = some (⟨"DictionaryHouse$Checker", "nodeForShape", "(I)I"⟩, prog_2_method_4_code, 2, (some .int), []) := rfl
theorem D95_0 : pgDecT 95 0 = some (.iload_n 1, 1) := by decide +kernel
theorem D95_1 : pgDecT 95 1 = some (.iconst 2, 1) := by decide +kernel
theorem D95_2 : pgDecT 95 2 = some (.if_icmp .eq 5, 3) := by decide +kernel
theorem D95_7 : pgDecT 95 7 = some (.aload_n 0, 1) := by decide +kernel
theorem D95_8 : pgDecT 95 8 = some (.getfield 46, 3) := by decide +kernel
theorem F95_46 : pgFf 95 46 = some (0, 5, 3) := by decide +kernel
theorem D95_11 : pgDecT 95 11 = some (.iconst 3, 1) := by decide +kernel
theorem D95_12 : pgDecT 95 12 = some (.aload_n 0, 1) := by decide +kernel
theorem D95_13 : pgDecT 95 13 = some (.getfield 46, 3) := by decide +kernel
theorem D95_16 : pgDecT 95 16 = some (.iconst 5, 1) := by decide +kernel
theorem D95_17 : pgDecT 95 17 = some (.iconst (-1), 1) := by decide +kernel
theorem D95_18 : pgDecT 95 18 = some (.iconst (-1), 1) := by decide +kernel
theorem D95_19 : pgDecT 95 19 = some (.invokevirtual 128, 3) := by decide +kernel
theorem I95_128 : pgIi 95 128 = some (74, 3, 5) := by decide +kernel
theorem D95_22 : pgDecT 95 22 = some (.iconst (-1), 1) := by decide +kernel
theorem D95_23 : pgDecT 95 23 = some (.invokevirtual 128, 3) := by decide +kernel
theorem D95_26 : pgDecT 95 26 = some (.ireturn, 1) := by decide +kernel
theorem D95_5 : pgDecT 95 5 = some (.iload_n 1, 1) := by decide +kernel
theorem D95_6 : pgDecT 95 6 = some (.ireturn, 1) := by decide +kernel
/-! 95: DictionaryHouse$Checker.nodeForShape (I)I -/
def f95 (M : Mm) (x1 : Int) : Option (Int × Mm) := if x1 = 2 then (f74 M 5 (-1) (-1)).bind (fun zq3 => (f74 zq3.2 3 zq3.1 (-1)).bind (fun zq9 => some (zq9.1, zq9.2))) else (some (x1, M))
theorem c95 {L : Nat} {xs : Nat → Int32} {h : mvH} {M : Mm} {x1 : Int} {v : Int} {M' : Mm} (R : rp h M) (rx1 : rg x1) (hs : f95 M x1 = some (v, M')) : evx L xs 2 95 0 [(0, .inr (.inr (.inl (some 42)))), (1, .inl (iz x1))] [] h (.inl (some (.inl v)), 0) M' := by
  unfold f95 at hs
  refine evx_F E95 D95_0 rfl rfl ?_
  refine evx_F E95 D95_1 rfl rfl ?_
  by_cases cb1 : x1 = 2
  · rw [if_pos cb1] at hs
    refine evx_F E95 D95_2 rfl (ifT (c2_eq_T rx1 (by decide) cb1)) ?_
    refine evx_F E95 D95_7 rfl rfl ?_
    refine evx_gfr E95 D95_8 F95_46 H42 rfl R ?_
    refine evx_F E95 D95_11 rfl rfl ?_
    refine evx_F E95 D95_12 rfl rfl ?_
    refine evx_gfr E95 D95_13 F95_46 H42 rfl R ?_
    refine evx_F E95 D95_16 rfl rfl ?_
    refine evx_F E95 D95_17 rfl rfl ?_
    refine evx_F E95 D95_18 rfl rfl ?_
    obtain ⟨⟨q3, M7⟩, e2, hs⟩ := Option.bind_eq_some_iff.mp hs
    dsimp only at hs
    refine evx_cv (D := 1) E95 D95_19 I95_128 rfl rfl H25 ⟨Nat.le_of_ble_eq_true rfl, Nat.le_of_ble_eq_true rfl⟩ ⟨rfl, Nat.le_of_ble_eq_true rfl⟩ rfl R (evx_up (Nat.le_of_ble_eq_true rfl) (c74 R (by decide) (by decide) (by decide) e2)) ?_
    intro h4 R5 w6
    have w6 : rg q3 := w6
    show evx _ _ _ _ _ _ (.inl (iz q3) :: _) _ _ _
    refine evx_F E95 D95_22 rfl rfl ?_
    obtain ⟨⟨q9, M13⟩, e8, hs⟩ := Option.bind_eq_some_iff.mp hs
    dsimp only at hs
    refine evx_cv (D := 1) E95 D95_23 I95_128 rfl rfl H25 ⟨Nat.le_of_ble_eq_true rfl, Nat.le_of_ble_eq_true rfl⟩ ⟨rfl, Nat.le_of_ble_eq_true rfl⟩ rfl R5 (evx_up (Nat.le_of_ble_eq_true rfl) (c74 R5 (by decide) w6 (by decide) e8)) ?_
    intro h10 R11 w12
    have w12 : rg q9 := w12
    show evx _ _ _ _ _ _ (.inl (iz q9) :: _) _ _ _
    cases hs
    exact evx_ret E95 D95_26 rfl (fun d => rfl) rfl (show rg _ from w12) R11
  · rw [if_neg cb1] at hs
    refine evx_F E95 D95_2 rfl (ifF (c2_eq_F rx1 (by decide) (by omega))) ?_
    refine evx_F E95 D95_5 rfl rfl ?_
    cases hs
    exact evx_ret E95 D95_6 rfl (fun d => rfl) rfl (show rg _ from rx1) R
set_option maxRecDepth 20000 in
theorem E100 : pgMm 100 = some (⟨"java/util/Arrays", "rangeCheck", "(III)V"⟩, prog_29_method_30_code, 3, none, []) := rfl
theorem D100_0 : pgDecT 100 0 = some (.iload_n 1, 1) := by decide +kernel
theorem D100_1 : pgDecT 100 1 = some (.iload_n 2, 1) := by decide +kernel
theorem D100_2 : pgDecT 100 2 = some (.if_icmp .le 44, 3) := by decide +kernel
theorem D100_46 : pgDecT 100 46 = some (.iload_n 1, 1) := by decide +kernel
theorem D100_47 : pgDecT 100 47 = some (.ifCond .ge 12, 3) := by decide +kernel
theorem D100_59 : pgDecT 100 59 = some (.iload_n 2, 1) := by decide +kernel
theorem D100_60 : pgDecT 100 60 = some (.iload_n 0, 1) := by decide +kernel
theorem D100_61 : pgDecT 100 61 = some (.if_icmp .le 12, 3) := by decide +kernel
theorem D100_73 : pgDecT 100 73 = some (.return_, 1) := by decide +kernel
theorem D100_64 : pgDecT 100 64 = some (.new 68, 3) := by decide +kernel
theorem D100_50 : pgDecT 100 50 = some (.new 68, 3) := by decide +kernel
theorem D100_5 : pgDecT 100 5 = some (.new 43, 3) := by decide +kernel
/-! 100: java/util/Arrays.rangeCheck (III)V -/
def f100 (M : Mm) (x0 : Int) (x1 : Int) (x2 : Int) : Option (Int × Mm) := if x1 ≤ x2 then (if 0 ≤ x1 then (if x2 ≤ x0 then (some (0, M)) else none) else none) else none
theorem c100 {L : Nat} {xs : Nat → Int32} {h : mvH} {M : Mm} {x0 x1 x2 : Int} {v : Int} {M' : Mm} (R : rp h M) (rx0 : rg x0) (rx1 : rg x1) (rx2 : rg x2) (hs : f100 M x0 x1 x2 = some (v, M')) : evx L xs 1 100 0 [(0, .inl (iz x0)), (1, .inl (iz x1)), (2, .inl (iz x2))] [] h (.inl none, 0) M' := by
  unfold f100 at hs
  refine evx_F E100 D100_0 rfl rfl ?_
  refine evx_F E100 D100_1 rfl rfl ?_
  by_cases cb1 : x1 ≤ x2
  · rw [if_pos cb1] at hs
    refine evx_F E100 D100_2 rfl (ifT (c2_le_T rx1 rx2 cb1)) ?_
    refine evx_F E100 D100_46 rfl rfl ?_
    by_cases cb2 : 0 ≤ x1
    · rw [if_pos cb2] at hs
      refine evx_F E100 D100_47 rfl (ifT (c1_ge_T rx1 cb2)) ?_
      refine evx_F E100 D100_59 rfl rfl ?_
      refine evx_F E100 D100_60 rfl rfl ?_
      by_cases cb3 : x2 ≤ x0
      · rw [if_pos cb3] at hs
        refine evx_F E100 D100_61 rfl (ifT (c2_le_T rx2 rx0 cb3)) ?_
        cases hs
        exact evx_ret E100 D100_73 rfl (fun d => rfl) rfl trivial R
      · rw [if_neg cb3] at hs
        refine evx_F E100 D100_61 rfl (ifF (c2_le_F rx2 rx0 (by omega))) ?_
        cases hs
    · rw [if_neg cb2] at hs
      refine evx_F E100 D100_47 rfl (ifF (c1_ge_F rx1 (by omega))) ?_
      cases hs
  · rw [if_neg cb1] at hs
    refine evx_F E100 D100_2 rfl (ifF (c2_le_F rx1 rx2 (by omega))) ?_
    cases hs
set_option maxRecDepth 20000 in
theorem E101 : pgMm 101 = some (⟨"DictionaryHouse$Graph", "addUser", "(I)V"⟩, prog_7_method_14_code, 2, none, []) := rfl
theorem D101_0 : pgDecT 101 0 = some (.iload_n 1, 1) := by decide +kernel
theorem D101_1 : pgDecT 101 1 = some (.iconst (-1), 1) := by decide +kernel
theorem D101_2 : pgDecT 101 2 = some (.if_icmp .eq 17, 3) := by decide +kernel
theorem D101_19 : pgDecT 101 19 = some (.return_, 1) := by decide +kernel
theorem D101_5 : pgDecT 101 5 = some (.aload_n 0, 1) := by decide +kernel
theorem D101_6 : pgDecT 101 6 = some (.getfield 24, 3) := by decide +kernel
theorem F101_24 : pgFf 101 24 = some (5, 4, 3) := by decide +kernel
theorem D101_9 : pgDecT 101 9 = some (.aload_n 0, 1) := by decide +kernel
theorem D101_10 : pgDecT 101 10 = some (.iload_n 1, 1) := by decide +kernel
theorem D101_11 : pgDecT 101 11 = some (.invokevirtual 44, 3) := by decide +kernel
theorem I101_44 : pgIi 101 44 = some (80, 1, 5) := by decide +kernel
theorem D101_14 : pgDecT 101 14 = some (.dup2, 1) := by decide +kernel
theorem D101_15 : pgDecT 101 15 = some (.iaload, 1) := by decide +kernel
theorem D101_16 : pgDecT 101 16 = some (.iconst 1, 1) := by decide +kernel
theorem D101_17 : pgDecT 101 17 = some (.iadd, 1) := by decide +kernel
theorem D101_18 : pgDecT 101 18 = some (.iastore, 1) := by decide +kernel
/-! 101: DictionaryHouse$Graph.addUser (I)V -/
def f101 (M : Mm) (x1 : Int) : Option (Int × Mm) := if x1 = (-1) then (some (0, M)) else (f80 M x1).bind (fun zq3 => if 0 ≤ zq3.1 ∧ zq3.1 < 2504 then (if rg ((zq3.2 30 (Int.toNat zq3.1)) + 1) then (some (0, (up zq3.2 30 (Int.toNat zq3.1) ((zq3.2 30 (Int.toNat zq3.1)) + 1)))) else none) else none)
theorem c101 {L : Nat} {xs : Nat → Int32} {h : mvH} {M : Mm} {x1 : Int} {v : Int} {M' : Mm} (R : rp h M) (rx1 : rg x1) (hs : f101 M x1 = some (v, M')) : evx L xs 2 101 0 [(0, .inr (.inr (.inl (some 25)))), (1, .inl (iz x1))] [] h (.inl none, 0) M' := by
  unfold f101 at hs
  refine evx_F E101 D101_0 rfl rfl ?_
  refine evx_F E101 D101_1 rfl rfl ?_
  by_cases cb1 : x1 = (-1)
  · rw [if_pos cb1] at hs
    refine evx_F E101 D101_2 rfl (ifT (c2_eq_T rx1 (by decide) cb1)) ?_
    cases hs
    exact evx_ret E101 D101_19 rfl (fun d => rfl) rfl trivial R
  · rw [if_neg cb1] at hs
    refine evx_F E101 D101_2 rfl (ifF (c2_eq_F rx1 (by decide) (by omega))) ?_
    refine evx_F E101 D101_5 rfl rfl ?_
    refine evx_gfr E101 D101_6 F101_24 H25 rfl R ?_
    refine evx_F E101 D101_9 rfl rfl ?_
    refine evx_F E101 D101_10 rfl rfl ?_
    obtain ⟨⟨q3, M7⟩, e2, hs⟩ := Option.bind_eq_some_iff.mp hs
    dsimp only at hs
    refine evx_cv (D := 1) E101 D101_11 I101_44 rfl rfl H25 ⟨Nat.le_of_ble_eq_true rfl, Nat.le_of_ble_eq_true rfl⟩ ⟨rfl, Nat.le_of_ble_eq_true rfl⟩ rfl R (evx_up (Nat.le_of_ble_eq_true rfl) (c80 R rx1 e2)) ?_
    intro h4 R5 w6
    have w6 : rg q3 := w6
    show evx _ _ _ _ _ _ (.inl (iz q3) :: _) _ _ _
    refine evx_F E101 D101_14 rfl rfl ?_
    obtain ⟨k8, hs⟩ := ck hs
    refine evx_ial E101 D101_15 H30 (by decide) R5 k8 ?_
    refine evx_F E101 D101_16 rfl rfl ?_
    refine evx_add E101 D101_17 ?_
    obtain ⟨k9, hs⟩ := ck hs
    refine evx_ias E101 D101_18 H30 (by decide) R5 k8 k9 ?_
    intro h10 R11
    cases hs
    exact evx_ret E101 D101_19 rfl (fun d => rfl) rfl trivial R11
set_option maxRecDepth 20000 in
theorem E102 : pgMm 102 = some (⟨"DictionaryHouse$Graph", "release", "(II)I"⟩, prog_7_method_15_code, 4, (some .int), []) := rfl
theorem D102_0 : pgDecT 102 0 = some (.iload_n 1, 1) := by decide +kernel
theorem D102_1 : pgDecT 102 1 = some (.iconst (-1), 1) := by decide +kernel
theorem D102_2 : pgDecT 102 2 = some (.if_icmp .ne 5, 3) := by decide +kernel
theorem D102_7 : pgDecT 102 7 = some (.aload_n 0, 1) := by decide +kernel
theorem D102_8 : pgDecT 102 8 = some (.iload_n 1, 1) := by decide +kernel
theorem D102_9 : pgDecT 102 9 = some (.invokevirtual 44, 3) := by decide +kernel
theorem I102_44 : pgIi 102 44 = some (80, 1, 5) := by decide +kernel
theorem D102_12 : pgDecT 102 12 = some (.istore_n 3, 1) := by decide +kernel
theorem D102_13 : pgDecT 102 13 = some (.aload_n 0, 1) := by decide +kernel
theorem D102_14 : pgDecT 102 14 = some (.getfield 24, 3) := by decide +kernel
theorem F102_24 : pgFf 102 24 = some (5, 4, 3) := by decide +kernel
theorem D102_17 : pgDecT 102 17 = some (.iload_n 3, 1) := by decide +kernel
theorem D102_18 : pgDecT 102 18 = some (.dup2, 1) := by decide +kernel
theorem D102_19 : pgDecT 102 19 = some (.iaload, 1) := by decide +kernel
theorem D102_20 : pgDecT 102 20 = some (.iconst 1, 1) := by decide +kernel
theorem D102_21 : pgDecT 102 21 = some (.isub, 1) := by decide +kernel
theorem D102_22 : pgDecT 102 22 = some (.iastore, 1) := by decide +kernel
theorem D102_23 : pgDecT 102 23 = some (.aload_n 0, 1) := by decide +kernel
theorem D102_24 : pgDecT 102 24 = some (.getfield 24, 3) := by decide +kernel
theorem D102_27 : pgDecT 102 27 = some (.iload_n 3, 1) := by decide +kernel
theorem D102_28 : pgDecT 102 28 = some (.iaload, 1) := by decide +kernel
theorem D102_29 : pgDecT 102 29 = some (.ifCond .le 5, 3) := by decide +kernel
theorem D102_34 : pgDecT 102 34 = some (.aload_n 0, 1) := by decide +kernel
theorem D102_35 : pgDecT 102 35 = some (.getfield 33, 3) := by decide +kernel
theorem F102_33 : pgFf 102 33 = some (5, 7, 3) := by decide +kernel
theorem D102_38 : pgDecT 102 38 = some (.iload_n 2, 1) := by decide +kernel
theorem D102_39 : pgDecT 102 39 = some (.iload_n 3, 1) := by decide +kernel
theorem D102_40 : pgDecT 102 40 = some (.iastore, 1) := by decide +kernel
theorem D102_41 : pgDecT 102 41 = some (.iload_n 2, 1) := by decide +kernel
theorem D102_42 : pgDecT 102 42 = some (.iconst 1, 1) := by decide +kernel
theorem D102_43 : pgDecT 102 43 = some (.iadd, 1) := by decide +kernel
theorem D102_44 : pgDecT 102 44 = some (.ireturn, 1) := by decide +kernel
theorem D102_32 : pgDecT 102 32 = some (.iload_n 2, 1) := by decide +kernel
theorem D102_33 : pgDecT 102 33 = some (.ireturn, 1) := by decide +kernel
theorem D102_5 : pgDecT 102 5 = some (.iload_n 2, 1) := by decide +kernel
theorem D102_6 : pgDecT 102 6 = some (.ireturn, 1) := by decide +kernel
/-! 102: DictionaryHouse$Graph.release (II)I -/
def f102 (M : Mm) (x1 : Int) (x2 : Int) : Option (Int × Mm) := if ¬ x1 = (-1) then (f80 M x1).bind (fun zq3 => if 0 ≤ zq3.1 ∧ zq3.1 < 2504 then (if rg ((zq3.2 30 (Int.toNat zq3.1)) - 1) then (if ((up zq3.2 30 (Int.toNat zq3.1) ((zq3.2 30 (Int.toNat zq3.1)) - 1)) 30 (Int.toNat zq3.1)) ≤ 0 then (if 0 ≤ x2 ∧ x2 < 5012 then (if rg (x2 + 1) then (some ((x2 + 1), (up (up zq3.2 30 (Int.toNat zq3.1) ((zq3.2 30 (Int.toNat zq3.1)) - 1)) 33 (Int.toNat x2) zq3.1))) else none) else none) else (some (x2, (up zq3.2 30 (Int.toNat zq3.1) ((zq3.2 30 (Int.toNat zq3.1)) - 1))))) else none) else none) else (some (x2, M))
theorem c102 {L : Nat} {xs : Nat → Int32} {h : mvH} {M : Mm} {x1 x2 : Int} {v : Int} {M' : Mm} (R : rp h M) (rx1 : rg x1) (rx2 : rg x2) (hs : f102 M x1 x2 = some (v, M')) : evx L xs 2 102 0 [(0, .inr (.inr (.inl (some 25)))), (1, .inl (iz x1)), (2, .inl (iz x2))] [] h (.inl (some (.inl v)), 0) M' := by
  unfold f102 at hs
  refine evx_F E102 D102_0 rfl rfl ?_
  refine evx_F E102 D102_1 rfl rfl ?_
  by_cases cb1 : ¬ x1 = (-1)
  · rw [if_pos cb1] at hs
    refine evx_F E102 D102_2 rfl (ifT (c2_ne_T rx1 (by decide) cb1)) ?_
    refine evx_F E102 D102_7 rfl rfl ?_
    refine evx_F E102 D102_8 rfl rfl ?_
    obtain ⟨⟨q3, M7⟩, e2, hs⟩ := Option.bind_eq_some_iff.mp hs
    dsimp only at hs
    refine evx_cv (D := 1) E102 D102_9 I102_44 rfl rfl H25 ⟨Nat.le_of_ble_eq_true rfl, Nat.le_of_ble_eq_true rfl⟩ ⟨rfl, Nat.le_of_ble_eq_true rfl⟩ rfl R (evx_up (Nat.le_of_ble_eq_true rfl) (c80 R rx1 e2)) ?_
    intro h4 R5 w6
    have w6 : rg q3 := w6
    show evx _ _ _ _ _ _ (.inl (iz q3) :: _) _ _ _
    refine evx_F E102 D102_12 rfl rfl ?_
    refine evx_F E102 D102_13 rfl rfl ?_
    refine evx_gfr E102 D102_14 F102_24 H25 rfl R5 ?_
    refine evx_F E102 D102_17 rfl rfl ?_
    refine evx_F E102 D102_18 rfl rfl ?_
    obtain ⟨k8, hs⟩ := ck hs
    refine evx_ial E102 D102_19 H30 (by decide) R5 k8 ?_
    refine evx_F E102 D102_20 rfl rfl ?_
    refine evx_sub E102 D102_21 ?_
    obtain ⟨k9, hs⟩ := ck hs
    refine evx_ias E102 D102_22 H30 (by decide) R5 k8 k9 ?_
    intro h10 R11
    refine evx_F E102 D102_23 rfl rfl ?_
    refine evx_gfr E102 D102_24 F102_24 H25 rfl R11 ?_
    refine evx_F E102 D102_27 rfl rfl ?_
    refine evx_ial E102 D102_28 H30 (by decide) R11 k8 ?_
    by_cases cb12 : ((up M7 30 (Int.toNat q3) ((M7 30 (Int.toNat q3)) - 1)) 30 (Int.toNat q3)) ≤ 0
    · rw [if_pos cb12] at hs
      refine evx_F E102 D102_29 rfl (ifT (c1_le_T (R11.1 30 (Int.toNat q3)) cb12)) ?_
      refine evx_F E102 D102_34 rfl rfl ?_
      refine evx_gfr E102 D102_35 F102_33 H25 rfl R11 ?_
      refine evx_F E102 D102_38 rfl rfl ?_
      refine evx_F E102 D102_39 rfl rfl ?_
      obtain ⟨k13, hs⟩ := ck hs
      refine evx_ias E102 D102_40 H33 (by decide) R11 k13 w6 ?_
      intro h14 R15
      refine evx_F E102 D102_41 rfl rfl ?_
      refine evx_F E102 D102_42 rfl rfl ?_
      refine evx_add E102 D102_43 ?_
      obtain ⟨k16, hs⟩ := ck hs
      cases hs
      exact evx_ret E102 D102_44 rfl (fun d => rfl) rfl (show rg _ from k16) R15
    · rw [if_neg cb12] at hs
      refine evx_F E102 D102_29 rfl (ifF (c1_le_F (R11.1 30 (Int.toNat q3)) (by omega))) ?_
      refine evx_F E102 D102_32 rfl rfl ?_
      cases hs
      exact evx_ret E102 D102_33 rfl (fun d => rfl) rfl (show rg _ from rx2) R11
  · rw [if_neg cb1] at hs
    refine evx_F E102 D102_2 rfl (ifF (c2_ne_F rx1 (by decide) (by omega))) ?_
    refine evx_F E102 D102_5 rfl rfl ?_
    cases hs
    exact evx_ret E102 D102_6 rfl (fun d => rfl) rfl (show rg _ from rx2) R
