/-! Handlers, the throwing methods, and all together. -/
def pgChH (j : Nat) : Bool := match pgM[j]? with
  | some E => (pgHs.getD j []).all (fun q => match E.2.2.2.2[q.2.1]? with
    | some r => decide (r.2.2.2 ≠ 0) && decide (r.2.2.1 = q.2.2.1) && decide (lw_tbl[q.2.2.2.2.2.1]? = some (.classLink E.1.cls r.2.2.2 q.1)) && decide (lw_tbl[q.2.2.2.2.2.2]? = some (.castable q.1 q.1)) && decide (q.2.2.2.2.2.2 ∈ pgNi) && decide (q.2.2.2.1 < E.2.2.1) &&
      (match decode E.2.1 q.2.2.1 with
      | .ok (.astore x, 2) => decide (x = q.2.2.2.1) && decide (q.2.2.2.2.1 = q.2.2.1 + 2)
      | .ok (.astore_n x, 1) => decide ((x : Nat) = q.2.2.2.1) && decide (q.2.2.2.2.1 = q.2.2.1 + 1)
      | _ => false) &&
      (E.2.2.2.2.take q.2.1).all (fun z => decide (z.1 = r.1) && decide (z.2.1 = r.2.1) && decide (z.2.2.2 ≠ 0) && decide (q.1 = "java/lang/IllegalStateException") && (pgHs.getD j []).any (fun q0 => decide (q0.1 = "java/lang/IllegalArgumentException") && decide (lw_tbl[q0.2.2.2.2.2.1]? = some (.classLink E.1.cls z.2.2.2 "java/lang/IllegalArgumentException"))))
    | none => false)
  | none => false
set_option maxRecDepth 100000 in
theorem pgChH_ok : (List.range pgHs.length).all pgChH = true := by decide +kernel
theorem pg_okh (L : Nat) (xs : Nat → Int32) : mvOkh pgT (pgP L xs) := by
  intro j E pc ex hp x pc' hE hf
  have hf : pgHf j pc ex = some (hp, x, pc') := hf
  have hE : pgM[j]? = some E := hE
  unfold pgHf at hf
  rw [hE] at hf
  split at hf
  · rename_i E' q hE' hq
    cases hE'
    split at hf
    · rename_i r hr
      split at hf
      · rename_i hpc
        cases hf
        obtain ⟨h1, h2⟩ := pgFnd hq
        have h2 : q.1 = ex := by simpa using h2
        subst h2
        have hlt : j < pgHs.length := by
          by_cases hj : j < pgHs.length
          · exact hj
          · rw [List.getD_eq_getElem?_getD, List.getElem?_eq_none (by omega)] at h1
            cases h1
        have h3 := List.all_eq_true.mp pgChH_ok j (List.mem_range.mpr hlt)
        unfold pgChH at h3
        rw [hE] at h3
        have h4 := List.all_eq_true.mp h3 q h1
        rw [hr] at h4
        simp only [Bool.and_eq_true, decide_eq_true_eq, Bool.or_eq_true, List.all_eq_true] at h4
        obtain ⟨⟨⟨⟨⟨⟨⟨a1, a2⟩, a3⟩, a4⟩, a4'⟩, a5⟩, a6⟩, a7⟩ := h4
        have hlen : q.2.1 < E.2.2.2.2.length := (List.getElem?_eq_some_iff.mp hr).1
        have hsp : E.2.2.2.2 = E.2.2.2.2.take q.2.1 ++ r :: E.2.2.2.2.drop (q.2.1 + 1) := by
          have e1 : E.2.2.2.2.drop q.2.1 = r :: E.2.2.2.2.drop (q.2.1 + 1) := by
            rw [List.drop_eq_getElem_cons hlen]
            congr 1
            exact (List.getElem?_eq_some_iff.mp hr).2
          rw [← e1, List.take_append_drop]
        refine ⟨tableOf (E.2.2.2.2.take q.2.1), ⟨r.1, r.2.1, r.2.2.1, r.2.2.2⟩, tableOf (E.2.2.2.2.drop (q.2.1 + 1)), ?_, fun z hz => ?_, ?_, a1, pgIn a3 rfl, pgNl_in a4 a4', a2, a5, ?_⟩
        · conv => lhs; rw [hsp]
          simp [tableOf]
        · obtain ⟨z0, hz0, rfl⟩ := List.mem_map.mp hz
          obtain ⟨⟨⟨⟨b1, b2⟩, b3⟩, b4⟩, b5⟩ := a7 z0 hz0
          refine Or.inr ⟨?_, b3, b4, ?_⟩
          · simp only [covers, b1, b2]
            simp only [Bool.and_eq_true, decide_eq_true_eq]
            exact hpc
          · obtain ⟨q0, -, hq0⟩ := List.any_eq_true.mp b5
            simp only [Bool.and_eq_true, decide_eq_true_eq] at hq0
            exact pgIn hq0.2 rfl
        · simp only [covers, Bool.and_eq_true, decide_eq_true_eq]
          exact hpc
        · split at a6
          · rename_i x0 hd
            simp only [Bool.and_eq_true, decide_eq_true_eq] at a6
            exact Or.inl ⟨by rw [hd, a6.1], a6.2⟩
          · rename_i x0 hd
            simp only [Bool.and_eq_true, decide_eq_true_eq] at a6
            exact Or.inr ⟨x0, hd, a6.1, a6.2⟩
          · cases a6
      · cases hf
    · cases hf
  · cases hf
set_option maxRecDepth 100000 in
theorem pgNl_warm : ∀ w ∈ pgNl, mvWarm w = true := by decide +kernel
theorem pg_okall (L : Nat) (xs : Nat → Int32) : mvOkAll pgT pgCl (pgP L xs) "DictionaryHouse" "ARGUMENTS" "[I" := ⟨fun w hw => (List.mem_filter.mp hw).2, pg_okm L xs, pg_oki L xs, pg_oko L xs, pg_okh L xs, pg_okf L xs, pg_okp L xs, pg_okn L xs, pg_oka, pg_oks L xs, pg_okk L xs, pgNl_warm⟩
