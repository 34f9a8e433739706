/-- calls -/
def pgChI (c : Nat) (q : Nat × Nat × Nat × Nat × Nat) : Bool := match pgM[q.2.1]?, pgWs[q.2.1]?, pgPc[q.2.1]? with
  | some E, some w, some n => decide (q.2.1 ≠ 0) && (if q.2.2.2.1 = 102 then decide (lw_tbl[q.2.2.2.2]? = some (.methodLinkNest (pgN.getD c "") q.1 E.1 "DictionaryHouse")) && decide (q.2.2.2.2 ∈ pgNi) else decide (lw_tbl[q.2.2.2.2]? = some (.methodLink (pgN.getD c "") q.1 E.1))) && decide (n = q.2.2.1) &&
    (if q.2.2.2.1 = 100 then decide (lw_tbl[w.2.2.1]? = some (.static E.1)) && decide (q.2.2.1 ≤ E.2.2.1)
     else if q.2.2.2.1 = 101 ∨ q.2.2.2.1 = 102 then decide (lw_tbl[w.2.2.1]? = some (.instanceMethod E.1)) && decide (E.1.name = "<init>") && E.2.2.2.1.isNone && E.2.2.2.2.isEmpty && decide (q.2.2.1 + 1 ≤ E.2.2.1)
     else decide (lw_tbl[w.2.2.1]? = some (.instanceMethod E.1)) && decide (lw_tbl[w.2.2.2]? = some (.selects E.1.cls E.1 E.1)) && E.2.2.2.2.isEmpty && decide (q.2.2.1 + 1 ≤ E.2.2.1) && (match pgCl[q.2.2.2.1]? with
      | some r => decide (r.1 = E.1.cls)
      | none => false))
  | _, _, _ => false
set_option maxRecDepth 100000 in
theorem pgChI_0_0 : (((pgIs.getD 0 []).drop 0).take 40).all (pgChI 0) = true := by decide +kernel
set_option maxRecDepth 100000 in
theorem pgChI_1_0 : (((pgIs.getD 1 []).drop 0).take 40).all (pgChI 1) = true := by decide +kernel
set_option maxRecDepth 100000 in
theorem pgChI_2_0 : (((pgIs.getD 2 []).drop 0).take 40).all (pgChI 2) = true := by decide +kernel
set_option maxRecDepth 100000 in
theorem pgChI_3_0 : (((pgIs.getD 3 []).drop 0).take 40).all (pgChI 3) = true := by decide +kernel
set_option maxRecDepth 100000 in
theorem pgChI_4_0 : (((pgIs.getD 4 []).drop 0).take 40).all (pgChI 4) = true := by decide +kernel
set_option maxRecDepth 100000 in
theorem pgChI_5_0 : (((pgIs.getD 5 []).drop 0).take 40).all (pgChI 5) = true := by decide +kernel
set_option maxRecDepth 100000 in
theorem pgChI_6_0 : (((pgIs.getD 6 []).drop 0).take 40).all (pgChI 6) = true := by decide +kernel
set_option maxRecDepth 100000 in
theorem pgChI_7_0 : (((pgIs.getD 7 []).drop 0).take 40).all (pgChI 7) = true := by decide +kernel
set_option maxRecDepth 100000 in
theorem pgChI_8_0 : (((pgIs.getD 8 []).drop 0).take 40).all (pgChI 8) = true := by decide +kernel
set_option maxRecDepth 100000 in
theorem pgChI_9_0 : (((pgIs.getD 9 []).drop 0).take 40).all (pgChI 9) = true := by decide +kernel
set_option maxRecDepth 100000 in
theorem pgChI_10_0 : (((pgIs.getD 10 []).drop 0).take 40).all (pgChI 10) = true := by decide +kernel
set_option maxRecDepth 100000 in
theorem pgChI_11_0 : (((pgIs.getD 11 []).drop 0).take 40).all (pgChI 11) = true := by decide +kernel
set_option maxRecDepth 100000 in
theorem pgChI_11_40 : (((pgIs.getD 11 []).drop 40).take 40).all (pgChI 11) = true := by decide +kernel
set_option maxRecDepth 100000 in
theorem pgChI_12_0 : (((pgIs.getD 12 []).drop 0).take 40).all (pgChI 12) = true := by decide +kernel
set_option maxRecDepth 100000 in
theorem pgChI_12_40 : (((pgIs.getD 12 []).drop 40).take 40).all (pgChI 12) = true := by decide +kernel
set_option maxRecDepth 100000 in
theorem pgChI_13_0 : (((pgIs.getD 13 []).drop 0).take 40).all (pgChI 13) = true := by decide +kernel
set_option maxRecDepth 100000 in
theorem pgChI_13_40 : (((pgIs.getD 13 []).drop 40).take 40).all (pgChI 13) = true := by decide +kernel
set_option maxRecDepth 100000 in
theorem pgChI_14_0 : (((pgIs.getD 14 []).drop 0).take 40).all (pgChI 14) = true := by decide +kernel
set_option maxRecDepth 100000 in
theorem pgChI_15_0 : (((pgIs.getD 15 []).drop 0).take 40).all (pgChI 15) = true := by decide +kernel
set_option maxRecDepth 100000 in
theorem pgChI_e0 : (pgIs.getD 0 []).drop (0 + 40) = [] := by decide +kernel
set_option maxRecDepth 100000 in
theorem pgChI_e1 : (pgIs.getD 1 []).drop (0 + 40) = [] := by decide +kernel
set_option maxRecDepth 100000 in
theorem pgChI_e2 : (pgIs.getD 2 []).drop (0 + 40) = [] := by decide +kernel
set_option maxRecDepth 100000 in
theorem pgChI_e3 : (pgIs.getD 3 []).drop (0 + 40) = [] := by decide +kernel
set_option maxRecDepth 100000 in
theorem pgChI_e4 : (pgIs.getD 4 []).drop (0 + 40) = [] := by decide +kernel
set_option maxRecDepth 100000 in
theorem pgChI_e5 : (pgIs.getD 5 []).drop (0 + 40) = [] := by decide +kernel
set_option maxRecDepth 100000 in
theorem pgChI_e6 : (pgIs.getD 6 []).drop (0 + 40) = [] := by decide +kernel
set_option maxRecDepth 100000 in
theorem pgChI_e7 : (pgIs.getD 7 []).drop (0 + 40) = [] := by decide +kernel
set_option maxRecDepth 100000 in
theorem pgChI_e8 : (pgIs.getD 8 []).drop (0 + 40) = [] := by decide +kernel
set_option maxRecDepth 100000 in
theorem pgChI_e9 : (pgIs.getD 9 []).drop (0 + 40) = [] := by decide +kernel
set_option maxRecDepth 100000 in
theorem pgChI_e10 : (pgIs.getD 10 []).drop (0 + 40) = [] := by decide +kernel
set_option maxRecDepth 100000 in
theorem pgChI_e11 : (pgIs.getD 11 []).drop (40 + 40) = [] := by decide +kernel
set_option maxRecDepth 100000 in
theorem pgChI_e12 : (pgIs.getD 12 []).drop (40 + 40) = [] := by decide +kernel
set_option maxRecDepth 100000 in
theorem pgChI_e13 : (pgIs.getD 13 []).drop (40 + 40) = [] := by decide +kernel
set_option maxRecDepth 100000 in
theorem pgChI_e14 : (pgIs.getD 14 []).drop (0 + 40) = [] := by decide +kernel
set_option maxRecDepth 100000 in
theorem pgChI_e15 : (pgIs.getD 15 []).drop (0 + 40) = [] := by decide +kernel
theorem pgChI_ok : ∀ (c : Nat) (q : Nat × Nat × Nat × Nat × Nat), q ∈ pgIs.getD c [] → pgChI c q = true := by
  intro c q hq
  have key : ∀ (l : List (Nat × Nat × Nat × Nat × Nat)) (b : Nat), ((l.drop b).take 40).all (pgChI c) = true → (∀ x ∈ l.drop (b + 40), pgChI c x = true) → ∀ x ∈ l.drop b, pgChI c x = true := by
    intro l b h1 h2 x hx
    rw [← List.take_append_drop 40 (l.drop b), List.drop_drop] at hx
    rcases List.mem_append.mp hx with h | h
    · exact List.all_eq_true.mp h1 x h
    · exact h2 x h
  match c, hq with
  | 0, hq => exact (key _ 0 pgChI_0_0 (fun x hx => by rw [pgChI_e0] at hx; cases hx)) q (by rw [List.drop_zero]; exact hq)
  | 1, hq => exact (key _ 0 pgChI_1_0 (fun x hx => by rw [pgChI_e1] at hx; cases hx)) q (by rw [List.drop_zero]; exact hq)
  | 2, hq => exact (key _ 0 pgChI_2_0 (fun x hx => by rw [pgChI_e2] at hx; cases hx)) q (by rw [List.drop_zero]; exact hq)
  | 3, hq => exact (key _ 0 pgChI_3_0 (fun x hx => by rw [pgChI_e3] at hx; cases hx)) q (by rw [List.drop_zero]; exact hq)
  | 4, hq => exact (key _ 0 pgChI_4_0 (fun x hx => by rw [pgChI_e4] at hx; cases hx)) q (by rw [List.drop_zero]; exact hq)
  | 5, hq => exact (key _ 0 pgChI_5_0 (fun x hx => by rw [pgChI_e5] at hx; cases hx)) q (by rw [List.drop_zero]; exact hq)
  | 6, hq => exact (key _ 0 pgChI_6_0 (fun x hx => by rw [pgChI_e6] at hx; cases hx)) q (by rw [List.drop_zero]; exact hq)
  | 7, hq => exact (key _ 0 pgChI_7_0 (fun x hx => by rw [pgChI_e7] at hx; cases hx)) q (by rw [List.drop_zero]; exact hq)
  | 8, hq => exact (key _ 0 pgChI_8_0 (fun x hx => by rw [pgChI_e8] at hx; cases hx)) q (by rw [List.drop_zero]; exact hq)
  | 9, hq => exact (key _ 0 pgChI_9_0 (fun x hx => by rw [pgChI_e9] at hx; cases hx)) q (by rw [List.drop_zero]; exact hq)
  | 10, hq => exact (key _ 0 pgChI_10_0 (fun x hx => by rw [pgChI_e10] at hx; cases hx)) q (by rw [List.drop_zero]; exact hq)
  | 11, hq => exact (key _ 0 pgChI_11_0 (key _ 40 pgChI_11_40 (fun x hx => by rw [pgChI_e11] at hx; cases hx))) q (by rw [List.drop_zero]; exact hq)
  | 12, hq => exact (key _ 0 pgChI_12_0 (key _ 40 pgChI_12_40 (fun x hx => by rw [pgChI_e12] at hx; cases hx))) q (by rw [List.drop_zero]; exact hq)
  | 13, hq => exact (key _ 0 pgChI_13_0 (key _ 40 pgChI_13_40 (fun x hx => by rw [pgChI_e13] at hx; cases hx))) q (by rw [List.drop_zero]; exact hq)
  | 14, hq => exact (key _ 0 pgChI_14_0 (fun x hx => by rw [pgChI_e14] at hx; cases hx)) q (by rw [List.drop_zero]; exact hq)
  | 15, hq => exact (key _ 0 pgChI_15_0 (fun x hx => by rw [pgChI_e15] at hx; cases hx)) q (by rw [List.drop_zero]; exact hq)
  | n + 16, hq =>
    have e : pgIs.getD (n + 16) [] = [] := by
      rw [List.getD_eq_getElem?_getD, List.getElem?_eq_none (by show 16 ≤ n + 16; omega)]
      rfl
    rw [e] at hq
    cases hq
theorem pg_oki (L : Nat) (xs : Nat → Int32) : mvOki pgT pgCl (pgP L xs) := by
  intro j E idx j' n ci hE hf
  obtain ⟨q, hq, he⟩ := Option.map_eq_some_iff.mp hf
  obtain ⟨h1, h2⟩ := pgFnd hq
  obtain ⟨kc, hk, hin⟩ := pgAt_in h1
  have h3 := pgChI_ok _ _ hin
  obtain ⟨kc', hk', hcls, -⟩ := pgM_in hE
  cases Option.some.inj (hk.symm.trans hk')
  have h2 : q.1 = idx := by simpa using h2
  subst h2
  simp only [Prod.mk.injEq] at he
  obtain ⟨rfl, rfl, rfl⟩ := he
  unfold pgChI at h3
  split at h3
  · rename_i E' w n' hE' hw hn'
    simp only [Bool.and_eq_true, decide_eq_true_eq] at h3
    obtain ⟨⟨⟨a1, a2⟩, a4⟩, a5⟩ := h3
    obtain ⟨w9, n9, -, hn9, -, -, -, -, -, hini, hpar⟩ := pgCh2_in hE' a1
    cases Option.some.inj (hn'.symm.trans hn9)
    subst a4
    refine ⟨E', hE', a1, fun h => ?_, hini, hpar, fun h => ?_, fun h => ?_, fun h => ?_, fun h => ?_⟩
    · rw [if_neg h] at a2
      rw [hcls]
      exact pgIn (of_decide_eq_true a2) rfl
    · rw [if_pos h] at a5
      simp only [Bool.and_eq_true, decide_eq_true_eq] at a5
      exact ⟨pgIn a5.1 rfl, a5.2⟩
    · rw [if_neg (by omega), if_pos (Or.inl h)] at a5
      simp only [Bool.and_eq_true, decide_eq_true_eq, Option.isNone_iff_eq_none, List.isEmpty_iff] at a5
      exact ⟨pgIn a5.1.1.1.1 rfl, a5.1.1.1.2, a5.1.1.2, a5.1.2, a5.2⟩
    · rw [if_neg (by omega), if_pos (Or.inr h)] at a5
      rw [if_pos h] at a2
      simp only [Bool.and_eq_true, decide_eq_true_eq, Option.isNone_iff_eq_none, List.isEmpty_iff] at a5 a2
      exact ⟨pgIn a5.1.1.1.1 rfl, a5.1.1.1.2, a5.1.1.2, a5.1.2, a5.2, _, by rw [hcls]; exact pgNl_in a2.1 a2.2⟩
    · rw [if_neg (by omega), if_neg (by omega)] at a5
      simp only [Bool.and_eq_true, decide_eq_true_eq, List.isEmpty_iff] at a5
      obtain ⟨⟨⟨⟨b1, b2⟩, b3⟩, b4⟩, b5⟩ := a5
      refine ⟨pgIn b1 rfl, pgIn b2 rfl, b3, b4, ?_⟩
      split at b5
      · rename_i r hr; exact ⟨r, hr, of_decide_eq_true b5⟩
      · cases b5
  · cases h3
