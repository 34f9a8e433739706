/-! All that the tables must say of the program, they say. -/
def pgBb (j : Nat) : Option (List mvV → mvH → Option mvO) := if j = pgJA then some (pgRq "java/lang/IllegalArgumentException") else if j = pgJS then some (pgRq "java/lang/IllegalStateException") else none
def pgPx (X : Nat → Option (Nat × (Nat → Int32))) : mvP := (pgMm, pgFf, pgIi, pgNn, pgSf, pgKf, pgBb, pgOo, pgHf, X, pgNl)
abbrev pgP (L : Nat) (xs : Nat → Int32) : mvP := pgPx (pgX L xs)
/-- fields -/
def pgChF (c : Nat) (q : Nat × Nat × Nat × Nat × Nat) : Bool := match pgCl[q.2.1]? with
  | some r => decide (q.2.2.1 < r.2.2) && decide (lw_tbl[q.2.2.2.2]? = some (.fieldLink (pgN.getD c "") q.1 r.1 (r.2.1 q.2.2.1).2.1 (r.2.1 q.2.2.1).2.2.1)) && decide ((r.2.1 q.2.2.1).1 = r.1) && decide (q.2.2.2.1 ≤ 2) &&
    (match q.2.2.2.1 with
    | 0 => decide ((r.2.1 q.2.2.1).2.2.2 = false) && decide (parseFieldDescriptor (r.2.1 q.2.2.1).2.2.1 = some .int)
    | 1 => decide ((r.2.1 q.2.2.1).2.2.2 = false) && decide (parseFieldDescriptor (r.2.1 q.2.2.1).2.2.1 = some .boolean)
    | _ => decide ((r.2.1 q.2.2.1).2.2.2 = true) && decide (r.1 = pgN.getD c "") && (match parseFieldDescriptor (r.2.1 q.2.2.1).2.2.1 with
      | some (.object _) => true
      | some (.array _) => true
      | _ => false))
  | none => false
set_option maxRecDepth 100000 in
theorem pgChF_ok : (List.range pgFs.length).all (fun c => (pgFs.getD c []).all (pgChF c)) = true := by decide +kernel
theorem pgFf_in {j idx ci k kd : Nat} (h : pgFf j idx = some (ci, k, kd)) : ∃ (kc : Nat × Bool) (q : Nat × Nat × Nat × Nat × Nat), pgK[j]? = some kc ∧ q.1 = idx ∧ q.2.1 = ci ∧ q.2.2.1 = k ∧ pgChF kc.1 q = true ∧ (kd ≤ 2 → q.2.2.2.1 = kd ∧ (kd = 2 → kc.2 = true)) := by
  obtain ⟨q, hq, he⟩ := Option.map_eq_some_iff.mp h
  obtain ⟨h1, h2⟩ := pgFnd hq
  obtain ⟨kc, hk, hin⟩ := pgAt_in h1
  have h3 := pgAll pgChF_ok hin
  have h4 : q.2.2.2.1 ≤ 2 := by
    unfold pgChF at h3
    split at h3
    · simp only [Bool.and_eq_true, decide_eq_true_eq] at h3
      exact h3.1.2
    · cases h3
  simp only [Prod.mk.injEq] at he
  obtain ⟨e1, e2, e3⟩ := he
  refine ⟨kc, q, hk, by simpa using h2, e1, e2, h3, fun hkd => ?_⟩
  rw [hk] at e3
  obtain ⟨c9, b9⟩ := kc
  match h9 : q.2.2.2.1, h4 with
  | 0, _ => rw [h9] at e3; simp only at e3; subst e3; exact ⟨rfl, fun z => by cases z⟩
  | 1, _ => rw [h9] at e3; simp only at e3; subst e3; exact ⟨rfl, fun z => by cases z⟩
  | 2, _ =>
    rw [h9] at e3
    cases b9
    · simp only at e3; omega
    · simp only at e3; subst e3; exact ⟨rfl, fun _ => rfl⟩
theorem pg_okf (L : Nat) (xs : Nat → Int32) : mvOkf pgT pgCl (pgP L xs) := by
  intro j E idx ci k kd hE hf
  obtain ⟨kc, q, hk, e1, e2, e3, h3, -⟩ := pgFf_in hf
  obtain ⟨kc', hk', hcls, -⟩ := pgM_in hE
  cases Option.some.inj (hk.symm.trans hk')
  unfold pgChF at h3
  subst e1 e2 e3
  split at h3
  · rename_i r hr
    simp only [Bool.and_eq_true, decide_eq_true_eq] at h3
    refine ⟨r, hr, pgOf hr, h3.1.1.1.1, ?_, h3.1.1.2⟩
    rw [hcls]
    exact pgIn h3.1.1.1.2 rfl
  · cases h3
theorem pg_okp (L : Nat) (xs : Nat → Int32) : mvOkp pgT pgCl (pgP L xs) := by
  intro j E idx ci k kd r hE hf hkd hr
  obtain ⟨kc, q, hk, e1, e2, e3, h3, h4⟩ := pgFf_in hf
  obtain ⟨kc', hk', hcls, hini⟩ := pgM_in hE
  cases Option.some.inj (hk.symm.trans hk')
  obtain ⟨h5, h6⟩ := h4 hkd
  unfold pgChF at h3
  subst e1 e2 e3
  rw [hr] at h3
  simp only [Bool.and_eq_true, decide_eq_true_eq] at h3
  obtain ⟨⟨⟨⟨-, -⟩, h8⟩, -⟩, h7⟩ := h3
  rw [h5] at h7
  match kd, hkd with
  | 0, _ => simp only [Bool.and_eq_true, decide_eq_true_eq] at h7; exact ⟨h7, fun z => by cases z⟩
  | 1, _ => simp only [Bool.and_eq_true, decide_eq_true_eq] at h7; exact ⟨h7, fun z => by cases z⟩
  | 2, _ =>
    simp only [Bool.and_eq_true, decide_eq_true_eq] at h7
    refine ⟨⟨h7.1.1, hini (h6 rfl), ?_⟩, fun _ => by rw [h8, h7.1.2, hcls]⟩
    have h9 := h7.2
    split at h9
    · rename_i n hn; exact ⟨_, hn, Or.inl ⟨_, rfl⟩⟩
    · rename_i n hn; exact ⟨_, hn, Or.inr ⟨_, rfl⟩⟩
    · cases h9
/-- what is made -/
def pgChN (c : Nat) (q : Nat × Nat × Nat × Nat × Nat) : Bool := match pgCl[q.2.1]? with
  | some r => decide (lw_tbl[q.2.2.1]? = some (.classLink (pgN.getD c "") q.1 r.1)) && decide (lw_tbl[q.2.2.2.1]? = some (.instantiable r.1 r.2.2)) && decide (lw_tbl[q.2.2.2.2]? = some (.initialized r.1)) && (List.range r.2.2).all (fun k => match parseFieldDescriptor (r.2.1 k).2.2.1 with
    | some .int => true
    | some .boolean => true
    | some (.object _) => true
    | some (.array _) => true
    | _ => false)
  | none => false
set_option maxRecDepth 100000 in
theorem pgChN_ok : (List.range pgNs.length).all (fun c => (pgNs.getD c []).all (pgChN c)) = true := by decide +kernel
theorem pg_okn (L : Nat) (xs : Nat → Int32) : mvOkn pgT pgCl (pgP L xs) := by
  intro j E idx ci fs hE hf
  obtain ⟨q, hq, he⟩ := Option.map_eq_some_iff.mp hf
  obtain ⟨h1, h2⟩ := pgFnd hq
  obtain ⟨kc, hk, hin⟩ := pgAt_in h1
  have h3 := pgAll pgChN_ok hin
  obtain ⟨kc', hk', hcls, -⟩ := pgM_in hE
  cases Option.some.inj (hk.symm.trans hk')
  have h2 : q.1 = idx := by simpa using h2
  subst h2
  unfold pgChN at h3
  split at h3
  · rename_i r hr
    rw [hr] at he
    simp only [Prod.mk.injEq] at he
    obtain ⟨rfl, rfl⟩ := he
    simp only [Bool.and_eq_true, decide_eq_true_eq, List.all_eq_true, List.mem_range] at h3
    refine ⟨r, hr, pgOf hr, by simp [pgDf], ?_, pgIn h3.1.1.2 rfl, pgIn h3.1.2 rfl, fun k hk ty hty N0 xa => ?_⟩
    · rw [hcls]; exact pgIn h3.1.1.1 rfl
    · have h4 := h3.2 k hk
      simp only [vp_V, pgDf, List.map_map, List.getD_eq_getElem?_getD, List.getElem?_map, List.getElem?_range hk, Option.map_some, Option.getD_some, Function.comp]
      rw [hty] at h4 ⊢
      match ty, h4 with
      | .int, _ => rfl
      | .boolean, _ => rfl
      | .object _, _ => rfl
      | .array _, _ => rfl
  · cases h3
/-- statics, constants, Object's own -/
def pgChS (c : Nat) (q : Nat × Nat × Nat) : Bool := match q.2.2 with
  | 0 => decide (lw_tbl[q.2.1]? = some (.fieldLink (pgN.getD c "") q.1 "DictionaryHouse" "ARGUMENTS" "[I"))
  | _ => decide (lw_tbl[q.2.1]? = some (.fieldLinkNest (pgN.getD c "") q.1 "DictionaryHouse" "ARGUMENTS" "[I" "DictionaryHouse")) && decide (q.2.1 ∈ pgNi)
set_option maxRecDepth 100000 in
theorem pgChS_ok : (List.range pgSs.length).all (fun c => (pgSs.getD c []).all (pgChS c)) = true := by decide +kernel
theorem pg_oks (L : Nat) (xs : Nat → Int32) : mvOks pgT (pgP L xs) "DictionaryHouse" "ARGUMENTS" "[I" := by
  intro j E idx o hE hf
  obtain ⟨q, hq, he⟩ := Option.map_eq_some_iff.mp hf
  obtain ⟨h1, h2⟩ := pgFnd hq
  obtain ⟨kc, hk, hin⟩ := pgAt_in h1
  have h3 := pgAll pgChS_ok hin
  obtain ⟨kc', hk', hcls, -⟩ := pgM_in hE
  cases Option.some.inj (hk.symm.trans hk')
  have h2 : q.1 = idx := by simpa using h2
  subst h2
  refine ⟨he.symm, ?_⟩
  rw [hcls]
  unfold pgChS at h3
  split at h3
  · exact Or.inl (pgIn (of_decide_eq_true h3) rfl)
  · simp only [Bool.and_eq_true, decide_eq_true_eq] at h3
    exact Or.inr ⟨_, pgNl_in h3.1 h3.2⟩
def pgChK (c : Nat) (q : Nat × Int32 × Nat) : Bool := decide (lw_tbl[q.2.2]? = some (.constant (pgN.getD c "") q.1 q.2.1))
set_option maxRecDepth 100000 in
theorem pgChK_ok : (List.range pgKs.length).all (fun c => (pgKs.getD c []).all (pgChK c)) = true := by decide +kernel
theorem pg_okk (L : Nat) (xs : Nat → Int32) : mvOkk pgT (pgP L xs) := by
  intro j E idx v hE hf
  obtain ⟨q, hq, he⟩ := Option.map_eq_some_iff.mp hf
  obtain ⟨h1, h2⟩ := pgFnd hq
  obtain ⟨kc, hk, hin⟩ := pgAt_in h1
  have h3 := pgAll pgChK_ok hin
  obtain ⟨kc', hk', hcls, -⟩ := pgM_in hE
  cases Option.some.inj (hk.symm.trans hk')
  have h2 : q.1 = idx := by simpa using h2
  subst h2
  subst he
  rw [hcls]
  exact pgIn (of_decide_eq_true h3) rfl
def pgChO (c : Nat) (q : Nat × Nat) : Bool := decide (lw_tbl[q.2]? = some (.methodLink (pgN.getD c "") q.1 Lib.objectInit))
set_option maxRecDepth 100000 in
theorem pgChO_ok : (List.range pgOs.length).all (fun c => (pgOs.getD c []).all (pgChO c)) = true := by decide +kernel
def pgChY (c : Nat) (q : Nat × Nat) : Bool := decide (lw_tbl[q.2]? = some (.methodLink (pgN.getD c "") q.1 arraycopyName))
set_option maxRecDepth 100000 in
theorem pgChY_ok : (List.range pgYs.length).all (fun c => (pgYs.getD c []).all (pgChY c)) = true := by decide +kernel
set_option maxRecDepth 100000 in
theorem pgM_lt {j : Nat} {E : mvE} (h : pgMm j = some E) : j < 100000 := by
  obtain ⟨h1, -⟩ := List.getElem?_eq_some_iff.mp h
  exact Nat.lt_trans h1 (by decide +kernel)
def pgChY2 (c : Nat) (q : Nat × Nat) : Bool := decide (lw_tbl[q.2]? = some (.methodLink (pgN.getD c "") q.1 Lib.Math.max.name))
set_option maxRecDepth 100000 in
theorem pgChY2_ok : (List.range pgY2.length).all (fun c => (pgY2.getD c []).all (pgChY2 c)) = true := by decide +kernel
def pgChY3 (c : Nat) (q : Nat × Nat) : Bool := decide (lw_tbl[q.2]? = some (.methodLink (pgN.getD c "") q.1 Lib.Math.min.name))
set_option maxRecDepth 100000 in
theorem pgChY3_ok : (List.range pgY3.length).all (fun c => (pgY3.getD c []).all (pgChY3 c)) = true := by decide +kernel
theorem pgPo_eq (L : Nat) (xs : Nat → Int32) : mvPo (pgP L xs) = pgOo := rfl
set_option maxRecDepth 100000 in
theorem pg_oko (L : Nat) (xs : Nat → Int32) : mvOko pgT (pgP L xs) := by
  refine ⟨pgIn (i := pgOb.1) (by decide +kernel) rfl, pgIn (i := pgOb.2) (by decide +kernel) rfl, fun j E idx hE hf => ?_, fun j E idx hE hf => ?_, fun j E idx hE hf => ?_, fun j E idx hE hf => ?_⟩
  rotate_left
  · rw [pgPo_eq] at hf
    unfold pgOo at hf
    have hj := pgM_lt hE
    rw [if_neg (by omega), if_pos (by omega), Nat.add_sub_cancel] at hf
    obtain ⟨q, h1, h2⟩ := List.any_eq_true.mp hf
    obtain ⟨kc, hk, hin⟩ := pgAt_in h1
    have h3 := pgAll pgChY_ok hin
    obtain ⟨kc', hk', hcls, -⟩ := pgM_in hE
    cases Option.some.inj (hk.symm.trans hk')
    have h2 : q.1 = idx := by simpa using h2
    subst h2
    rw [hcls]
    exact ⟨pgIn (of_decide_eq_true h3) rfl, pgIn (i := pgYo.1) (by decide +kernel) rfl, pgIn (i := pgYo.2.1) (by decide +kernel) rfl, pgIn (i := pgYo.2.2) (by decide +kernel) rfl⟩
  · rw [pgPo_eq] at hf
    unfold pgOo at hf
    have hj := pgM_lt hE
    rw [if_neg (by omega), if_neg (by omega), if_pos (by omega), Nat.add_sub_cancel] at hf
    obtain ⟨q, h1, h2⟩ := List.any_eq_true.mp hf
    obtain ⟨kc, hk, hin⟩ := pgAt_in h1
    have h3 := pgAll pgChY2_ok hin
    obtain ⟨kc', hk', hcls, -⟩ := pgM_in hE
    cases Option.some.inj (hk.symm.trans hk')
    have h2 : q.1 = idx := by simpa using h2
    subst h2
    rw [hcls]
    exact ⟨pgIn (of_decide_eq_true h3) rfl, pgIn (i := pgYm.1) (by decide +kernel) rfl, pgIn (i := pgYm.2.1) (by decide +kernel) rfl, pgIn (i := pgYm.2.2) (by decide +kernel) rfl⟩
  · rw [pgPo_eq] at hf
    unfold pgOo at hf
    have hj := pgM_lt hE
    rw [if_neg (by omega), if_neg (by omega), if_neg (by omega), Nat.add_sub_cancel] at hf
    obtain ⟨q, h1, h2⟩ := List.any_eq_true.mp hf
    obtain ⟨kc, hk, hin⟩ := pgAt_in h1
    have h3 := pgAll pgChY3_ok hin
    obtain ⟨kc', hk', hcls, -⟩ := pgM_in hE
    cases Option.some.inj (hk.symm.trans hk')
    have h2 : q.1 = idx := by simpa using h2
    subst h2
    rw [hcls]
    exact ⟨pgIn (of_decide_eq_true h3) rfl, pgIn (i := pgYn.1) (by decide +kernel) rfl, pgIn (i := pgYn.2.1) (by decide +kernel) rfl, pgIn (i := pgYn.2.2) (by decide +kernel) rfl⟩
  rw [pgPo_eq] at hf
  unfold pgOo at hf
  rw [if_pos (pgM_lt hE)] at hf
  obtain ⟨q, h1, h2⟩ := List.any_eq_true.mp hf
  obtain ⟨kc, hk, hin⟩ := pgAt_in h1
  have h3 := pgAll pgChO_ok hin
  obtain ⟨kc', hk', hcls, -⟩ := pgM_in hE
  cases Option.some.inj (hk.symm.trans hk')
  have h2 : q.1 = idx := by simpa using h2
  subst h2
  rw [hcls]
  exact pgIn (of_decide_eq_true h3) rfl
set_option maxRecDepth 100000 in
theorem pg_oka : ∀ at0 : ArrayType, at0 = .int ∨ at0 = .boolean ∨ at0 = .long → Cond.arrayClass (newarray.typeOf at0) ∈ pgT := by
  rintro at0 (rfl | rfl | rfl)
  · exact pgIn (i := pgAr.1) (by decide +kernel) rfl
  · exact pgIn (i := pgAr.2.1) (by decide +kernel) rfl
  · exact pgIn (i := pgAr.2.2) (by decide +kernel) rfl
