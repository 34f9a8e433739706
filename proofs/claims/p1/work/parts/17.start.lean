/-! The start: what stands at the law's entry, as the small machine wants it. -/
set_option maxRecDepth 100000 in
theorem pgEA_at : pgM[pgJA]? = some pgEA := by rfl
set_option maxRecDepth 100000 in
theorem pgES_at : pgM[pgJS]? = some pgES := by rfl
section PGS
variable {l : Launch} {N0 : Nat} {xa : Nat → Nat} {cA : Nat → ClassId} {D : va_G} {L : Nat} {xs : Nat → Int32}
set_option maxRecDepth 100000 in
theorem pgB_ok (hl : l.stackTraces = false) : ∀ (j : Nat) (E : mvE) (b : List mvV → mvH → Option mvO) (as : List mvV) (h : mvH) (o : mvO) (d : Nat), mvPm (pgP L xs) j = some E → mvPb (pgP L xs) j = some b → b as h = some o → 8 ≤ d → mvMt (pgP L xs) N0 xa cA D pgCl "DictionaryHouse" "ARGUMENTS" "[I" l pgT E as h o d := by
  intro j E b as h o d hE hb ho hd
  have hE : pgM[j]? = some E := hE
  have hb : pgBb j = some b := hb
  unfold pgBb at hb
  split at hb
  · rename_i hj
    subst hj
    cases hb
    cases Option.some.inj (pgEA_at.symm.trans hE)
    exact pgReq_ok (q := (pgXA.1, pgXA.2, "java/lang/IllegalArgumentException")) hl (by simp [pgXs]) rfl rfl rfl rfl (by decide +kernel) (by decide +kernel) (by decide +kernel) (by decide +kernel) (by decide +kernel) (by decide +kernel) (by decide +kernel) (by decide +kernel) ho hd
  · split at hb
    · rename_i hj
      subst hj
      cases hb
      cases Option.some.inj (pgES_at.symm.trans hE)
      exact pgReq_ok (q := (pgXS.1, pgXS.2, "java/lang/IllegalStateException")) hl (by simp [pgXs]) rfl rfl rfl rfl (by decide +kernel) (by decide +kernel) (by decide +kernel) (by decide +kernel) (by decide +kernel) (by decide +kernel) (by decide +kernel) (by decide +kernel) ho hd
    · cases hb
end PGS
/-- an array's name in the tables -/
theorem pgArr {args : Array Value} {s : State} {ty : FieldType} (hty : ty = .int ∨ ty = .boolean ∨ ty = .long) (h : (Cond.arrayClass ty).before args s = true) : ∃ cT : ClassId, ArrOfT s cT ty ∧ va_RA s cT ty := by
  obtain ⟨cT, kA, comp, h1, h2, h3⟩ := Cond.arrayClass_spec h
  refine ⟨cT, fun n z => ⟨fun k h => (by cases h), kA, h2, comp, h3⟩, ?_⟩
  rcases hty with rfl | rfl | rfl <;> exact h1
def pgChJ (i : Nat) : Bool := match pgCl[i]? with
  | some r => decide (lw_tbl[pgIx.getD i 0]? = some (.instantiable r.1 r.2.2))
  | none => false
set_option maxRecDepth 100000 in
theorem pgChJ_ok : (List.range pgCl.length).all pgChJ = true := by decide +kernel
theorem pgInst {i : Nat} {r : vw_C} (h : pgCl[i]? = some r) : Cond.instantiable r.1 r.2.2 ∈ lw_tbl := by
  have h2 := List.all_eq_true.mp pgChJ_ok i (List.mem_range.mpr (List.getElem?_eq_some_iff.mp h).1)
  unfold pgChJ at h2
  rw [h] at h2
  exact List.mem_of_getElem? (of_decide_eq_true h2)
/-- the world's numbers and slots -/
theorem pgKnown {args : Array Value} {s : State} (hts : ∀ w ∈ lw_tbl, w.before args s = true) : ∃ (D : va_G) (cA : Nat → ClassId), va_K D pgCl (mvTys cA) s := by
  have h1 : ∀ i : Nat, ∃ q : ClassId × (Nat → Nat), ∀ r, pgCl[i]? = some r → u_Kn s r.1 r.2.1 r.2.2 q.1 q.2 := by
    intro i
    cases hr : pgCl[i]? with
    | none => exact ⟨(0, fun _ => 0), fun r h => by cases h⟩
    | some r =>
      obtain ⟨q1, q2, hq⟩ := u_known (C := r.1) (T := r.2.1) (N := r.2.2) (n := r.2.2) hts (fun w hw => (List.mem_filter.mp ((pgOf hr).1 w hw)).1) (hts _ (pgInst hr))
      exact ⟨(q1, q2), fun r' h => by cases h; exact hq⟩
  obtain ⟨c0, a0⟩ := pgArr (Or.inl rfl) (hts _ (List.mem_filter.mp (pg_oka .int (Or.inl rfl))).1)
  obtain ⟨c1, a1⟩ := pgArr (Or.inr (Or.inl rfl)) (hts _ (List.mem_filter.mp (pg_oka .boolean (Or.inr (Or.inl rfl)))).1)
  obtain ⟨c2, a2⟩ := pgArr (Or.inr (Or.inr rfl)) (hts _ (List.mem_filter.mp (pg_oka .long (Or.inr (Or.inr rfl)))).1)
  refine ⟨(fun i => (Classical.choose (h1 i)).1, fun i => (Classical.choose (h1 i)).2), fun t => if t = 0 then c0 else if t = 1 then c1 else c2, fun i r hr => Classical.choose_spec (h1 i) r hr, fun k q hq => ?_⟩
  match k, hq with
  | 0, hq => cases hq; exact a0
  | 1, hq => cases hq; exact a1
  | 2, hq => cases hq; exact a2
  | k + 3, hq => simp [mvTys] at hq
