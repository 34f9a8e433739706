/-! One call on a fresh object. -/
theorem pgAny1 {κ : Nat → Nat} {X : amX} {B : amB} {dec : Nat → Nat → Option (Instr × Nat)} {stop : Nat} (X1 X2 : Nat → Option (Nat × (Nat → Int32))) : ∀ n, amTo κ (pgPx X1) X B dec stop n = amTo κ (pgPx X2) X B dec stop n := by
  intro n
  induction n with
  | zero => rfl
  | succ n ih =>
    funext d j pc lv st h
    rw [amTo, amTo]
    simp only [ih, pgAny0 X1 X2]
    rfl
theorem pgHead (L : Nat) (xs : Nat → Int32) : mvRun (pgP L xs) 2000 20 0 0 [(0, .inr (.inr (.inr 1)))] [] (true, []) = mvAdd 110 819039 (mvRun (pgP L xs) 1987 20 0 23 (amGl xs pgL0) [] (amGh xs (true, pgH0))) := by
  have h := amSame_ok pgH0_run
  rw [pgAny1 pgX0 (pgX L xs)] at h
  have hX : ∀ o q, pgX9 o = some q → mvPx (pgP L xs) o = some (q.1, fun k => amGi xs (q.2 k)) := by
    intro o q hq
    match o, hq with
    | 0, hq => cases hq; rfl
    | o + 1, hq => cases hq
  have h2 := amTo_ok (ρ := xs) (κ := fun _ => 0) (P := pgP L xs) (X := pgX9) (fun i => ⟨(fun h => by cases h), (fun h => by cases h), (fun h => by omega)⟩) hX pgBa_ok pgBa_no pgDec_ok 2000 20 0 0 _ [] (true, []) _ _ [] _ _ _ h
  have e1 : amGl xs [(0, .inr (.inr (.inr 1)))] = [(0, .inr (.inr (.inr 1)))] := rfl
  have e2 : amGh xs (true, []) = (true, []) := rfl
  rw [e1, e2, List.map_nil] at h2
  exact h2
def pgYes2 (o : Option amO) : Bool := match o with
  | some (.inl (some (.inl (.inl x))), _, kc, ks) => decide (x = 1) && decide (kc ≤ 500000) && decide (ks ≤ 6000000)
  | _ => false
/-- a script's class: kinds, and what is known -/
def pgChk (L : Nat) (ks : List Nat) (sc : List amI) : Bool := pgYes2 (amRun (fun i => ks.getD i 0) (pgPx pgX0) (pgXa L sc) pgBa pgDecT 1987 20 0 23 pgL0 [] (true, pgH0))
theorem pgChk_ok {L : Nat} {xs : Nat → Int32} {ks : List Nat} {sc : List amI} (hρ : ∀ i, amOk (ks.getD i 0) (xs i)) (hsc : ∀ (k : Nat) (a : Int32), sc[k]? = some (Sum.inl a : amI) → xs k = a) (hsd : ∀ (k v : Nat), sc[k]? = some (Sum.inr v : amI) → v = k) (h : pgChk L ks sc = true) :
    ∃ h' kc ks, mvRun (pgP L xs) 2000 20 0 0 [(0, .inr (.inr (.inr 1)))] [] (true, []) = some (.inl (some (.inl 1)), h', kc, ks) ∧ kc ≤ 600002 ∧ ks ≤ 7302231 := by
  unfold pgChk at h
  rw [pgAny0 pgX0 (pgX L xs)] at h
  unfold pgYes2 at h
  split at h
  · rename_i x h' kc ks hr
    simp only [Bool.and_eq_true, decide_eq_true_eq] at h
    obtain ⟨⟨rfl, h2⟩, h3⟩ := h
    have h4 := amRun_ok (ρ := xs) (P := pgP L xs) hρ (X := pgXa L sc) ?_ pgBa_ok pgBa_no pgDecT_ok 1987 20 0 23 _ _ _ _ hr
    · refine ⟨amGh xs h', 110 + kc, 819039 + ks, ?_, by omega, by omega⟩
      rw [pgHead]
      simp only [List.map_nil] at h4
      rw [h4]
      rfl
    · intro o q hq
      match o, hq with
      | 0, hq => cases hq; rfl
      | 1, hq =>
        cases hq
        show some (L, xs) = some (L, _)
        congr 2
        funext k
        show xs k = amGi xs (sc.getD k (.inr k))
        rw [List.getD_eq_getElem?_getD]
        cases hk : sc[k]? with
        | none => rfl
        | some a =>
          cases a with
          | inl a => exact hsc k a hk
          | inr v => show xs k = xs v; rw [hsd k v hk]
      | o + 2, hq => cases hq
  · cases h
def pgCls : List (Nat × Option Int32) := [(1, none), (2, none), (0, some (-1)), (0, some 0), (0, some 1), (0, some 2), (0, some 3), (0, some 4), (0, some 5), (0, some 6), (0, some 7), (0, some 8), (0, some 9)]
def pgV (k : Nat) (q : Option Int32) : amI := match q with
  | some a => .inl a
  | none => .inr k
def pgChm (m : Nat) : Bool := if m = 1 then pgCls.all (fun q => pgCls.all (fun r => pgChk 7 [101, q.1, r.1] [.inr 0, pgV 1 q.2, pgV 2 r.2])) else if m = 4 ∨ 17 ≤ m then pgChk 7 [100 + m] [] else pgCls.all (fun q => pgChk 7 [100 + m, q.1] [.inr 0, pgV 1 q.2])
