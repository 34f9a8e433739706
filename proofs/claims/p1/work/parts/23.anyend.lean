/-! Its ends, calls, runs; and that the small machine runs so, too. -/
def amFin (E : mvE) (i : Instr) (len : Nat) (st : List amV) : Option (Option amV) := if len = 1 then (match i with
  | .return_ => match st, E.2.2.2.1 with
    | [], none => some none
    | _, _ => none
  | .ireturn => match st, E.2.2.2.1 with
    | [.inl x], some .int => some (some (.inl x))
    | [.inl (.inl x)], some .boolean => if x = 0 ∨ x = 1 then some (some (.inl (.inl x))) else none
    | _, _ => none
  | .areturn => match st, E.2.2.2.1 with
    | [.inr (.inr (.inl (some a)))], some (.object _) => some (some (.inr (.inr (.inl (some a)))))
    | [.inr (.inr (.inl (some a)))], some (.array _) => some (some (.inr (.inr (.inl (some a)))))
    | _, _ => none
  | _ => none) else none
def amInv (P : mvP) (j : Nat) (i : Instr) (len : Nat) (st : List amV) (h : amH) : Option (Nat × List amV × List amV) := match i with
  | .invokestatic idx => match mvPi P j idx with
    | some (j', n, 100) => if n ≤ st.length ∧ len = 3 then some (j', (st.take n).reverse, st.drop n) else none
    | _ => none
  | .invokevirtual idx => match mvPi P j idx with
    | some (j', n, ci) => match st.drop n with
      | .inr (.inr (.inl (some a))) :: r => match h.2[a]? with
        | some (.inr (ci', _)) => if n ≤ st.length ∧ len = 3 ∧ ci' = ci ∧ ci < 100 then some (j', .inr (.inr (.inl (some a))) :: (st.take n).reverse, r) else none
        | _ => none
      | _ => none
    | _ => none
  | .invokespecial idx => match mvPi P j idx with
    | some (j', n, ci) => match st.drop n with
      | .inr (.inr (.inl (some a))) :: r => if n ≤ st.length ∧ len = 3 ∧ (ci = 101 ∨ ci = 102) ∧ mvPo P j idx = false then some (j', .inr (.inr (.inl (some a))) :: (st.take n).reverse, r) else none
      | _ => none
    | _ => none
  | _ => none
def amArgs : Nat → List amV → amL
  | _, [] => []
  | i, v :: t => (i, v) :: amArgs (i + 1) t
def amAdd (dc ds : Nat) (o : Option amO) : Option amO := o.map (fun q => (q.1, q.2.1, dc + q.2.2.1, ds + q.2.2.2))
def amDrop (lv : amL) (x : Nat) : amL := lv.filter (fun q => !(q.1 == x) && !(q.1 + 1 == x && amCat q.2 == 2))
def amRun (κ : Nat → Nat) (P : mvP) (X : amX) (B : amB) (dec : Nat → Nat → Option (Instr × Nat)) : Nat → Nat → Nat → Nat → amL → List amV → amH → Option amO
  | 0, _, _, _, _, _, _ => none
  | n + 1, d, j, pc, lv, st, h => match mvPm P j, dec j pc with
    | some E, some (i, len) => match amF κ i len pc E.2.2.1 lv st with
        | some (pc', lv', st') => amRun κ P X B dec n d j pc' lv' st' h
        | none => match amG P X j d i len pc st h with
          | some (pc', st', h', dc, ds) => amAdd dc ds (amRun κ P X B dec n d j pc' lv st' h')
          | none => match amFin E i len st with
            | some r => some (.inl r, h, 0, 0)
            | none => match amInv P j i len st h with
              | none => none
              | some (j', as, rest) => if as.all (fun v => decide (amCat v = 1)) = true ∧ (rest.map amCat).sum ≤ 8 then (match d with
                | 0 => none
                | d' + 1 => match (match B j' with
                    | some b => if 8 ≤ d' then b as h else none
                    | none => amRun κ P X B dec n d' j' 0 (amArgs 0 as) [] h) with
                  | none => none
                  | some (.inl r, h', dc, ds) => amAdd dc ds (amRun κ P X B dec n (d' + 1) j (pc + 3) lv (r.toList ++ rest) h')
                  | some (.inr ex, h', dc, ds) => match mvPh P j pc ex with
                    | none => if E.2.2.2.2 = [] then some (.inr ex, h', dc, ds) else none
                    | some (_, x, pc') => amAdd dc ds (amRun κ P X B dec n (d' + 1) j pc' (amDrop lv x) [] h')) else none
    | _, _ => none
def amCont (κ : Nat → Nat) (P : mvP) (X : amX) (B : amB) (dec : Nat → Nat → Option (Instr × Nat)) (n d' j pc : Nat) (lv : amL) (rest : List amV) (E : mvE) (o1 : amO) : Option amO := match o1 with
  | (.inl r, h', dc, ds) => amAdd dc ds (amRun κ P X B dec n (d' + 1) j (pc + 3) lv (r.toList ++ rest) h')
  | (.inr ex, h', dc, ds) => match mvPh P j pc ex with
    | none => if E.2.2.2.2 = [] then some (.inr ex, h', dc, ds) else none
    | some (_, x, pc') => amAdd dc ds (amRun κ P X B dec n (d' + 1) j pc' (amDrop lv x) [] h')
def mvCont (P : mvP) (n d' j pc : Nat) (lv : mvL) (rest : List mvV) (E : mvE) (o1 : mvO) : Option mvO := match o1 with
  | (.inl r, h', dc, ds) => mvAdd dc ds (mvRun P n (d' + 1) j (pc + 3) lv (r.toList ++ rest) h')
  | (.inr ex, h', dc, ds) => match mvPh P j pc ex with
    | none => if E.2.2.2.2 = [] then some (.inr ex, h', dc, ds) else none
    | some (_, x, pc') => mvAdd dc ds (mvRun P n (d' + 1) j pc' (mvDrop lv x) [] h')
section AMR
variable {ρ : Nat → Int32} {κ : Nat → Nat} {P : mvP} {X : amX} {B : amB} {dec : Nat → Nat → Option (Instr × Nat)} {i : Instr} {j d pc len : Nat} {st : List amV} {h h' : amH} {E : mvE}
theorem amFin_ok {v : Option amV} (hs : amFin E i len st = some v) : (∀ (a b c : Nat) (lv : mvL) (s' : List mvV), mvF i a b c lv s' = none) ∧ (∀ (a b c d : Nat) (s' : List mvV) (h9 : mvH), mvG P a b i c d s' h9 = none) ∧ mvFin E i len (st.map (amGv ρ)) = some (v.map (amGv ρ)) := by
  unfold amFin at hs
  split at hs
  · rename_i hlen
    subst hlen
    split at hs
    · split at hs
      · rename_i hE
        cases hs
        exact ⟨fun _ _ _ _ _ => rfl, fun _ _ _ _ _ _ => rfl, by simp only [mvFin, if_true, List.map_nil, hE, Option.map_none]⟩
      · cases hs
    · split at hs
      · rename_i hE
        cases hs
        exact ⟨fun _ _ _ _ _ => rfl, fun _ _ _ _ _ _ => rfl, by simp only [mvFin, if_true, List.map_nil, List.map_cons, amGv, hE, Option.map_some]⟩
      · rename_i hE
        split at hs
        · rename_i hx
          cases hs
          exact ⟨fun _ _ _ _ _ => rfl, fun _ _ _ _ _ _ => rfl, by simp only [mvFin, if_true, List.map_nil, List.map_cons, amGv, amGi, hE, hx, Option.map_some]⟩
        · cases hs
      · cases hs
    · split at hs
      · rename_i hE
        cases hs
        exact ⟨fun _ _ _ _ _ => rfl, fun _ _ _ _ _ _ => rfl, by simp only [mvFin, if_true, List.map_nil, List.map_cons, amGv, hE, Option.map_some]⟩
      · rename_i hE
        cases hs
        exact ⟨fun _ _ _ _ _ => rfl, fun _ _ _ _ _ _ => rfl, by simp only [mvFin, if_true, List.map_nil, List.map_cons, amGv, hE, Option.map_some]⟩
      · cases hs
    · cases hs
  · cases hs
theorem amInv_ok {j' : Nat} {as rest : List amV} (hs : amInv P j i len st h = some (j', as, rest)) : (∀ (a b c : Nat) (lv : mvL) (s' : List mvV), mvF i a b c lv s' = none) ∧ (∀ (b c d : Nat) (s' : List mvV) (h9 : mvH), mvG P j b i c d s' h9 = none) ∧ (∀ (a : Nat) (s' : List mvV), mvFin E i a s' = none) ∧ mvInv P j i len (st.map (amGv ρ)) (amGh ρ h) = some (j', as.map (amGv ρ), rest.map (amGv ρ)) := by
  have hf : ∀ (a : Nat) (s' : List mvV), (∀ k, mvFin E (.invokestatic k) a s' = none) ∧ (∀ k, mvFin E (.invokevirtual k) a s' = none) ∧ (∀ k, mvFin E (.invokespecial k) a s' = none) := by
    intro a s'
    refine ⟨fun k => ?_, fun k => ?_, fun k => ?_⟩ <;> (unfold mvFin; split <;> rfl)
  unfold amInv at hs
  split at hs
  · split at hs
    · rename_i hi
      split at hs
      · rename_i hn
        cases hs
        refine ⟨fun _ _ _ _ _ => rfl, fun _ _ _ _ _ => rfl, fun a s' => (hf a s').1 _, ?_⟩
        simp only [mvInv, hi, List.length_map, hn, and_self, if_true, List.map_reverse, List.map_take, List.map_drop]
      · cases hs
    · cases hs
  · split at hs
    · rename_i hi
      split at hs
      · rename_i hd
        split at hs
        · rename_i hc
          have e1 := amHat (ρ := ρ) hc
          simp only [amGc] at e1
          split at hs
          · rename_i hn
            cases hs
            refine ⟨fun _ _ _ _ _ => rfl, fun _ _ _ _ _ => rfl, fun a s' => (hf a s').2.1 _, ?_⟩
            have e2 := congrArg (List.map (amGv ρ)) hd
            rw [List.map_drop] at e2
            simp only [mvInv, hi, e2, List.map_cons, amGv, e1, List.length_map, hn.1, hn.2.1, hn.2.2.1, hn.2.2.2, and_self, if_true, List.map_reverse, List.map_take]
          · cases hs
        · cases hs
      · cases hs
    · cases hs
  · split at hs
    · rename_i hi
      split at hs
      · rename_i hd
        split at hs
        · rename_i hn
          cases hs
          refine ⟨fun _ _ _ _ _ => rfl, fun b c d s' h9 => ?_, fun a s' => (hf a s').2.2 _, ?_⟩
          · simp only [mvG, mvG1, mvG2, mvG3, mvG4]
            split
            · rw [if_neg (by rw [hn.2.2.2]; simp)]
            · rfl
          · have e2 := congrArg (List.map (amGv ρ)) hd
            rw [List.map_drop] at e2
            simp only [mvInv, hi, e2, List.map_cons, amGv, List.length_map, hn.1, hn.2.1, hn.2.2.1, and_self, if_true, List.map_reverse, List.map_take]
        · cases hs
      · cases hs
    · cases hs
  · cases hs
theorem amArgs_eq : ∀ (as : List amV) (k : Nat), mvArgs k (as.map (amGv ρ)) = amGl ρ (amArgs k as)
  | [], _ => rfl
  | v :: t, k => by
    simp only [List.map_cons, mvArgs, amArgs, amGl]
    rw [amArgs_eq t (k + 1)]
    rfl
theorem amDrop_eq (lv : amL) (x : Nat) : mvDrop (amGl ρ lv) x = amGl ρ (amDrop lv x) := by
  unfold mvDrop amDrop amGl
  rw [List.filter_map]
  congr 1
  apply List.filter_congr
  intro q _
  simp [Function.comp, amCat_eq]
theorem amOne_eq (as : List amV) : mvOne (as.map (amGv ρ)) = as.all (fun v => decide (amCat v = 1)) := by
  unfold mvOne
  rw [List.all_map]
  congr 1
  funext v
  simp [Function.comp, amCat_eq]
theorem amAdd_inv {dc ds : Nat} {x : Option amO} {o : amO} (h : amAdd dc ds x = some o) : ∃ o', x = some o' ∧ o = (o'.1, o'.2.1, dc + o'.2.2.1, ds + o'.2.2.2) := by
  obtain ⟨o', h1, h2⟩ := Option.map_eq_some_iff.mp h
  exact ⟨o', h1, h2.symm⟩
/-- what the machine with unknown ints comes to, the small machine comes to -/
theorem amRun_ok (hρ : ∀ i, amOk (κ i) (ρ i)) (hX : ∀ o q, X o = some q → mvPx P o = some (q.1, fun k => amGi ρ (q.2 k))) (hB : ∀ j b', B j = some b' → ∃ b, mvPb P j = some b ∧ ∀ as h o, b' as h = some o → b (as.map (amGv ρ)) (amGh ρ h) = some (amGo ρ o)) (hB0 : ∀ j, B j = none → mvPb P j = none)
    (hdec : ∀ j E pc q, mvPm P j = some E → dec j pc = some q → decode E.2.1 pc = .ok q) :
    ∀ (n d j pc : Nat) (lv : amL) (st : List amV) (h : amH) (o : amO), amRun κ P X B dec n d j pc lv st h = some o → mvRun P n d j pc (amGl ρ lv) (st.map (amGv ρ)) (amGh ρ h) = some (amGo ρ o) := by
  intro n
  induction n with
  | zero => intro d j pc lv st h o hr; cases hr
  | succ n ih =>
    intro d j pc lv st h o hr
    rw [amRun] at hr
    rw [mvRun]
    split at hr
    · rename_i E i len hE hq
      rw [hE]
      simp only
      rw [hdec j E pc _ hE hq]
      simp only
      split at hr
      · rename_i pc' lv' st' hs
        rw [amF_ok hρ hs]
        exact ih d j pc' lv' st' h o hr
      · split at hr
        · rename_i pc' st' h1 dc ds hs
          obtain ⟨a1, a2⟩ := amG_ok hX hs
          obtain ⟨o', ho, rfl⟩ := amAdd_inv hr
          rw [a1, a2]
          simp only
          rw [ih d j pc' lv st' h1 o' ho]
          rfl
        · split at hr
          · rename_i r hs
            obtain ⟨a1, a2, a3⟩ := amFin_ok (P := P) (ρ := ρ) hs
            cases hr
            rw [a1, a2, a3]
            rfl
          · split at hr
            · cases hr
            · rename_i j' as rest hs
              obtain ⟨a1, a2, a3, a4⟩ := amInv_ok (ρ := ρ) (E := E) hs
              rw [a1, a2, a3, a4]
              simp only
              split at hr
              · rename_i hc
                rw [if_pos ⟨by rw [amOne_eq]; exact hc.1, by rw [amSum_eq]; exact hc.2⟩]
                cases d with
                | zero => cases hr
                | succ d' =>
                  simp only at hr ⊢
                  have fin : ∀ o1, amCont κ P X B dec n d' j pc lv rest E o1 = some o → mvCont P n d' j pc (amGl ρ lv) (rest.map (amGv ρ)) E (amGo ρ o1) = some (amGo ρ o) := by
                    rintro ⟨v | ex, h1, dc, ds⟩ hr
                    · obtain ⟨o', ho, rfl⟩ := amAdd_inv hr
                      show mvAdd dc ds (mvRun P n (d' + 1) j (pc + 3) (amGl ρ lv) ((v.map (amGv ρ)).toList ++ rest.map (amGv ρ)) (amGh ρ h1)) = _
                      have e1 : (v.map (amGv ρ)).toList ++ rest.map (amGv ρ) = (v.toList ++ rest).map (amGv ρ) := by cases v <;> simp
                      rw [e1, ih (d' + 1) j (pc + 3) lv (v.toList ++ rest) h1 o' ho]
                      rfl
                    · show (match mvPh P j pc ex with
                        | none => if E.2.2.2.2 = [] then some ((Sum.inr ex : mvR), amGh ρ h1, dc, ds) else none
                        | some (_, x, pc') => mvAdd dc ds (mvRun P n (d' + 1) j pc' (mvDrop (amGl ρ lv) x) [] (amGh ρ h1))) = _
                      have hr : (match mvPh P j pc ex with
                        | none => if E.2.2.2.2 = [] then some ((Sum.inr ex : amR), h1, dc, ds) else none
                        | some (_, x, pc') => amAdd dc ds (amRun κ P X B dec n (d' + 1) j pc' (amDrop lv x) [] h1)) = some o := hr
                      cases hph : mvPh P j pc ex with
                      | none =>
                        rw [hph] at hr
                        simp only at hr ⊢
                        split at hr
                        · rename_i hh
                          cases hr
                          rw [if_pos hh]
                          rfl
                        · cases hr
                      | some q =>
                        obtain ⟨hp, x, pc'⟩ := q
                        rw [hph] at hr
                        simp only at hr ⊢
                        obtain ⟨o', ho, rfl⟩ := amAdd_inv hr
                        have k1 := ih (d' + 1) j pc' (amDrop lv x) [] h1 o' ho
                        rw [← amDrop_eq] at k1
                        simp only [List.map_nil] at k1
                        rw [k1]
                        rfl
                  cases hb : B j' with
                  | none =>
                    rw [hb] at hr
                    rw [hB0 j' hb]
                    simp only at hr ⊢
                    cases hM : amRun κ P X B dec n d' j' 0 (amArgs 0 as) [] h with
                    | none => rw [hM] at hr; cases hr
                    | some o1 =>
                      rw [hM] at hr
                      have k1 := ih d' j' 0 (amArgs 0 as) [] h o1 hM
                      rw [← amArgs_eq] at k1
                      simp only [List.map_nil] at k1
                      rw [k1]
                      have hr' : amCont κ P X B dec n d' j pc lv rest E o1 = some o := by
                        obtain ⟨v | ex, h1, dc, ds⟩ := o1 <;> exact hr
                      have k2 := fin o1 hr'
                      obtain ⟨v | ex, h1, dc, ds⟩ := o1 <;> exact k2
                  | some b' =>
                    rw [hb] at hr
                    obtain ⟨b, hb1, hb2⟩ := hB j' b' hb
                    rw [hb1]
                    simp only at hr ⊢
                    by_cases h8 : 8 ≤ d'
                    · rw [if_pos h8] at hr ⊢
                      cases hM : b' as h with
                      | none => rw [hM] at hr; cases hr
                      | some o1 =>
                        rw [hM] at hr
                        rw [hb2 as h o1 hM]
                        have hr' : amCont κ P X B dec n d' j pc lv rest E o1 = some o := by
                          obtain ⟨v | ex, h1, dc, ds⟩ := o1 <;> exact hr
                        have k2 := fin o1 hr'
                        obtain ⟨v | ex, h1, dc, ds⟩ := o1 <;> exact k2
                    · rw [if_neg h8] at hr
                      cases hr
              · cases hr
    · cases hr
end AMR
