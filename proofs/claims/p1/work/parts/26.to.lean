/-! A run up to a place. -/
def amAd2 (dc ds : Nat) (o : Option (Nat × amL × List amV × amH × Nat × Nat)) : Option (Nat × amL × List amV × amH × Nat × Nat) := o.map (fun q => (q.1, q.2.1, q.2.2.1, q.2.2.2.1, dc + q.2.2.2.2.1, ds + q.2.2.2.2.2))
def amTo (κ : Nat → Nat) (P : mvP) (X : amX) (B : amB) (dec : Nat → Nat → Option (Instr × Nat)) (stop : Nat) : Nat → Nat → Nat → Nat → amL → List amV → amH → Option (Nat × amL × List amV × amH × Nat × Nat)
  | 0, _, _, _, _, _, _ => none
  | n + 1, d, j, pc, lv, st, h => if pc = stop then some (n + 1, lv, st, h, 0, 0) else match mvPm P j, dec j pc with
    | some E, some (i, len) => match amF κ i len pc E.2.2.1 lv st with
        | some (pc', lv', st') => amTo κ P X B dec stop n d j pc' lv' st' h
        | none => match amG P X j d i len pc st h with
          | some (pc', st', h', dc, ds) => amAd2 dc ds (amTo κ P X B dec stop n d j pc' lv st' h')
          | none => match amFin E i len st with
            | some _ => none
            | none => match amInv P j i len st h with
              | none => none
              | some (j', as, rest) => if as.all (fun v => decide (amCat v = 1)) = true ∧ (rest.map amCat).sum ≤ 8 then (match d with
                | 0 => none
                | d' + 1 => match (match B j' with
                    | some b => if 8 ≤ d' then b as h else none
                    | none => amRun κ P X B dec n d' j' 0 (amArgs 0 as) [] h) with
                  | some (.inl r, h', dc, ds) => amAd2 dc ds (amTo κ P X B dec stop n (d' + 1) j (pc + 3) lv (r.toList ++ rest) h')
                  | _ => none) else none
    | _, _ => none
theorem amAd2_inv {dc ds : Nat} {x : Option (Nat × amL × List amV × amH × Nat × Nat)} {n' : Nat} {lv' : amL} {st' : List amV} {h' : amH} {c s : Nat} (h : amAd2 dc ds x = some (n', lv', st', h', c, s)) : ∃ c1 s1, x = some (n', lv', st', h', c1, s1) ∧ c = dc + c1 ∧ s = ds + s1 := by
  obtain ⟨o', h1, h2⟩ := Option.map_eq_some_iff.mp h
  obtain ⟨a1, a2, a3, a4, a5, a6⟩ := o'
  simp only [Prod.mk.injEq] at h2
  obtain ⟨rfl, rfl, rfl, rfl, rfl, rfl⟩ := h2
  exact ⟨a5, a6, h1, rfl, rfl⟩
theorem mvAdd_add {a b c d : Nat} {x : Option mvO} : mvAdd a b (mvAdd c d x) = mvAdd (a + c) (b + d) x := by
  cases x with
  | none => rfl
  | some q => simp [mvAdd, Nat.add_assoc]
theorem mvAdd_0 {x : Option mvO} : mvAdd 0 0 x = x := by
  cases x with
  | none => rfl
  | some q => simp [mvAdd]
section AMT
variable {ρ : Nat → Int32} {κ : Nat → Nat} {P : mvP} {X : amX} {B : amB} {dec : Nat → Nat → Option (Instr × Nat)} {stop : Nat}
theorem amTo_ok (hρ : ∀ i, amOk (κ i) (ρ i)) (hX : ∀ o q, X o = some q → mvPx P o = some (q.1, fun k => amGi ρ (q.2 k))) (hB : ∀ j b', B j = some b' → ∃ b, mvPb P j = some b ∧ ∀ as h o, b' as h = some o → b (as.map (amGv ρ)) (amGh ρ h) = some (amGo ρ o)) (hB0 : ∀ j, B j = none → mvPb P j = none)
    (hdec : ∀ j E pc q, mvPm P j = some E → dec j pc = some q → decode E.2.1 pc = .ok q) :
    ∀ (n d j pc : Nat) (lv : amL) (st : List amV) (h : amH) (n' : Nat) (lv' : amL) (st' : List amV) (h' : amH) (dc ds : Nat), amTo κ P X B dec stop n d j pc lv st h = some (n', lv', st', h', dc, ds) → mvRun P n d j pc (amGl ρ lv) (st.map (amGv ρ)) (amGh ρ h) = mvAdd dc ds (mvRun P n' d j stop (amGl ρ lv') (st'.map (amGv ρ)) (amGh ρ h')) := by
  intro n
  induction n with
  | zero => intro d j pc lv st h n' lv' st' h' dc ds hr; cases hr
  | succ n ih =>
    intro d j pc lv st h n' lv' st' h' dc ds hr
    rw [amTo] at hr
    by_cases hp : pc = stop
    · rw [if_pos hp] at hr
      cases hr
      subst hp
      exact mvAdd_0.symm
    · rw [if_neg hp] at hr
      rw [mvRun]
      split at hr
      · rename_i E i len hE hq
        rw [hE]
        simp only
        rw [hdec j E pc _ hE hq]
        simp only
        split at hr
        · rename_i pc1 lv1 st1 hs
          rw [amF_ok hρ hs]
          exact ih _ _ _ _ _ _ _ _ _ _ _ _ hr
        · split at hr
          · rename_i pc1 st1 h1 dc1 ds1 hs
            obtain ⟨a1, a2⟩ := amG_ok hX hs
            obtain ⟨c1, s1, e1, rfl, rfl⟩ := amAd2_inv hr
            rw [a1, a2]
            simp only
            rw [ih _ _ _ _ _ _ _ _ _ _ _ _ e1, mvAdd_add]
          · split at hr
            · cases hr
            · split at hr
              · cases hr
              · rename_i j1 as rest hs
                obtain ⟨a1, a2, a3, a4⟩ := amInv_ok (ρ := ρ) (E := E) hs
                rw [a1, a2, a3, a4]
                simp only
                split at hr
                · rename_i hc
                  rw [if_pos ⟨by rw [amOne_eq]; exact hc.1, by rw [amSum_eq]; exact hc.2⟩]
                  cases d with
                  | zero => cases hr
                  | succ d' =>
                    simp only at hr ⊢
                    have fin : ∀ (r : Option amV) (h1 : amH) (dc1 ds1 : Nat), amAd2 dc1 ds1 (amTo κ P X B dec stop n (d' + 1) j (pc + 3) lv (r.toList ++ rest) h1) = some (n', lv', st', h', dc, ds) → mvAdd dc1 ds1 (mvRun P n (d' + 1) j (pc + 3) (amGl ρ lv) ((r.map (amGv ρ)).toList ++ rest.map (amGv ρ)) (amGh ρ h1)) = mvAdd dc ds (mvRun P n' (d' + 1) j stop (amGl ρ lv') (st'.map (amGv ρ)) (amGh ρ h')) := by
                      intro r h1 dc1 ds1 hr
                      obtain ⟨c1, s1, e1, rfl, rfl⟩ := amAd2_inv hr
                      have e2 : (r.map (amGv ρ)).toList ++ rest.map (amGv ρ) = (r.toList ++ rest).map (amGv ρ) := by cases r <;> simp
                      rw [e2, ih _ _ _ _ _ _ _ _ _ _ _ _ e1, mvAdd_add]
                    cases hb : B j1 with
                    | none =>
                      rw [hb] at hr
                      rw [hB0 j1 hb]
                      simp only at hr ⊢
                      cases hM : amRun κ P X B dec n d' j1 0 (amArgs 0 as) [] h with
                      | none => rw [hM] at hr; cases hr
                      | some o1 =>
                        rw [hM] at hr
                        have k1 := amRun_ok hρ hX hB hB0 hdec n d' j1 0 (amArgs 0 as) [] h o1 hM
                        rw [← amArgs_eq] at k1
                        simp only [List.map_nil] at k1
                        rw [k1]
                        obtain ⟨v | ex, h1, dc1, ds1⟩ := o1
                        · exact fin v h1 dc1 ds1 hr
                        · cases hr
                    | some b' =>
                      rw [hb] at hr
                      obtain ⟨b, hb1, hb2⟩ := hB j1 b' hb
                      rw [hb1]
                      simp only at hr ⊢
                      by_cases h8 : 8 ≤ d'
                      · rw [if_pos h8] at hr ⊢
                        cases hM : b' as h with
                        | none => rw [hM] at hr; cases hr
                        | some o1 =>
                          rw [hM] at hr
                          rw [hb2 as h o1 hM]
                          obtain ⟨v | ex, h1, dc1, ds1⟩ := o1
                          · exact fin v h1 dc1 ds1 hr
                          · cases hr
                      · rw [if_neg h8] at hr
                        cases hr
                · cases hr
      · cases hr
end AMT
def dqI : DecidableEq amI := fun a b => (inferInstance : Decidable ((a : Int32 ⊕ Nat) = b))
def dqV : DecidableEq amV := @instDecidableEqSum _ _ dqI inferInstance
def dqC : DecidableEq amC := @instDecidableEqSum _ _ (@instDecidableEqProd _ _ inferInstance (@instDecidableEqProd _ _ inferInstance (@instDecidableEqSum _ _ (@instDecidableEqList _ (@instDecidableEqProd _ _ inferInstance dqI)) inferInstance))) (@instDecidableEqProd _ _ inferInstance (@instDecidableEqList _ dqV))
def dqT : DecidableEq (Nat × amL × List amV × amH × Nat × Nat) := @instDecidableEqProd _ _ inferInstance (@instDecidableEqProd _ _ (@instDecidableEqList _ (@instDecidableEqProd _ _ inferInstance dqV)) (@instDecidableEqProd _ _ (@instDecidableEqList _ dqV) (@instDecidableEqProd _ _ (@instDecidableEqProd _ _ inferInstance (@instDecidableEqList _ dqC)) inferInstance)))
def amSame (x : Option (Nat × amL × List amV × amH × Nat × Nat)) (y : Nat × amL × List amV × amH × Nat × Nat) : Bool := match x with
  | some q => @decide (q = y) (dqT q y)
  | none => false
theorem amSame_ok {x : Option (Nat × amL × List amV × amH × Nat × Nat)} {y : Nat × amL × List amV × amH × Nat × Nat} (h : amSame x y = true) : x = some y := by
  unfold amSame at h
  split at h
  · rename_i q
    rw [@of_decide_eq_true _ (dqT q y) h]
  · cases h
