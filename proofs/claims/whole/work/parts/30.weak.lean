/-! More locals do no harm: a run that ends so with some, ends so with more. -/
def isLd (i : Instr) : Bool := match i with
  | .iload_n _ => true
  | .iload _ => true
  | .aload_n _ => true
  | .aload _ => true
  | .iinc _ _ => true
  | _ => false
def lvOne (a : mvL) : Prop := ∀ q ∈ a, mvCat q.2 = 1
def lvLe (a b : mvL) : Prop := lvOne a ∧ lvOne b ∧ ∀ k v, mvLd a k = some v → mvLd b k = some v
theorem isLd_Cp {P : mvP} {i : Instr} (hi : isLd i = true) {j len : Nat} {st : List mvV} {h : mvH} : mvCp P j i len st h = none := by
  unfold mvCp mvMx mvCq
  cases i <;> first | rfl | cases hi
theorem isLd_G {P : mvP} {i : Instr} (hi : isLd i = true) (j d len pc : Nat) (st : List mvV) (h : mvH) (E : mvE) : mvG P j d i len pc st h = none ∧ mvFin E i len st = none ∧ mvInv P j i len st h = none := by
  unfold isLd at hi
  split at hi
  · exact ⟨rfl, by unfold mvFin; split <;> rfl, rfl⟩
  · exact ⟨rfl, by unfold mvFin; split <;> rfl, rfl⟩
  · exact ⟨rfl, by unfold mvFin; split <;> rfl, rfl⟩
  · exact ⟨rfl, by unfold mvFin; split <;> rfl, rfl⟩
  · exact ⟨rfl, by unfold mvFin; split <;> rfl, rfl⟩
  · cases hi
theorem isLd_F1 {i : Instr} (hi : isLd i = false) (a b : mvL) : mvF1 i a = mvF1 i b := by
  cases i <;> first | rfl | cases hi
theorem isLd_F2 {i : Instr} (hi : isLd i = false) (a b : mvL) (st : List mvV) : mvF2 i a st = mvF2 i b st := by
  cases i <;> first | rfl | cases hi
theorem mvLd_cons (q : Nat × mvV) (a : mvL) (k : Nat) : mvLd (q :: a) k = if q.1 = k then some q.2 else mvLd a k := by
  unfold mvLd
  rw [List.find?_cons]
  by_cases e : q.1 = k
  · simp [e]
  · have e1 : (q.1 == k) = false := by simp [e]
    rw [e1, if_neg e]
theorem mvLd_flt {a : mvL} (ha : lvOne a) (k k' : Nat) (hk : k' ≠ k) : mvLd (a.filter (fun q => !(q.1 == k) && !(q.1 + 1 == k && mvCat q.2 == 2))) k' = mvLd a k' := by
  induction a with
  | nil => rfl
  | cons q a ih =>
    have ih := ih (fun x hx => ha x (List.mem_cons_of_mem _ hx))
    have hq := ha q List.mem_cons_self
    rw [List.filter_cons]
    by_cases e : q.1 = k
    · have e1 : (!(q.1 == k) && !(q.1 + 1 == k && mvCat q.2 == 2)) = false := by simp [e]
      rw [e1, if_neg Bool.false_ne_true, ih, mvLd_cons, if_neg (by rw [e]; exact fun z => hk z.symm)]
    · have e1 : (!(q.1 == k) && !(q.1 + 1 == k && mvCat q.2 == 2)) = true := by simp [e, hq]
      rw [e1, if_pos rfl, mvLd_cons, mvLd_cons, ih]
theorem mvLd_sv {a : mvL} (ha : lvOne a) (k k' : Nat) (v : mvV) : mvLd (mvSv a k v) k' = if k = k' then some v else mvLd a k' := by
  unfold mvSv
  rw [mvLd_cons]
  by_cases e : k = k'
  · rw [if_pos e, if_pos e]
  · rw [if_neg e, if_neg e]
    exact mvLd_flt ha k k' (fun z => e z.symm)
theorem lvOne_flt {a : mvL} (ha : lvOne a) (f : Nat × mvV → Bool) : lvOne (a.filter f) := fun q hq => ha q (List.mem_filter.mp hq).1
theorem lvOne_sv {a : mvL} (ha : lvOne a) (k : Nat) {v : mvV} (hv : mvCat v = 1) : lvOne (mvSv a k v) := by
  intro q hq
  unfold mvSv at hq
  rcases List.mem_cons.mp hq with rfl | h
  · exact hv
  · exact ha q (List.mem_filter.mp h).1
theorem lvLe_sv {a b : mvL} (h : lvLe a b) (k : Nat) {v : mvV} (hv : mvCat v = 1) : lvLe (mvSv a k v) (mvSv b k v) := by
  refine ⟨lvOne_sv h.1 k hv, lvOne_sv h.2.1 k hv, fun k' w hw => ?_⟩
  rw [mvLd_sv h.1] at hw
  rw [mvLd_sv h.2.1]
  split at hw
  · rename_i e
    rw [if_pos e]
    exact hw
  · rename_i e
    rw [if_neg e]
    exact h.2.2 k' w hw
theorem lvLe_drop {a b : mvL} (h : lvLe a b) (x : Nat) : lvLe (mvDrop a x) (mvDrop b x) := by
  have hx : ∀ {c : mvL} (w : mvV), lvOne c → mvLd (mvDrop c x) x ≠ some w := by
    intro c w hc hq
    unfold mvLd mvDrop at hq
    obtain ⟨q, hq1, hq2⟩ := Option.map_eq_some_iff.mp hq
    have h1 := List.mem_of_find?_eq_some hq1
    have h2 := List.find?_some hq1
    have h3 := (List.mem_filter.mp h1).2
    simp only [beq_iff_eq] at h2
    simp [h2] at h3
  refine ⟨lvOne_flt h.1 _, lvOne_flt h.2.1 _, fun k' w hw => ?_⟩
  by_cases e : k' = x
  · subst e
    exact absurd hw (hx w h.1)
  · have e1 : mvLd (mvDrop a x) k' = mvLd a k' := mvLd_flt h.1 x k' e
    have e2 : mvLd (mvDrop b x) k' = mvLd b k' := mvLd_flt h.2.1 x k' e
    rw [e1] at hw
    rw [e2]
    exact h.2.2 k' w hw
theorem mvF1_le {i : Instr} {a b : mvL} (h : lvLe a b) {q : mvV × Nat} (hs : mvF1 i a = some q) : mvF1 i b = some q := by
  by_cases hi : isLd i = false
  · rw [isLd_F1 hi b a]
    exact hs
  · unfold mvF1 at hs ⊢
    split at hs
    · exact hs
    · exact hs
    · exact hs
    · exact hs
    · rename_i k
      split at hs
      · rename_i x hx
        rw [h.2.2 _ _ hx]
        exact hs
      · cases hs
    · rename_i k
      split at hs
      · rename_i x hx
        rw [h.2.2 _ _ hx]
        exact hs
      · cases hs
    · rename_i k
      split at hs
      · rename_i x hx
        simp only [h.2.2 _ _ hx]
        exact hs
      · cases hs
    · rename_i k
      split at hs
      · rename_i x hx
        simp only [h.2.2 _ _ hx]
        exact hs
      · cases hs
    · cases hs
theorem mvF2_le {i : Instr} {a b : mvL} (h : lvLe a b) {st : List mvV} {q : Nat × mvV × List mvV × Nat} (hs : mvF2 i a st = some q) : mvF2 i b st = some q ∧ mvCat q.2.1 = 1 := by
  have hA : ∀ v : mvV, mvIsA v = true → mvCat v = 1 := by
    intro v hv
    rcases v with x | x | (_ | k) | o
    · rfl
    · cases hv
    · rfl
    · rfl
    · rfl
  unfold mvF2 at hs ⊢
  split at hs
  · split at hs
    · cases hs; exact ⟨rfl, rfl⟩
    · cases hs
  · split at hs
    · cases hs; exact ⟨rfl, rfl⟩
    · cases hs
  · split at hs
    · split at hs
      · rename_i hv
        cases hs
        exact ⟨if_pos hv, hA _ hv⟩
      · cases hs
    · cases hs
  · split at hs
    · split at hs
      · rename_i hv
        cases hs
        exact ⟨if_pos hv, hA _ hv⟩
      · cases hs
    · cases hs
  · split at hs
    · rename_i x hx
      simp only [h.2.2 _ _ hx]
      cases hs
      exact ⟨rfl, rfl⟩
    · cases hs
  · cases hs
theorem mvF1_none {i : Instr} {a b : mvL} {len pc nL : Nat} {st : List mvV} {q : Nat × mvL × List mvV} (h1 : mvF1 i a = none) (hs : mvF i len pc nL a st = some q) : mvF1 i b = none := by
  by_cases hi : isLd i = false
  · rw [isLd_F1 hi b a]
    exact h1
  · have hi : isLd i = true := by simpa using hi
    unfold mvF at hs
    rw [h1] at hs
    unfold isLd at hi
    split at hi
    · simp [mvF2, mvA2, mvF3, mvF4, mvF5] at hs
    · simp [mvF2, mvA2, mvF3, mvF4, mvF5] at hs
    · simp [mvF2, mvA2, mvF3, mvF4, mvF5] at hs
    · simp [mvF2, mvA2, mvF3, mvF4, mvF5] at hs
    · rfl
    · cases hi
theorem mvF2_none {i : Instr} {a b : mvL} {len pc nL : Nat} {st : List mvV} {q : Nat × mvL × List mvV} (h1 : mvF1 i a = none) (h2 : mvF2 i a st = none) (hs : mvF i len pc nL a st = some q) : mvF2 i b st = none := by
  by_cases hi : isLd i = false
  · rw [isLd_F2 hi b a]
    exact h2
  · have hi : isLd i = true := by simpa using hi
    unfold mvF at hs
    rw [h1] at hs
    simp only [h2] at hs
    unfold isLd at hi
    split at hi
    · rfl
    · rfl
    · rfl
    · rfl
    · simp [mvA2, mvF3, mvF4, mvF5] at hs
    · cases hi
theorem mvF_le {i : Instr} {a b : mvL} (h : lvLe a b) {len pc nL pc' : Nat} {st st' : List mvV} {lv' : mvL} (hs : mvF i len pc nL a st = some (pc', lv', st')) : ∃ lv2, mvF i len pc nL b st = some (pc', lv2, st') ∧ lvLe lv' lv2 := by
  have hs0 := hs
  cases h1 : mvF1 i a with
  | some q =>
    have h1b := mvF1_le h h1
    unfold mvF at hs ⊢
    rw [h1] at hs
    rw [h1b]
    simp only at hs ⊢
    split at hs
    · rename_i hl
      cases hs
      exact ⟨b, if_pos hl, h⟩
    · cases hs
  | none =>
    have h1b := mvF1_none (b := b) h1 hs
    unfold mvF at hs ⊢
    rw [h1] at hs
    rw [h1b]
    simp only at hs ⊢
    cases h2 : mvF2 i a st with
    | some q =>
      have h2b := mvF2_le h h2
      rw [h2] at hs
      rw [h2b.1]
      simp only at hs ⊢
      split at hs
      · rename_i hl
        cases hs
        exact ⟨_, if_pos hl, lvLe_sv h _ h2b.2⟩
      · cases hs
    | none =>
      have h2b := mvF2_none (b := b) h1 h2 hs0
      rw [h2] at hs
      rw [h2b]
      simp only at hs ⊢
      cases h3 : mvA2 i with
      | some f =>
        rw [h3] at hs
        simp only at hs ⊢
        split at hs
        · split at hs
          · rename_i hl
            cases hs
            exact ⟨b, by simp [hl], h⟩
          · cases hs
        · cases hs
      | none =>
        rw [h3] at hs
        simp only at hs ⊢
        cases h4 : mvF3 i st with
        | some q =>
          rw [h4] at hs
          simp only at hs ⊢
          split at hs
          · rename_i hl
            cases hs
            exact ⟨b, if_pos hl, h⟩
          · cases hs
        | none =>
          rw [h4] at hs
          simp only at hs ⊢
          cases h5 : mvF4 i pc st with
          | some q =>
            rw [h5] at hs
            simp only at hs ⊢
            split at hs
            · rename_i hl
              cases hs
              exact ⟨b, if_pos hl, h⟩
            · cases hs
          | none =>
            rw [h5] at hs
            simp only at hs ⊢
            cases h6 : mvF5 i pc st with
            | some q =>
              rw [h6] at hs
              cases hs
              exact ⟨b, rfl, h⟩
            | none =>
              rw [h6] at hs
              cases hs
theorem mvF_no {i : Instr} {a b : mvL} (hi : isLd i = false) {len pc nL : Nat} {st : List mvV} (hs : mvF i len pc nL a st = none) : mvF i len pc nL b st = none := by
  unfold mvF at hs ⊢
  rw [isLd_F1 hi b a, isLd_F2 hi b a]
  cases h1 : mvF1 i a with
  | some q =>
    rw [h1] at hs
    simp only at hs ⊢
    split at hs
    · cases hs
    · rename_i hl
      exact if_neg hl
  | none =>
    rw [h1] at hs
    simp only at hs ⊢
    cases h2 : mvF2 i a st with
    | some q =>
      rw [h2] at hs
      simp only at hs ⊢
      split at hs
      · cases hs
      · rename_i hl
        exact if_neg hl
    | none =>
      rw [h2] at hs
      simp only at hs ⊢
      cases h3 : mvA2 i with
      | some f =>
        rw [h3] at hs
        simp only at hs ⊢
        split at hs
        · split at hs
          · cases hs
          · rename_i hl
            exact if_neg hl
        · rfl
      | none =>
        rw [h3] at hs
        simp only at hs ⊢
        cases h4 : mvF3 i st with
        | some q =>
          rw [h4] at hs
          simp only at hs ⊢
          split at hs
          · cases hs
          · rename_i hl
            exact if_neg hl
        | none =>
          rw [h4] at hs
          simp only at hs ⊢
          cases h5 : mvF4 i pc st with
          | some q =>
            rw [h5] at hs
            simp only at hs ⊢
            split at hs
            · cases hs
            · rename_i hl
              exact if_neg hl
          | none =>
            rw [h5] at hs
            simp only at hs ⊢
            cases h6 : mvF5 i pc st with
            | some q =>
              rw [h6] at hs
              cases hs
            | none => rfl
theorem mvRun_le {P : mvP} : ∀ (n d j pc : Nat) (a b : mvL) (st : List mvV) (h : mvH) (o : mvO), lvLe a b → mvRun P n d j pc a st h = some o → mvRun P n d j pc b st h = some o := by
  intro n
  induction n with
  | zero => intro d j pc a b st h o _ hs; cases hs
  | succ n ih =>
    intro d j pc a b st h o hle hs
    rw [mvRun] at hs ⊢
    cases hE : mvPm P j with
    | none => rw [hE] at hs; cases hs
    | some E =>
      rw [hE] at hs
      simp only at hs ⊢
      cases hdq : decode E.2.1 pc with
      | error z => rw [hdq] at hs; cases hs
      | ok q =>
        rw [hdq] at hs
        simp only at hs ⊢
        cases hF : mvF q.1 q.2 pc E.2.2.1 a st with
        | some w =>
          obtain ⟨lv2, e1, e2⟩ := mvF_le hle hF
          rw [hF] at hs
          rw [e1]
          exact ih d j w.1 w.2.1 lv2 w.2.2 h o e2 hs
        | none =>
          rw [hF] at hs
          simp only at hs
          by_cases hi : isLd q.1 = false
          · rw [mvF_no (b := b) hi hF]
            simp only
            cases hG : mvG P j d q.1 q.2 pc st h with
            | some w =>
              rw [hG] at hs
              simp only at hs ⊢
              unfold mvAdd at hs ⊢
              obtain ⟨o1, h1, h2⟩ := Option.map_eq_some_iff.mp hs
              rw [ih d j w.1 a b w.2.1 w.2.2.1 o1 hle h1]
              exact congrArg some h2
            | none =>
              rw [hG] at hs
              simp only at hs ⊢
              cases hR : mvFin E q.1 q.2 st with
              | some w =>
                rw [hR] at hs
                exact hs
              | none =>
                rw [hR] at hs
                simp only at hs ⊢
                cases hI : mvInv P j q.1 q.2 st h with
                | none =>
                  rw [hI] at hs
                  simp only at hs ⊢
                  cases d with
                  | zero => cases hs
                  | succ d' =>
                    simp only at hs ⊢
                    cases hC : mvCp P j q.1 q.2 st h with
                    | none => rw [hC] at hs; cases hs
                    | some w =>
                      rw [hC] at hs
                      simp only at hs ⊢
                      exact ih (d' + 1) j (pc + 3) a b w.1 w.2 o hle hs
                | some w =>
                  rw [hI] at hs
                  simp only at hs ⊢
                  split at hs
                  · rename_i hO
                    rw [if_pos hO]
                    cases d with
                    | zero => cases hs
                    | succ d' =>
                      simp only at hs ⊢
                      split at hs
                      · cases hs
                      · rename_i r h' dc ds hb
                        unfold mvAdd at hs ⊢
                        obtain ⟨o1, h1, h2⟩ := Option.map_eq_some_iff.mp hs
                        rw [ih (d' + 1) j (pc + 3) a b (r.toList ++ w.2.2) h' o1 hle h1]
                        exact congrArg some h2
                      · rename_i ex h' dc ds hb
                        split at hs
                        · exact hs
                        · rename_i z x pc' hph
                          unfold mvAdd at hs ⊢
                          obtain ⟨o1, h1, h2⟩ := Option.map_eq_some_iff.mp hs
                          rw [ih (d' + 1) j pc' (mvDrop a x) (mvDrop b x) [] h' o1 (lvLe_drop hle x) h1]
                          exact congrArg some h2
                  · cases hs
          · have hi : isLd q.1 = true := by simpa using hi
            obtain ⟨g1, g2, g3⟩ := isLd_G (P := P) hi j d q.2 pc st h E
            rw [g1] at hs
            simp only at hs
            rw [g2] at hs
            simp only at hs
            rw [g3] at hs
            simp only at hs
            rw [isLd_Cp hi] at hs
            cases d <;> cases hs
/-- the locals that matter at a place -/
theorem ev_lv {L : Nat} {xs : Nat → Int32} {D j pc : Nat} {a b : mvL} {st : List mvV} {h : mvH} {o : mvO} (hle : lvLe a b) (k : ev L xs D j pc a st h o) : ev L xs D j pc b st h o := by
  obtain ⟨n0, k⟩ := k
  exact ⟨n0, fun n hn d hd => mvRun_le n d j pc a b st h o hle (k n hn d hd)⟩
