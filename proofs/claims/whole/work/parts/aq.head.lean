/-! The run to the loop's head, with more turns. -/
section MORE
variable {κ : Nat → Nat} {P : mvP} {X : amX} {B : amB} {dec : Nat → Nat → Option (Instr × Nat)} {stop : Nat}
theorem amRun_more (k : Nat) : ∀ (n d j pc : Nat) (lv : amL) (st : List amV) (h : amH) (o : amO), amRun κ P X B dec n d j pc lv st h = some o → amRun κ P X B dec (n + k) d j pc lv st h = some o := by
  intro n
  induction n with
  | zero => intro d j pc lv st h o hr; cases hr
  | succ n ih =>
    intro d j pc lv st h o hr
    have ad : ∀ (dc ds d j pc : Nat) (lv : amL) (st : List amV) (h : amH) (o : amO), amAdd dc ds (amRun κ P X B dec n d j pc lv st h) = some o → amAdd dc ds (amRun κ P X B dec (n + k) d j pc lv st h) = some o := fun dc ds d j pc lv st h o q => by
      cases e : amRun κ P X B dec n d j pc lv st h with
      | none => rw [e] at q; cases q
      | some y => rw [e] at q; rw [ih _ _ _ _ _ _ _ e]; exact q
    rw [Nat.succ_add]
    rw [amRun] at hr ⊢
    split at hr
    · rename_i E i len hE hq
      try rw [hE, hq]
      try simp only
      split at hr
      · rename_i pc' lv' st' hF
        try rw [hF]
        try simp only
        exact ih _ _ _ _ _ _ _ hr
      · rename_i hF
        try rw [hF]
        try simp only
        split at hr
        · rename_i hG
          try rw [hG]
          try simp only
          exact ad _ _ _ _ _ _ _ _ _ hr
        · rename_i hG
          try rw [hG]
          try simp only
          split at hr
          · rename_i hf
            try rw [hf]
            exact hr
          · rename_i hf
            try rw [hf]
            try simp only
            split at hr
            · cases hr
            · rename_i j' as rest hi
              try rw [hi]
              try simp only
              split at hr
              · rename_i hc
                try rw [if_pos hc]
                cases d with
                | zero => cases hr
                | succ d' =>
                  simp only at hr ⊢
                  have go : ∀ q : Option amO, (match q with
                      | none => none
                      | some (.inl r, h', dc, ds) => amAdd dc ds (amRun κ P X B dec n (d' + 1) j (pc + 3) lv (r.toList ++ rest) h')
                      | some (.inr ex, h', dc, ds) => match mvPh P j pc ex with
                        | none => if E.2.2.2.2 = [] then some (.inr ex, h', dc, ds) else none
                        | some (_, x, pc') => amAdd dc ds (amRun κ P X B dec n (d' + 1) j pc' (amDrop lv x) [] h')) = some o → (match q with
                      | none => none
                      | some (.inl r, h', dc, ds) => amAdd dc ds (amRun κ P X B dec (n + k) (d' + 1) j (pc + 3) lv (r.toList ++ rest) h')
                      | some (.inr ex, h', dc, ds) => match mvPh P j pc ex with
                        | none => if E.2.2.2.2 = [] then some (.inr ex, h', dc, ds) else none
                        | some (_, x, pc') => amAdd dc ds (amRun κ P X B dec (n + k) (d' + 1) j pc' (amDrop lv x) [] h')) = some o := fun q hq2 => by
                    match q, hq2 with
                    | none, hq2 => cases hq2
                    | some (.inl r, h', dc, ds), hq2 => exact ad _ _ _ _ _ _ _ _ _ hq2
                    | some (.inr ex, h', dc, ds), hq2 =>
                      simp only at hq2 ⊢
                      cases e : mvPh P j pc ex with
                      | none => rw [e] at hq2; exact hq2
                      | some y =>
                        rw [e] at hq2
                        obtain ⟨y1, y2, y3⟩ := y
                        exact ad _ _ _ _ _ _ _ _ _ hq2
                  cases hb : B j' with
                  | some b =>
                    rw [hb] at hr
                    exact go _ hr
                  | none =>
                    rw [hb] at hr
                    simp only at hr ⊢
                    cases e : amRun κ P X B dec n d' j' 0 (amArgs 0 as) [] h with
                    | none => rw [e] at hr; cases hr
                    | some y =>
                      rw [e] at hr
                      rw [ih _ _ _ _ _ _ _ e]
                      exact go _ hr
              · cases hr
    · cases hr
theorem amTo_more (k : Nat) : ∀ (n d j pc : Nat) (lv : amL) (st : List amV) (h : amH) (n' : Nat) (q : amL × List amV × amH × Nat × Nat), amTo κ P X B dec stop n d j pc lv st h = some (n', q) → amTo κ P X B dec stop (n + k) d j pc lv st h = some (n' + k, q) := by
  intro n
  induction n with
  | zero => intro d j pc lv st h n' q hr; cases hr
  | succ n ih =>
    intro d j pc lv st h n' q hr
    have ad : ∀ (dc ds d j pc : Nat) (lv : amL) (st : List amV) (h : amH) (n' : Nat) (q : amL × List amV × amH × Nat × Nat), amAd2 dc ds (amTo κ P X B dec stop n d j pc lv st h) = some (n', q) → amAd2 dc ds (amTo κ P X B dec stop (n + k) d j pc lv st h) = some (n' + k, q) := fun dc ds d j pc lv st h n' q hq => by
      cases e : amTo κ P X B dec stop n d j pc lv st h with
      | none => rw [e] at hq; cases hq
      | some y =>
        obtain ⟨y1, y2⟩ := y
        rw [e] at hq
        rw [ih _ _ _ _ _ _ _ _ e]
        cases hq
        rfl
    rw [Nat.succ_add]
    rw [amTo] at hr ⊢
    by_cases hp : pc = stop
    · rw [if_pos hp] at hr ⊢
      cases hr
      rw [show n + k + 1 = n + 1 + k by omega]
    · rw [if_neg hp] at hr ⊢
      split at hr
      · rename_i E i len hE hq
        try rw [hE, hq]
        try simp only
        split at hr
        · rename_i pc' lv' st' hF
          try rw [hF]
          try simp only
          exact ih _ _ _ _ _ _ _ _ hr
        · rename_i hF
          try rw [hF]
          try simp only
          split at hr
          · rename_i hG
            try rw [hG]
            try simp only
            exact ad _ _ _ _ _ _ _ _ _ _ hr
          · rename_i hG
            try rw [hG]
            try simp only
            split at hr
            · cases hr
            · rename_i hf
              try rw [hf]
              try simp only
              split at hr
              · cases hr
              · rename_i j' as rest hi
                try rw [hi]
                try simp only
                split at hr
                · rename_i hc
                  try rw [if_pos hc]
                  cases d with
                  | zero => cases hr
                  | succ d' =>
                    simp only at hr ⊢
                    have go : ∀ u : Option amO, (match u with
                        | some (.inl r, h', dc, ds) => amAd2 dc ds (amTo κ P X B dec stop n (d' + 1) j (pc + 3) lv (r.toList ++ rest) h')
                        | _ => none) = some (n', q) → (match u with
                        | some (.inl r, h', dc, ds) => amAd2 dc ds (amTo κ P X B dec stop (n + k) (d' + 1) j (pc + 3) lv (r.toList ++ rest) h')
                        | _ => none) = some (n' + k, q) := fun u hq2 => by
                      match u, hq2 with
                      | none, hq2 => cases hq2
                      | some (.inl r, h', dc, ds), hq2 => exact ad _ _ _ _ _ _ _ _ _ _ hq2
                      | some (.inr ex, h', dc, ds), hq2 => cases hq2
                    cases hb : B j' with
                    | some b =>
                      rw [hb] at hr
                      exact go _ hr
                    | none =>
                      rw [hb] at hr
                      simp only at hr ⊢
                      cases e : amRun κ P X B dec n d' j' 0 (amArgs 0 as) [] h with
                      | none => rw [e] at hr; cases hr
                      | some y =>
                        rw [e] at hr
                        rw [amRun_more k _ _ _ _ _ _ _ _ e]
                        exact go _ hr
                · cases hr
      · cases hr
end MORE
theorem pgH0_run47 : amSame (amTo (fun _ => 0) (pgPx pgX0) pgX9 pgBa pgDec 23 2000 47 0 0 [(0, .inr (.inr (.inr 1)))] [] (true, [])) (1987, pgL0, [], (true, pgH0), 110, 819039) = true := by decide +kernel
theorem pgHeadN (L : Nat) (xs : Nat → Int32) (k : Nat) : mvRun (pgP L xs) (2000 + k) 47 0 0 [(0, .inr (.inr (.inr 1)))] [] (true, []) = mvAdd 110 819039 (mvRun (pgP L xs) (1987 + k) 47 0 23 (amGl xs pgL0) [] (amGh xs (true, pgH0))) := by
  have h := amSame_ok pgH0_run47
  rw [pgAny1 pgX0 (pgX L xs)] at h
  have h := amTo_more k _ _ _ _ _ _ _ _ _ h
  have hX : ∀ o q, pgX9 o = some q → mvPx (pgP L xs) o = some (q.1, fun k => amGi xs (q.2 k)) := by
    intro o q hq
    match o, hq with
    | 0, hq => cases hq; rfl
    | o + 1, hq => cases hq
  have h2 := amTo_ok (ρ := xs) (κ := fun _ => 0) (P := pgP L xs) (X := pgX9) (fun i => ⟨(fun h => by cases h), (fun h => by cases h), (fun h => by omega)⟩) hX pgBa_ok pgBa_no pgDec_ok (2000 + k) 47 0 0 _ [] (true, []) _ _ [] _ _ _ h
  have e1 : amGl xs [(0, .inr (.inr (.inr 1)))] = [(0, .inr (.inr (.inr 1)))] := rfl
  have e2 : amGh xs (true, []) = (true, []) := rfl
  rw [e1, e2, List.map_nil] at h2
  exact h2
