/-! Its cells and its runs. -/
def amLk : List (Nat × amI) → Nat → amI
  | [], _ => .inl 0
  | q :: t, i => if i = q.1 then q.2 else amLk t i
def amEm (v : mvV) : amV := match v with
  | .inl x => .inl (.inl x)
  | .inr w => .inr w
def amFit (kd : Nat) (v : amV) : Bool := match kd, v with
  | 0, .inl _ => true
  | 1, .inl (.inl x) => decide (x = 0 ∨ x = 1)
  | 2, .inr (.inr (.inl (some _))) => true
  | _, _ => false
abbrev amX : Type := Nat → Option (Nat × (Nat → amI))
abbrev amB : Type := Nat → Option (List amV → amH → Option amO)
def amG1 (P : mvP) (j : Nat) (i : Instr) (st : List amV) (h : amH) : Option (List amV × amH) := match i with
  | .getfield idx => match mvPf P j idx, st with
    | some (ci, k, _), .inr (.inr (.inl (some a))) :: r => match h.2[a]? with
      | some (.inr (ci', fs)) => if ci' = ci then (fs[k]?).map (fun v => (v :: r, h)) else none
      | _ => none
    | _, _ => none
  | .putfield idx => match mvPf P j idx, st with
    | some (ci, k, kd), v :: .inr (.inr (.inl (some a))) :: r => match h.2[a]? with
      | some (.inr (ci', fs)) => if ci' = ci ∧ k < fs.length ∧ amFit kd v = true then some (r, (h.1, h.2.set a (.inr (ci, fs.set k v)))) else none
      | _ => none
    | _, _ => none
  | _ => none
def amG2 (X : amX) (i : Instr) (st : List amV) (h : amH) : Option (List amV × amH) := match i with
  | .iaload => match st with
    | .inl (.inl x) :: .inr (.inr (.inl (some a))) :: r => match h.2[a]? with
      | some (.inl (0, n, .inl f)) => if mvIn x n = true then some (.inl (amLk f x.toNatClampNeg) :: r, h) else none
      | _ => none
    | .inl (.inl x) :: .inr (.inr (.inr o)) :: r => match X o with
      | some q => if mvIn x q.1 = true ∧ o < 2 then some (.inl (q.2 x.toNatClampNeg) :: r, h) else none
      | none => none
    | _ => none
  | .baload => match st with
    | .inl (.inl x) :: .inr (.inr (.inl (some a))) :: r => match h.2[a]? with
      | some (.inl (1, n, .inl f)) => if mvIn x n = true then some (.inl (amLk f x.toNatClampNeg) :: r, h) else none
      | _ => none
    | _ => none
  | .laload => match st with
    | .inl (.inl x) :: .inr (.inr (.inl (some a))) :: r => match h.2[a]? with
      | some (.inl (2, n, .inr f)) => if mvIn x n = true then some (.inr (.inl (mvLl f x.toNatClampNeg)) :: r, h) else none
      | _ => none
    | _ => none
  | .iastore => match st with
    | .inl y :: .inl (.inl x) :: .inr (.inr (.inl (some a))) :: r => match h.2[a]? with
      | some (.inl (0, n, .inl f)) => if mvIn x n = true then some (r, (h.1, h.2.set a (.inl (0, n, .inl ((x.toNatClampNeg, y) :: f))))) else none
      | _ => none
    | _ => none
  | .bastore => match st with
    | .inl (.inl y) :: .inl (.inl x) :: .inr (.inr (.inl (some a))) :: r => match h.2[a]? with
      | some (.inl (1, n, .inl f)) => if mvIn x n = true then some (r, (h.1, h.2.set a (.inl (1, n, .inl ((x.toNatClampNeg, .inl (vp_nar .boolean y)) :: f))))) else none
      | _ => none
    | _ => none
  | .lastore => match st with
    | .inr (.inl y) :: .inl (.inl x) :: .inr (.inr (.inl (some a))) :: r => match h.2[a]? with
      | some (.inl (2, n, .inr f)) => if mvIn x n = true then some (r, (h.1, h.2.set a (.inl (2, n, .inr ((x.toNatClampNeg, y) :: f))))) else none
      | _ => none
    | _ => none
  | .arraylength => match st with
    | .inr (.inr (.inl (some a))) :: r => match h.2[a]? with
      | some (.inl (t, n, .inl _)) => if t < 2 then some (.inl (.inl (Int32.ofNat n)) :: r, h) else none
      | _ => none
    | .inr (.inr (.inr o)) :: r => match X o with
      | some q => if o < 2 then some (.inl (.inl (Int32.ofNat q.1)) :: r, h) else none
      | none => none
    | _ => none
  | _ => none
def amG3 (P : mvP) (j : Nat) (i : Instr) (st : List amV) (h : amH) : Option (List amV × amH × Nat × Nat) := match i with
  | .newarray t => match st with
    | .inl (.inl n) :: r => if ¬ n < 0 ∧ n.toNatClampNeg ≤ 1000000 ∧ h.1 = true then match t with
      | .int => some (.inr (.inr (.inl (some h.2.length))) :: r, (true, h.2 ++ [.inl (0, n.toNatClampNeg, .inl [])]), n.toNatClampNeg, 2)
      | .boolean => some (.inr (.inr (.inl (some h.2.length))) :: r, (true, h.2 ++ [.inl (1, n.toNatClampNeg, .inl [])]), n.toNatClampNeg, 2)
      | .long => some (.inr (.inr (.inl (some h.2.length))) :: r, (true, h.2 ++ [.inl (2, n.toNatClampNeg, .inr [])]), n.toNatClampNeg, 2)
      | _ => none
      else none
    | _ => none
  | .new idx => match mvPn P j idx with
    | some (ci, fs) => if h.1 = true then some (.inr (.inr (.inl (some h.2.length))) :: st, (true, h.2 ++ [.inr (ci, fs.map amEm)]), fs.length, 3) else none
    | none => none
  | _ => none
def amG (P : mvP) (X : amX) (j d : Nat) (i : Instr) (len pc : Nat) (st : List amV) (h : amH) : Option (Nat × List amV × amH × Nat × Nat) :=
  match amG1 P j i st h with
  | some (st', h') => if len = 3 then some (pc + 3, st', h', 0, 0) else none
  | none => match amG2 X i st h with
    | some (st', h') => if len = 1 then some (pc + 1, st', h', 0, 0) else none
    | none => match amG3 P j i st h with
      | some (st', h', ns, n) => if len = n then some (pc + n, st', h', 1, ns) else none
      | none => match mvG4 P j i with
        | some (v, n) => if len = n then some (pc + n, amEm v :: st, h, 0, 0) else none
        | none => match i with
          | .invokespecial idx => match st with
            | .inr (.inr (.inl (some _))) :: r => if mvPo P j idx = true ∧ len = 3 ∧ (r.map amCat).sum ≤ 8 ∧ 1 ≤ d then some (pc + 3, r, h, 0, 0) else none
            | _ => none
          | _ => none
section AMG
variable {ρ : Nat → Int32} {P : mvP} {X : amX} {i : Instr} {j d pc len : Nat} {st st' : List amV} {h h' : amH}
theorem amEm_eq (v : mvV) : amGv ρ (amEm v) = v := by rcases v with x | w <;> rfl
theorem amLk_eq (f : List (Nat × amI)) (k : Nat) : mvLk (f.map (fun q => (q.1, amGi ρ q.2))) k = amGi ρ (amLk f k) := by
  induction f with
  | nil => rfl
  | cons q t ih =>
    simp only [List.map_cons, mvLk, amLk]
    split
    · rfl
    · exact ih
theorem amFit_eq {kd : Nat} {v : amV} (hf : amFit kd v = true) : mvFit kd (amGv ρ v) = true := by
  match kd, v, hf with
  | 0, .inl _, _ => rfl
  | 1, .inl (.inl x), hf => exact hf
  | 2, .inr (.inr (.inl (some _))), _ => rfl
theorem amHat {a : Nat} {c : amC} (hc : h.2[a]? = some c) : (amGh ρ h).2[a]? = some (amGc ρ c) := by
  show (h.2.map (amGc ρ))[a]? = _
  rw [List.getElem?_map, hc]
  rfl
theorem amSum_eq (st : List amV) : mvSum (st.map (amGv ρ)) = (st.map amCat).sum := by
  unfold mvSum
  rw [List.map_map]
  congr 1
  apply List.map_congr_left
  intro v _
  exact amCat_eq v
theorem amG1_ok (hs : amG1 P j i st h = some (st', h')) : (∀ (a b c : Nat) (lv : mvL) (s' : List mvV), mvF i a b c lv s' = none) ∧ mvG1 P j i (st.map (amGv ρ)) (amGh ρ h) = some (st'.map (amGv ρ), amGh ρ h') := by
  unfold amG1 at hs
  split at hs
  · split at hs
    · rename_i hf
      split at hs
      · rename_i hc
        split at hs
        · rename_i hci
          obtain ⟨v, hv, hq⟩ := Option.map_eq_some_iff.mp hs
          cases hq
          refine ⟨fun _ _ _ _ _ => rfl, ?_⟩
          simp only [mvG1, hf, List.map_cons, amGv, amHat hc, amGc, hci, if_true, List.getElem?_map, hv, Option.map_some]
        · cases hs
      · cases hs
    · cases hs
  · split at hs
    · rename_i ci k kd v a r hf
      split at hs
      · rename_i ci' fs hc
        split at hs
        · rename_i hci
          cases hs
          refine ⟨fun _ _ _ _ _ => rfl, ?_⟩
          have e1 := amHat (ρ := ρ) hc
          simp only [amGc] at e1
          show mvG1 P j _ (amGv ρ v :: .inr (.inr (.inl (some a))) :: st'.map (amGv ρ)) (amGh ρ h) = _
          simp only [mvG1, hf, e1, hci.1, List.length_map, hci.2.1, amFit_eq hci.2.2, and_self, if_true]
          simp only [amGh, List.map_set, amGc]
        · cases hs
      · cases hs
    · cases hs
  · cases hs
theorem amG2_ok (hX : ∀ o q, X o = some q → mvPx P o = some (q.1, fun k => amGi ρ (q.2 k))) (hs : amG2 X i st h = some (st', h')) : (∀ (a b c : Nat) (lv : mvL) (s' : List mvV), mvF i a b c lv s' = none) ∧ (∀ (s' : List mvV) (h9 : mvH), mvG1 P j i s' h9 = none) ∧ mvG2 P i (st.map (amGv ρ)) (amGh ρ h) = some (st'.map (amGv ρ), amGh ρ h') := by
  unfold amG2 at hs
  split at hs
  · split at hs
    · rename_i x a r
      split at hs
      · rename_i n f hc
        have e1 := amHat (ρ := ρ) hc
        simp only [amGc] at e1
        split at hs
        · rename_i hin
          cases hs
          refine ⟨fun _ _ _ _ _ => rfl, fun _ _ => rfl, ?_⟩
          show mvG2 P .iaload (.inl x :: .inr (.inr (.inl (some a))) :: r.map (amGv ρ)) (amGh ρ h) = some (.inl (amGi ρ (amLk f x.toNatClampNeg)) :: r.map (amGv ρ), amGh ρ h)
          simp only [mvG2, e1, hin, if_true, amLk_eq]
        · cases hs
      · cases hs
    · split at hs
      · rename_i q hq
        have e1 := hX _ _ hq
        split at hs
        · rename_i hin
          cases hs
          refine ⟨fun _ _ _ _ _ => rfl, fun _ _ => rfl, ?_⟩
          simp only [mvG2, List.map_cons, amGv, amGi, e1, hin, and_self, if_true]
        · cases hs
      · cases hs
    · cases hs
  · split at hs
    · rename_i x a r
      split at hs
      · rename_i n f hc
        have e1 := amHat (ρ := ρ) hc
        simp only [amGc] at e1
        split at hs
        · rename_i hin
          cases hs
          refine ⟨fun _ _ _ _ _ => rfl, fun _ _ => rfl, ?_⟩
          show mvG2 P .baload (.inl x :: .inr (.inr (.inl (some a))) :: r.map (amGv ρ)) (amGh ρ h) = some (.inl (amGi ρ (amLk f x.toNatClampNeg)) :: r.map (amGv ρ), amGh ρ h)
          simp only [mvG2, e1, hin, if_true, amLk_eq]
        · cases hs
      · cases hs
    · cases hs
  · split at hs
    · split at hs
      · rename_i hc
        have e1 := amHat (ρ := ρ) hc
        simp only [amGc] at e1
        split at hs
        · rename_i hin
          cases hs
          refine ⟨fun _ _ _ _ _ => rfl, fun _ _ => rfl, ?_⟩
          simp only [mvG2, List.map_cons, amGv, amGi, e1, hin, if_true]
        · cases hs
      · cases hs
    · cases hs
  · split at hs
    · split at hs
      · rename_i hc
        have e1 := amHat (ρ := ρ) hc
        simp only [amGc] at e1
        split at hs
        · rename_i hin
          cases hs
          refine ⟨fun _ _ _ _ _ => rfl, fun _ _ => rfl, ?_⟩
          simp only [mvG2, List.map_cons, amGv, e1, amGi, hin, if_true]
          simp only [amGh, List.map_set, amGc, List.map_cons]
          rfl
        · cases hs
      · cases hs
    · cases hs
  · split at hs
    · split at hs
      · rename_i hc
        have e1 := amHat (ρ := ρ) hc
        simp only [amGc] at e1
        split at hs
        · rename_i hin
          cases hs
          refine ⟨fun _ _ _ _ _ => rfl, fun _ _ => rfl, ?_⟩
          simp only [mvG2, List.map_cons, amGv, e1, amGi, hin, if_true]
          simp only [amGh, List.map_set, amGc, List.map_cons, amGi]
        · cases hs
      · cases hs
    · cases hs
  · split at hs
    · split at hs
      · rename_i hc
        have e1 := amHat (ρ := ρ) hc
        simp only [amGc] at e1
        split at hs
        · rename_i hin
          cases hs
          refine ⟨fun _ _ _ _ _ => rfl, fun _ _ => rfl, ?_⟩
          simp only [mvG2, List.map_cons, amGv, e1, amGi, hin, if_true]
          simp only [amGh, List.map_set, amGc]
        · cases hs
      · cases hs
    · cases hs
  · split at hs
    · split at hs
      · rename_i hc
        have e1 := amHat (ρ := ρ) hc
        simp only [amGc] at e1
        split at hs
        · rename_i hin
          cases hs
          refine ⟨fun _ _ _ _ _ => rfl, fun _ _ => rfl, ?_⟩
          simp only [mvG2, List.map_cons, amGv, e1, hin, if_true]
          rfl
        · cases hs
      · cases hs
    · split at hs
      · rename_i q hq
        have e1 := hX _ _ hq
        split at hs
        · rename_i hin
          cases hs
          refine ⟨fun _ _ _ _ _ => rfl, fun _ _ => rfl, ?_⟩
          simp only [mvG2, List.map_cons, amGv, e1, hin, if_true]
          rfl
        · cases hs
      · cases hs
    · cases hs
  · cases hs
theorem amG3_ok {ns n : Nat} (hs : amG3 P j i st h = some (st', h', ns, n)) : (∀ (a b c : Nat) (lv : mvL) (s' : List mvV), mvF i a b c lv s' = none) ∧ (∀ (s' : List mvV) (h9 : mvH), mvG1 P j i s' h9 = none ∧ mvG2 P i s' h9 = none) ∧ mvG3 P j i (st.map (amGv ρ)) (amGh ρ h) = some (st'.map (amGv ρ), amGh ρ h', ns, n) := by
  have hlen : (amGh ρ h).2.length = h.2.length := List.length_map ..
  unfold amG3 at hs
  split at hs
  · split at hs
    · split at hs
      · rename_i hc
        have hc' : (amGh ρ h).1 = true := hc.2.2
        split at hs
        · cases hs
          refine ⟨fun _ _ _ _ _ => rfl, fun _ _ => ⟨rfl, rfl⟩, ?_⟩
          simp only [mvG3, List.map_cons, amGv, amGi, hc.1, hc.2.1, hc', not_false_eq_true, and_self, if_true, hlen]
          simp only [amGh, List.map_append, List.map_cons, List.map_nil, amGc]
        · cases hs
          refine ⟨fun _ _ _ _ _ => rfl, fun _ _ => ⟨rfl, rfl⟩, ?_⟩
          simp only [mvG3, List.map_cons, amGv, amGi, hc.1, hc.2.1, hc', not_false_eq_true, and_self, if_true, hlen]
          simp only [amGh, List.map_append, List.map_cons, List.map_nil, amGc]
        · cases hs
          refine ⟨fun _ _ _ _ _ => rfl, fun _ _ => ⟨rfl, rfl⟩, ?_⟩
          simp only [mvG3, List.map_cons, amGv, amGi, hc.1, hc.2.1, hc', not_false_eq_true, and_self, if_true, hlen]
          simp only [amGh, List.map_append, List.map_cons, List.map_nil, amGc]
        · cases hs
      · cases hs
    · cases hs
  · split at hs
    · rename_i hf
      split at hs
      · rename_i hc
        have hc' : (amGh ρ h).1 = true := hc
        cases hs
        refine ⟨fun _ _ _ _ _ => rfl, fun _ _ => ⟨rfl, rfl⟩, ?_⟩
        simp only [mvG3, hf, hc', if_true, hlen, List.map_cons, amGv]
        simp only [amGh, List.map_append, List.map_cons, List.map_nil, amGc, List.map_map]
        congr 6
        simp [Function.comp_def, amEm_eq]
      · cases hs
    · cases hs
  · cases hs
theorem amG_ok (hX : ∀ o q, X o = some q → mvPx P o = some (q.1, fun k => amGi ρ (q.2 k))) {pc' dc ds : Nat} (hs : amG P X j d i len pc st h = some (pc', st', h', dc, ds)) : (∀ (a b c : Nat) (lv : mvL) (s' : List mvV), mvF i a b c lv s' = none) ∧ mvG P j d i len pc (st.map (amGv ρ)) (amGh ρ h) = some (pc', st'.map (amGv ρ), amGh ρ h', dc, ds) := by
  unfold amG at hs
  unfold mvG
  split at hs
  · rename_i hg
    obtain ⟨a1, a2⟩ := amG1_ok (ρ := ρ) hg
    refine ⟨a1, ?_⟩
    rw [a2]
    split at hs
    · rename_i hn; cases hs; simp only [hn, if_true]
    · cases hs
  · split at hs
    · rename_i hg
      obtain ⟨a1, a2, a3⟩ := amG2_ok (j := j) hX hg
      refine ⟨a1, ?_⟩
      rw [a2, a3]
      split at hs
      · rename_i hn; cases hs; simp only [hn, if_true]
      · cases hs
    · split at hs
      · rename_i hg
        obtain ⟨a1, a2, a3⟩ := amG3_ok (ρ := ρ) hg
        refine ⟨a1, ?_⟩
        rw [(a2 _ _).1, (a2 _ _).2, a3]
        split at hs
        · rename_i hn; cases hs; simp only [hn, if_true]
        · cases hs
      · split at hs
        · rename_i v n hg
          have a1 : (∀ (a b c : Nat) (lv : mvL) (s' : List mvV), mvF i a b c lv s' = none) ∧ (∀ (s' : List mvV) (h9 : mvH), mvG1 P j i s' h9 = none ∧ mvG2 P i s' h9 = none ∧ mvG3 P j i s' h9 = none) := by
            unfold mvG4 at hg
            split at hg
            · exact ⟨fun _ _ _ _ _ => rfl, fun _ _ => ⟨rfl, rfl, rfl⟩⟩
            · exact ⟨fun _ _ _ _ _ => rfl, fun _ _ => ⟨rfl, rfl, rfl⟩⟩
            · exact ⟨fun _ _ _ _ _ => rfl, fun _ _ => ⟨rfl, rfl, rfl⟩⟩
            · cases hg
          refine ⟨a1.1, ?_⟩
          rw [(a1.2 _ _).1, (a1.2 _ _).2.1, (a1.2 _ _).2.2, hg]
          split at hs
          · rename_i hn; cases hs; simp only [hn, if_true, List.map_cons, amEm_eq]
          · cases hs
        · split at hs
          · split at hs
            · split at hs
              · rename_i hc
                cases hs
                refine ⟨fun _ _ _ _ _ => rfl, ?_⟩
                simp only [mvG1, mvG2, mvG3, mvG4, List.map_cons, amGv, amSum_eq, hc, and_self, if_true]
              · cases hs
            · cases hs
          · cases hs
end AMG
