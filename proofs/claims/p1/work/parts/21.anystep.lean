/-! Its steps, and that the small machine's are these. -/
def amCat (v : amV) : Nat := match v with
  | .inr (.inl _) => 2
  | _ => 1
def amLd (lv : amL) (i : Nat) : Option amV := (lv.find? (fun q => q.1 == i)).map (fun q => q.2)
def amSv (lv : amL) (i : Nat) (v : amV) : amL := (i, v) :: lv.filter (fun q => !(q.1 == i) && !(q.1 + 1 == i && amCat q.2 == 2))
def amIsA (v : amV) : Bool := match v with
  | .inr (.inr (.inl (some _))) => true
  | .inr (.inr (.inr _)) => true
  | _ => false
def amF1 (i : Instr) (lv : amL) : Option (amV × Nat) := match i with
  | .iconst k => some (.inl (.inl (Int32.ofInt k)), 1)
  | .bipush k => some (.inl (.inl (Int8.ofInt k).toInt32), 2)
  | .sipush k => some (.inl (.inl (Int16.ofInt k).toInt32), 3)
  | .lconst k => some (.inr (.inl (Int64.ofNat (k : Nat))), 1)
  | .iload_n k => match amLd lv k with
    | some (.inl x) => some (.inl x, 1)
    | _ => none
  | .iload k => match amLd lv k with
    | some (.inl x) => some (.inl x, 2)
    | _ => none
  | .aload_n k => match amLd lv k with
    | some v => if amIsA v = true then some (v, 1) else none
    | none => none
  | .aload k => match amLd lv k with
    | some v => if amIsA v = true then some (v, 2) else none
    | none => none
  | _ => none
def amF2 (i : Instr) (lv : amL) (st : List amV) : Option (Nat × amV × List amV × Nat) := match i with
  | .istore_n k => match st with
    | .inl x :: r => some (k, .inl x, r, 1)
    | _ => none
  | .istore k => match st with
    | .inl x :: r => some (k, .inl x, r, 2)
    | _ => none
  | .astore_n k => match st with
    | v :: r => if amIsA v = true then some (k, v, r, 1) else none
    | _ => none
  | .astore k => match st with
    | v :: r => if amIsA v = true then some (k, v, r, 2) else none
    | _ => none
  | .iinc k n => match amLd lv k with
    | some (.inl (.inl x)) => some (k, .inl (.inl (x + Int32.ofInt n)), st, 3)
    | _ => none
  | _ => none
def amA2 (κ : Nat → Nat) (i : Instr) (st : List amV) : Option (List amV) := match st with
  | .inl (.inl y) :: .inl (.inl x) :: r => (mvA2 i).map (fun f => .inl (.inl (f x y)) :: r)
  | .inl (.inl y) :: .inl (.inr v) :: r => match i with
    | .iand => if y = 31 ∧ 100 ≤ κ v then some (.inl (.inl (Int32.ofNat (κ v - 100))) :: r) else none
    | _ => none
  | _ => none
def amF3 (i : Instr) (st : List amV) : Option (List amV) := match i with
  | .idiv => match st with
    | .inl (.inl y) :: .inl (.inl x) :: r => if y = 0 then none else some (.inl (.inl (x / y)) :: r)
    | _ => none
  | .irem => match st with
    | .inl (.inl y) :: .inl (.inl x) :: r => if y = 0 then none else some (.inl (.inl (x - x / y * y)) :: r)
    | _ => none
  | .i2l => match st with
    | .inl (.inl x) :: r => some (.inr (.inl x.toInt64) :: r)
    | _ => none
  | .lcmp => match st with
    | .inr (.inl y) :: .inr (.inl x) :: r => some (.inl (.inl (lg_cmp x y)) :: r)
    | _ => none
  | .dup => match st with
    | v :: r => if amCat v = 1 then some (v :: v :: r) else none
    | _ => none
  | .pop => match st with
    | v :: r => if amCat v = 1 then some r else none
    | _ => none
  | .dup_x1 => match st with
    | v :: w :: r => if amCat v = 1 ∧ amCat w = 1 then some (v :: w :: v :: r) else none
    | _ => none
  | .dup_x2 => match st with
    | v :: w :: z :: r => if amCat v = 1 ∧ amCat w = 1 ∧ amCat z = 1 then some (v :: w :: z :: v :: r) else none
    | _ => none
  | .dup2 => match st with
    | v :: w :: r => if amCat v = 1 ∧ amCat w = 1 then some (v :: w :: v :: w :: r) else none
    | _ => none
  | _ => none
def amF4 (κ : Nat → Nat) (i : Instr) (pc : Nat) (st : List amV) : Option (Nat × List amV) := match i with
  | .ifCond c off => match st with
    | .inl x :: r => match mvT pc off, amC2 κ c x (.inl 0) with
      | some t, some b => some (if b = true then t else pc + 3, r)
      | _, _ => none
    | _ => none
  | .if_icmp c off => match st with
    | .inl y :: .inl x :: r => match mvT pc off, amC2 κ c x y with
      | some t, some b => some (if b = true then t else pc + 3, r)
      | _, _ => none
    | _ => none
  | .goto off => (mvT pc off).map (fun t => (t, st))
  | _ => none
def amF5 (i : Instr) (pc : Nat) (st : List amV) : Option (Nat × List amV) := match i with
  | .tableswitch dflt lo hi offs => match st with
    | .inl (.inl x) :: r => if x.toInt < lo ∨ hi < x.toInt then (mvT pc dflt).map (fun t => (t, r)) else match offs[(x.toInt - lo).toNat]? with
      | some off => (mvT pc off).map (fun t => (t, r))
      | none => none
    | _ => none
  | _ => none
def amF (κ : Nat → Nat) (i : Instr) (len pc nL : Nat) (lv : amL) (st : List amV) : Option (Nat × amL × List amV) :=
  match amF1 i lv with
  | some (v, n) => if len = n then some (pc + n, lv, v :: st) else none
  | none => match amF2 i lv st with
    | some (k, v, r, n) => if len = n ∧ k < nL then some (pc + n, amSv lv k v, r) else none
    | none => match amA2 κ i st with
      | some st' => if len = 1 then some (pc + 1, lv, st') else none
      | none => match amF3 i st with
        | some st' => if len = 1 then some (pc + 1, lv, st') else none
        | none => match amF4 κ i pc st with
          | some (pc', r) => if len = 3 then some (pc', lv, r) else none
          | none => (amF5 i pc st).map (fun q => (q.1, lv, q.2))
section AMF
variable {ρ : Nat → Int32} {κ : Nat → Nat} {i : Instr} {lv : amL} {st : List amV} {pc len nL : Nat}
theorem amCat_eq (v : amV) : mvCat (amGv ρ v) = amCat v := by rcases v with x | x | (_ | k) | o <;> rfl
theorem amIsA_eq (v : amV) : mvIsA (amGv ρ v) = amIsA v := by rcases v with x | x | (_ | k) | o <;> rfl
theorem amLd_eq (lv : amL) (k : Nat) : mvLd (amGl ρ lv) k = (amLd lv k).map (amGv ρ) := by
  unfold mvLd amLd amGl
  rw [List.find?_map, Option.map_map, Option.map_map]
  rfl
theorem amSv_eq (lv : amL) (k : Nat) (v : amV) : mvSv (amGl ρ lv) k (amGv ρ v) = amGl ρ (amSv lv k v) := by
  unfold mvSv amSv amGl
  rw [List.map_cons, List.filter_map]
  congr 2
  apply List.filter_congr
  intro q _
  simp [Function.comp, amCat_eq]
theorem amF1_ok {v : amV} {n : Nat} (h : amF1 i lv = some (v, n)) : mvF1 i (amGl ρ lv) = some (amGv ρ v, n) := by
  unfold amF1 at h
  split at h
  · cases h; rfl
  · cases h; rfl
  · cases h; rfl
  · cases h; rfl
  · split at h
    · rename_i hl; cases h; simp only [mvF1, amLd_eq, hl, Option.map_some, amGv]
    · cases h
  · split at h
    · rename_i hl; cases h; simp only [mvF1, amLd_eq, hl, Option.map_some, amGv]
    · cases h
  · split at h
    · rename_i hl
      split at h
      · rename_i hA; cases h; simp only [mvF1, amLd_eq, hl, Option.map_some, amIsA_eq, hA, if_true]
      · cases h
    · cases h
  · split at h
    · rename_i hl
      split at h
      · rename_i hA; cases h; simp only [mvF1, amLd_eq, hl, Option.map_some, amIsA_eq, hA, if_true]
      · cases h
    · cases h
  · cases h
theorem amF2_ok {k n : Nat} {v : amV} {r : List amV} (h : amF2 i lv st = some (k, v, r, n)) : mvF1 i (amGl ρ lv) = none ∧ mvF2 i (amGl ρ lv) (st.map (amGv ρ)) = some (k, amGv ρ v, r.map (amGv ρ), n) := by
  unfold amF2 at h
  split at h
  · split at h
    · cases h; exact ⟨rfl, rfl⟩
    · cases h
  · split at h
    · cases h; exact ⟨rfl, rfl⟩
    · cases h
  · split at h
    · split at h
      · rename_i hA; cases h; exact ⟨rfl, by simp only [mvF2, List.map_cons, amIsA_eq, hA, if_true]⟩
      · cases h
    · cases h
  · split at h
    · split at h
      · rename_i hA; cases h; exact ⟨rfl, by simp only [mvF2, List.map_cons, amIsA_eq, hA, if_true]⟩
      · cases h
    · cases h
  · split at h
    · rename_i hl; cases h; exact ⟨rfl, by simp only [mvF2, amLd_eq, hl, Option.map_some, amGv, amGi]⟩
    · cases h
  · cases h
theorem amA2_ok (hρ : ∀ i, amOk (κ i) (ρ i)) {st' : List amV} (h : amA2 κ i st = some st') : mvF1 i (amGl ρ lv) = none ∧ mvF2 i (amGl ρ lv) (st.map (amGv ρ)) = none ∧ ∃ f x y r, mvA2 i = some f ∧ st.map (amGv ρ) = .inl y :: .inl x :: r ∧ st'.map (amGv ρ) = .inl (f x y) :: r := by
  have hno : ∀ f, mvA2 i = some f → ∀ (lv' : mvL) (s' : List mvV), mvF1 i lv' = none ∧ mvF2 i lv' s' = none := by
    intro f hf lv' s'
    unfold mvA2 at hf
    split at hf <;> first | exact ⟨rfl, rfl⟩ | cases hf
  unfold amA2 at h
  split at h
  · rename_i y x r
    obtain ⟨f, hf, rfl⟩ := Option.map_eq_some_iff.mp h
    exact ⟨(hno f hf _ []).1, (hno f hf _ _).2, f, x, y, r.map (amGv ρ), hf, rfl, rfl⟩
  · rename_i y v r
    split at h
    · split at h
      · rename_i hc
        cases h
        refine ⟨rfl, rfl, _, ρ v, y, r.map (amGv ρ), rfl, rfl, ?_⟩
        have := (hρ v).2.2 hc.2
        simp only [List.map_cons, amGv, amGi]
        rw [hc.1, this]
      · cases h
    · cases h
  · cases h
theorem amF3_ok {st' : List amV} (h : amF3 i st = some st') : (∀ (lv' : mvL) (s' : List mvV), mvF1 i lv' = none ∧ mvF2 i lv' s' = none ∧ mvA2 i = none) ∧ mvF3 i (st.map (amGv ρ)) = some (st'.map (amGv ρ)) := by
  unfold amF3 at h
  split at h
  · split at h
    · split at h
      · cases h
      · rename_i hy; cases h; exact ⟨fun _ _ => ⟨rfl, rfl, rfl⟩, by simp only [mvF3, List.map_cons, amGv, amGi, hy, if_false]⟩
    · cases h
  · split at h
    · split at h
      · cases h
      · rename_i hy; cases h; exact ⟨fun _ _ => ⟨rfl, rfl, rfl⟩, by simp only [mvF3, List.map_cons, amGv, amGi, hy, if_false]⟩
    · cases h
  · split at h
    · cases h; exact ⟨fun _ _ => ⟨rfl, rfl, rfl⟩, rfl⟩
    · cases h
  · split at h
    · cases h; exact ⟨fun _ _ => ⟨rfl, rfl, rfl⟩, rfl⟩
    · cases h
  · split at h
    · split at h
      · rename_i hc; cases h; exact ⟨fun _ _ => ⟨rfl, rfl, rfl⟩, by simp only [mvF3, List.map_cons, amCat_eq, hc, if_true]⟩
      · cases h
    · cases h
  · split at h
    · split at h
      · rename_i hc; cases h; exact ⟨fun _ _ => ⟨rfl, rfl, rfl⟩, by simp only [mvF3, List.map_cons, amCat_eq, hc, if_true]⟩
      · cases h
    · cases h
  · split at h
    · split at h
      · rename_i hc; cases h; exact ⟨fun _ _ => ⟨rfl, rfl, rfl⟩, by simp only [mvF3, List.map_cons, amCat_eq, hc, and_self, if_true]⟩
      · cases h
    · cases h
  · split at h
    · split at h
      · rename_i hc; cases h; exact ⟨fun _ _ => ⟨rfl, rfl, rfl⟩, by simp only [mvF3, List.map_cons, amCat_eq, hc, and_self, if_true]⟩
      · cases h
    · cases h
  · split at h
    · split at h
      · rename_i hc; cases h; exact ⟨fun _ _ => ⟨rfl, rfl, rfl⟩, by simp only [mvF3, List.map_cons, amCat_eq, hc, and_self, if_true]⟩
      · cases h
    · cases h
  · cases h
theorem amC1_eq (c : Jvm.ClassFile.Cond) (x : Int32) : mvC1 c x = mvC2 c x 0 := by cases c <;> rfl
theorem amF4_ok (hρ : ∀ i, amOk (κ i) (ρ i)) {pc' : Nat} {r : List amV} (h : amF4 κ i pc st = some (pc', r)) : (∀ (lv' : mvL) (s' : List mvV), mvF1 i lv' = none ∧ mvF2 i lv' s' = none ∧ mvA2 i = none ∧ mvF3 i s' = none) ∧ mvF4 i pc (st.map (amGv ρ)) = some (pc', r.map (amGv ρ)) := by
  unfold amF4 at h
  split at h
  · split at h
    · split at h
      · rename_i t b ht hb
        cases h
        refine ⟨fun _ _ => ⟨rfl, rfl, rfl, rfl⟩, ?_⟩
        have h9 : mvC2 _ (amGi ρ _) 0 = b := amC2_ok hρ hb
        simp only [mvF4, List.map_cons, amGv, ht]
        rw [amC1_eq, h9]
      · cases h
    · cases h
  · split at h
    · split at h
      · rename_i t b ht hb
        cases h
        refine ⟨fun _ _ => ⟨rfl, rfl, rfl, rfl⟩, ?_⟩
        have := amC2_ok hρ hb
        simp only [mvF4, List.map_cons, amGv, ht]
        rw [this]
      · cases h
    · cases h
  · rename_i off
    obtain ⟨t, ht, hq⟩ := Option.map_eq_some_iff.mp h
    cases hq
    exact ⟨fun _ _ => ⟨rfl, rfl, rfl, rfl⟩, by simp only [mvF4, ht, Option.map_some]⟩
  · cases h
theorem amF5_ok {pc' : Nat} {r : List amV} (h : amF5 i pc st = some (pc', r)) : (∀ (lv' : mvL) (s' : List mvV), mvF1 i lv' = none ∧ mvF2 i lv' s' = none ∧ mvA2 i = none ∧ mvF3 i s' = none ∧ mvF4 i pc s' = none) ∧ mvF5 i pc (st.map (amGv ρ)) = some (pc', r.map (amGv ρ)) := by
  unfold amF5 at h
  split at h
  · split at h
    · rename_i x r0
      refine ⟨fun _ _ => ⟨rfl, rfl, rfl, rfl, rfl⟩, ?_⟩
      simp only [mvF5, List.map_cons, amGv, amGi]
      split at h
      · rename_i hc
        obtain ⟨t, ht, hq⟩ := Option.map_eq_some_iff.mp h
        cases hq
        rw [if_pos hc, ht]
        rfl
      · rename_i hc
        rw [if_neg hc]
        split at h
        · rename_i off ho
          obtain ⟨t, ht, hq⟩ := Option.map_eq_some_iff.mp h
          cases hq
          simp only [ho, ht]
          rfl
        · cases h
    · cases h
  · cases h
theorem amF_ok (hρ : ∀ i, amOk (κ i) (ρ i)) {pc' : Nat} {lv' : amL} {st' : List amV} (h : amF κ i len pc nL lv st = some (pc', lv', st')) : mvF i len pc nL (amGl ρ lv) (st.map (amGv ρ)) = some (pc', amGl ρ lv', st'.map (amGv ρ)) := by
  unfold amF at h
  unfold mvF
  split at h
  · rename_i v n h1
    rw [amF1_ok h1]
    split at h
    · rename_i hn; cases h; simp only [hn, if_true, List.map_cons]
    · cases h
  · split at h
    · rename_i k v r n h1
      obtain ⟨a1, a2⟩ := amF2_ok (ρ := ρ) h1
      rw [a1, a2]
      split at h
      · rename_i hn; cases h; simp only [hn, and_self, if_true, amSv_eq]
      · cases h
    · split at h
      · rename_i st1 h1
        obtain ⟨a1, a2, f, x, y, r, a3, a4, a5⟩ := amA2_ok (lv := lv) hρ h1
        rw [a1, a2, a3, a4]
        split at h
        · rename_i hn; cases h; simp only [hn, if_true, a5]
        · cases h
      · split at h
        · rename_i st1 h1
          obtain ⟨a1, a2⟩ := amF3_ok (ρ := ρ) h1
          obtain ⟨b1, b2, b3⟩ := a1 (amGl ρ lv) (st.map (amGv ρ))
          rw [b1, b2, b3, a2]
          split at h
          · rename_i hn; cases h; simp only [hn, if_true]
          · cases h
        · split at h
          · rename_i pc1 r h1
            obtain ⟨a1, a2⟩ := amF4_ok hρ h1
            obtain ⟨b1, b2, b3, b4⟩ := a1 (amGl ρ lv) (st.map (amGv ρ))
            rw [b1, b2, b3, b4, a2]
            split at h
            · rename_i hn; cases h; simp only [hn, if_true]
            · cases h
          · obtain ⟨⟨pc1, r⟩, h1, hq⟩ := Option.map_eq_some_iff.mp h
            cases hq
            obtain ⟨a1, a2⟩ := amF5_ok (ρ := ρ) h1
            obtain ⟨b1, b2, b3, b4, b5⟩ := a1 (amGl ρ lv) (st.map (amGv ρ))
            rw [b1, b2, b3, b4, b5, a2]
            rfl
end AMF
