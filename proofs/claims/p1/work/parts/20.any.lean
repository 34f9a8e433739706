/-! THE SMALL MACHINE WITH INTS THAT ARE NOT KNOWN: an int is itself or the i-th unknown one; of an unknown one its kind is known: 1 below -1, 2 above 9, 100 + m its last five bits are m, else nothing. -/
abbrev amI : Type := Int32 ⊕ Nat
abbrev amV : Type := amI ⊕ (Int64 ⊕ (Option Nat ⊕ Nat))
abbrev amC : Type := (Nat × Nat × (List (Nat × amI) ⊕ List (Nat × Int64))) ⊕ (Nat × List amV)
abbrev amH : Type := Bool × List amC
abbrev amL : Type := List (Nat × amV)
abbrev amR : Type := Option amV ⊕ String
abbrev amO : Type := amR × amH × Nat × Nat
def amGi (ρ : Nat → Int32) (a : amI) : Int32 := match a with
  | .inl x => x
  | .inr i => ρ i
def amGv (ρ : Nat → Int32) (v : amV) : mvV := match v with
  | .inl a => .inl (amGi ρ a)
  | .inr w => .inr w
def amGc (ρ : Nat → Int32) (c : amC) : mvC := match c with
  | .inl (t, n, .inl f) => .inl (t, n, .inl (f.map (fun q => (q.1, amGi ρ q.2))))
  | .inl (t, n, .inr f) => .inl (t, n, .inr f)
  | .inr (ci, fs) => .inr (ci, fs.map (amGv ρ))
def amGh (ρ : Nat → Int32) (h : amH) : mvH := (h.1, h.2.map (amGc ρ))
def amGl (ρ : Nat → Int32) (lv : amL) : mvL := lv.map (fun q => (q.1, amGv ρ q.2))
def amGr (ρ : Nat → Int32) (r : amR) : mvR := match r with
  | .inl v => .inl (v.map (amGv ρ))
  | .inr ex => .inr ex
def amGo (ρ : Nat → Int32) (o : amO) : mvO := (amGr ρ o.1, amGh ρ o.2.1, o.2.2.1, o.2.2.2)
/-- kinds -/
def amOk (k : Nat) (x : Int32) : Prop := (k = 1 → x < -1) ∧ (k = 2 → 9 < x) ∧ (100 ≤ k → x &&& 31 = Int32.ofNat (k - 100))
def amLt (κ : Nat → Nat) (a b : amI) : Option Bool := match a, b with
  | .inl x, .inl y => some (decide (x < y))
  | .inr i, .inl y => if κ i = 1 ∧ -1 ≤ y then some true else if κ i = 2 ∧ y ≤ 10 then some false else none
  | .inl x, .inr i => if κ i = 1 ∧ -1 ≤ x then some false else if κ i = 2 ∧ x ≤ 9 then some true else none
  | .inr _, .inr _ => none
def amEq (κ : Nat → Nat) (a b : amI) : Option Bool := match a, b with
  | .inl x, .inl y => some (decide (x = y))
  | .inr i, .inl y => if κ i = 1 ∧ -1 ≤ y then some false else if κ i = 2 ∧ y ≤ 9 then some false else none
  | .inl y, .inr i => if κ i = 1 ∧ -1 ≤ y then some false else if κ i = 2 ∧ y ≤ 9 then some false else none
  | .inr i, .inr j => if i = j then some true else none
def amC2 (κ : Nat → Nat) (c : Jvm.ClassFile.Cond) (a b : amI) : Option Bool := match c with
  | .eq => amEq κ a b
  | .ne => (amEq κ a b).map (fun z => !z)
  | .lt => amLt κ a b
  | .ge => (amLt κ a b).map (fun z => !z)
  | .gt => amLt κ b a
  | .le => (amLt κ b a).map (fun z => !z)
section AM
variable {ρ : Nat → Int32} {κ : Nat → Nat}
theorem am_lt_of {x y z : Int32} (h : x < y) (h2 : y ≤ z) : x < z := Int32.lt_iff_toInt_lt.mpr (by rw [Int32.lt_iff_toInt_lt] at h; rw [Int32.le_iff_toInt_le] at h2; omega)
theorem amLt_ok (hρ : ∀ i, amOk (κ i) (ρ i)) {a b : amI} {z : Bool} (h : amLt κ a b = some z) : decide (amGi ρ a < amGi ρ b) = z := by
  have m1 : (-1 : Int32).toInt = -1 := by decide
  have m9 : (9 : Int32).toInt = 9 := by decide
  have m10 : (10 : Int32).toInt = 10 := by decide
  unfold amLt at h
  split at h
  · cases h; rfl
  · rename_i i y
    split at h
    · rename_i hc
      cases h
      have h1 := (hρ i).1 hc.1
      have h2 := hc.2
      rw [Int32.lt_iff_toInt_lt] at h1
      rw [Int32.le_iff_toInt_le] at h2
      exact decide_eq_true (Int32.lt_iff_toInt_lt.mpr (by show (ρ i).toInt < y.toInt; omega))
    · split at h
      · rename_i hc
        cases h
        have h1 := (hρ i).2.1 hc.1
        have h2 := hc.2
        rw [Int32.lt_iff_toInt_lt] at h1
        rw [Int32.le_iff_toInt_le] at h2
        exact decide_eq_false (fun q => by rw [Int32.lt_iff_toInt_lt] at q; change (ρ i).toInt < y.toInt at q; omega)
      · cases h
  · rename_i x i
    split at h
    · rename_i hc
      cases h
      have h1 := (hρ i).1 hc.1
      have h2 := hc.2
      rw [Int32.lt_iff_toInt_lt] at h1
      rw [Int32.le_iff_toInt_le] at h2
      exact decide_eq_false (fun q => by rw [Int32.lt_iff_toInt_lt] at q; change x.toInt < (ρ i).toInt at q; omega)
    · split at h
      · rename_i hc
        cases h
        have h1 := (hρ i).2.1 hc.1
        have h2 := hc.2
        rw [Int32.lt_iff_toInt_lt] at h1
        rw [Int32.le_iff_toInt_le] at h2
        exact decide_eq_true (Int32.lt_iff_toInt_lt.mpr (by show x.toInt < (ρ i).toInt; omega))
      · cases h
  · cases h
theorem am_ne (hρ : ∀ i, amOk (κ i) (ρ i)) {i : Nat} {y : Int32} (hc : (κ i = 1 ∧ -1 ≤ y) ∨ (κ i = 2 ∧ y ≤ 9)) : ρ i ≠ y := by
  have m1 : (-1 : Int32).toInt = -1 := by decide
  have m9 : (9 : Int32).toInt = 9 := by decide
  intro q
  rcases hc with ⟨h1, h2⟩ | ⟨h1, h2⟩
  · have h1 := (hρ i).1 h1
    rw [Int32.lt_iff_toInt_lt] at h1
    rw [Int32.le_iff_toInt_le] at h2
    rw [q] at h1
    omega
  · have h1 := (hρ i).2.1 h1
    rw [Int32.lt_iff_toInt_lt] at h1
    rw [Int32.le_iff_toInt_le] at h2
    rw [q] at h1
    omega
theorem amEq_ok (hρ : ∀ i, amOk (κ i) (ρ i)) {a b : amI} {z : Bool} (h : amEq κ a b = some z) : decide (amGi ρ a = amGi ρ b) = z := by
  unfold amEq at h
  split at h
  · cases h; rfl
  · split at h
    · rename_i hc; cases h; exact decide_eq_false (am_ne hρ (Or.inl hc))
    · split at h
      · rename_i hc; cases h; exact decide_eq_false (am_ne hρ (Or.inr hc))
      · cases h
  · split at h
    · rename_i hc; cases h; exact decide_eq_false (fun q => am_ne hρ (Or.inl hc) q.symm)
    · split at h
      · rename_i hc; cases h; exact decide_eq_false (fun q => am_ne hρ (Or.inr hc) q.symm)
      · cases h
  · split at h
    · rename_i hc; cases h; subst hc; exact decide_eq_true rfl
    · cases h
theorem amC2_ok (hρ : ∀ i, amOk (κ i) (ρ i)) {c : Jvm.ClassFile.Cond} {a b : amI} {z : Bool} (h : amC2 κ c a b = some z) : mvC2 c (amGi ρ a) (amGi ρ b) = z := by
  have nl : ∀ x y : Int32, decide (y ≤ x) = !decide (x < y) := fun x y => by
    by_cases h : x < y
    · have : ¬ y ≤ x := fun q => by rw [Int32.lt_iff_toInt_lt] at h; rw [Int32.le_iff_toInt_le] at q; omega
      simp [h, this]
    · have : y ≤ x := by rw [Int32.lt_iff_toInt_lt] at h; rw [Int32.le_iff_toInt_le]; omega
      simp [h, this]
  cases c
  · exact amEq_ok hρ h
  · obtain ⟨z', h1, h2⟩ := Option.map_eq_some_iff.mp h
    have := amEq_ok hρ h1
    simp only [mvC2]
    rw [← h2, ← this]
    simp
  · exact amLt_ok hρ h
  · obtain ⟨z', h1, h2⟩ := Option.map_eq_some_iff.mp h
    have := amLt_ok hρ h1
    simp only [mvC2]
    rw [nl, ← h2, ← this]
  · exact amLt_ok hρ h
  · obtain ⟨z', h1, h2⟩ := Option.map_eq_some_iff.mp h
    have := amLt_ok hρ h1
    simp only [mvC2]
    rw [nl, ← h2, ← this]
end AM
