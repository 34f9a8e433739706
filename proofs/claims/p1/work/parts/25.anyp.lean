/-! The two that throw, with unknown ints; the script's kinds. -/
def amRq (ex : String) (as : List amV) (h : amH) : Option amO := match as with
  | [.inl (.inl x)] => if x = 0 then some (.inr ex, (false, h.2), 1, 6) else some (.inl none, h, 0, 0)
  | _ => none
def pgBa (j : Nat) : Option (List amV → amH → Option amO) := if j = pgJA then some (amRq "java/lang/IllegalArgumentException") else if j = pgJS then some (amRq "java/lang/IllegalStateException") else none
theorem amRq_ok {ρ : Nat → Int32} {ex : String} {as : List amV} {h : amH} {o : amO} (hr : amRq ex as h = some o) : pgRq ex (as.map (amGv ρ)) (amGh ρ h) = some (amGo ρ o) := by
  unfold amRq at hr
  split at hr
  · rename_i x
    show (if x = 0 then some ((Sum.inr ex : mvR), (false, (amGh ρ h).2), 1, 6) else some ((Sum.inl none : mvR), amGh ρ h, 0, 0)) = _
    split at hr
    · rename_i h0
      rw [if_pos h0]
      cases hr
      rfl
    · rename_i h0
      rw [if_neg h0]
      cases hr
      rfl
  · cases hr
theorem pgBa_ok {ρ : Nat → Int32} : ∀ j b', pgBa j = some b' → ∃ b, pgBb j = some b ∧ ∀ as h o, b' as h = some o → b (as.map (amGv ρ)) (amGh ρ h) = some (amGo ρ o) := by
  intro j b' hb
  unfold pgBa at hb
  unfold pgBb
  split at hb
  · rename_i hj
    rw [if_pos hj]
    cases hb
    exact ⟨_, rfl, fun as h o hr => amRq_ok hr⟩
  · rename_i hj
    rw [if_neg hj]
    split at hb
    · rename_i hj2
      rw [if_pos hj2]
      cases hb
      exact ⟨_, rfl, fun as h o hr => amRq_ok hr⟩
    · cases hb
theorem pgBa_no : ∀ j, pgBa j = none → pgBb j = none := by
  intro j hb
  unfold pgBa at hb
  unfold pgBb
  split at hb
  · cases hb
  · rename_i hj
    rw [if_neg hj]
    split at hb
    · cases hb
    · rename_i hj2
      rw [if_neg hj2]
/-- the script: L ints, the k-th of them either known or the k-th unknown -/
def pgXa (L : Nat) (sc : List amI) (o : Nat) : Option (Nat × (Nat → amI)) := match o with
  | 0 => some (8, fun j => .inl (pgAa j))
  | 1 => some (L, fun k => sc.getD k (.inr k))
  | _ => none
def pgYes (o : Option amO) : Bool := match o with
  | some (.inl (some (.inl (.inl x))), _, kc, ks) => decide (x = 1) && decide (kc ≤ 600002) && decide (ks ≤ 7302231)
  | _ => false
theorem pgAny0 {κ : Nat → Nat} {X : amX} {B : amB} {dec : Nat → Nat → Option (Instr × Nat)} (X1 X2 : Nat → Option (Nat × (Nat → Int32))) : ∀ n, amRun κ (pgPx X1) X B dec n = amRun κ (pgPx X2) X B dec n := by
  intro n
  induction n with
  | zero => rfl
  | succ n ih =>
    funext d j pc lv st h
    rw [amRun, amRun]
    simp only [ih]
    rfl
theorem pgAny {L : Nat} {xs : Nat → Int32} (sc : List amI) (κ : Nat → Nat) {n d : Nat} (hρ : ∀ i, amOk (κ i) (xs i)) (hsc : ∀ (k : Nat) (a : Int32), sc[k]? = some (Sum.inl a : amI) → xs k = a) (hsd : ∀ (k v : Nat), sc[k]? = some (Sum.inr v : amI) → v = k)
    (h : pgYes (amRun κ (pgPx pgX0) (pgXa L sc) pgBa pgDec n d 0 0 [(0, .inr (.inr (.inr 1)))] [] (true, [])) = true) :
    ∃ h' kc ks, mvRun (pgP L xs) n d 0 0 [(0, .inr (.inr (.inr 1)))] [] (true, []) = some (.inl (some (.inl 1)), h', kc, ks) ∧ kc ≤ 600002 ∧ ks ≤ 7302231 := by
  have e : amRun κ (pgPx pgX0) (pgXa L sc) pgBa pgDec n d 0 0 [(0, .inr (.inr (.inr 1)))] [] (true, []) = amRun κ (pgP L xs) (pgXa L sc) pgBa pgDec n d 0 0 [(0, .inr (.inr (.inr 1)))] [] (true, []) := by
    exact congrFun (congrFun (congrFun (congrFun (congrFun (congrFun (pgAny0 pgX0 (pgX L xs) n) d) 0) 0) _) _) _
  rw [e] at h
  unfold pgYes at h
  split at h
  · rename_i x h' kc ks hr
    simp only [Bool.and_eq_true, decide_eq_true_eq] at h
    obtain ⟨⟨rfl, h2⟩, h3⟩ := h
    have h4 := amRun_ok (ρ := xs) (P := pgP L xs) hρ (X := pgXa L sc) ?_ pgBa_ok pgBa_no pgDec_ok n d 0 0 _ _ _ _ hr
    · exact ⟨_, kc, ks, h4, h2, h3⟩
    · intro o q hq
      match o, hq with
      | 0, hq => cases hq; rfl
      | 1, hq =>
        cases hq
        show some (L, xs) = some (L, _)
        congr 2
        funext k
        show xs k = amGi xs (sc.getD k (.inr k))
        rw [List.getD_eq_getElem?_getD]
        cases hk : sc[k]? with
        | none => rfl
        | some a =>
          cases a with
          | inl a => exact hsc k a hk
          | inr v => show xs k = xs v; rw [hsd k v hk]
      | o + 2, hq => cases hq
  · cases h
