/-! JOINING, abstractly: nodes with kinds (2: open, 3: a list, 4: a function) and parts, roots, what waits, what was asked. -/
def eqv (E : Nat → Nat → Prop) : Prop := (∀ x, E x x) ∧ (∀ x y, E x y → E y x) ∧ (∀ x y z, E x y → E y z → E x z)
/-- within k links the root -/
def rk (l : Nat → Nat) : Nat → Nat → Nat → Prop
  | 0, x, r => x = r ∧ l r = r
  | k + 1, x, r => rk l k x r ∨ rk l k (l x) r
theorem rk_root {l : Nat → Nat} : ∀ {k x r : Nat}, rk l k x r → l r = r
  | 0, _, _, h => h.2
  | k + 1, _, _, h => h.elim rk_root rk_root
theorem rk_le {l : Nat → Nat} {k x r : Nat} (h : rk l k x r) : ∀ {k' : Nat}, k ≤ k' → rk l k' x r := by
  intro k' hk
  induction k' with
  | zero => cases Nat.le_zero.mp hk; exact h
  | succ m ih =>
    by_cases e : k = m + 1
    · subst e; exact h
    · exact Or.inl (ih (by omega))
theorem rk_step {l : Nat → Nat} : ∀ {k x r : Nat}, rk l k x r → rk l k (l x) r
  | 0, x, r, h => by
    obtain ⟨rfl, h2⟩ := h
    exact ⟨h2, h2⟩
  | k + 1, _, _, h => h.elim (fun q => Or.inl (rk_step q)) Or.inl
theorem rk_fix {l : Nat → Nat} : ∀ {k x r : Nat}, l x = x → rk l k x r → x = r
  | 0, _, _, _, h => h.1
  | k + 1, x, r, e, h => h.elim (rk_fix e) (fun q => rk_fix e (by rw [e] at q; exact q))
theorem rk_uniq {l : Nat → Nat} : ∀ {k k' x r r' : Nat}, rk l k x r → rk l k' x r' → r = r'
  | 0, k', x, r, r', h, h' => by
    obtain ⟨rfl, h2⟩ := h
    exact rk_fix h2 h'
  | k + 1, _, _, _, _, h, h' => h.elim (fun q => rk_uniq q h') (fun q => rk_uniq q (rk_step h'))
/-- links may be shortened -/
theorem rk_half {l l' : Nat → Nat} (hl : ∀ y, l' y = l y ∨ l' y = l (l y)) : ∀ {k x r : Nat}, rk l k x r → rk l' k x r
  | 0, x, r, h => by
    refine ⟨h.1, ?_⟩
    rcases hl r with e | e
    · rw [e]; exact h.2
    · rw [e, h.2]; exact h.2
  | k + 1, x, r, h => by
    rcases h with h | h
    · exact Or.inl (rk_half hl h)
    · rcases hl x with e | e
      · exact Or.inr (by rw [e]; exact rk_half hl h)
      · exact Or.inr (by rw [e]; exact rk_half hl (rk_step h))
/-- a root is linked to another -/
theorem rk_link {l l' : Nat → Nat} {u w : Nat} (hu : l u = u) (hw : l w = w) (hne : u ≠ w) (h1 : l' u = w) (h2 : ∀ y, y ≠ u → l' y = l y) : ∀ {k x r : Nat}, rk l k x r → (r ≠ u → rk l' k x r) ∧ (r = u → rk l' (k + 1) x w)
  | 0, x, r, h => by
    obtain ⟨rfl, h⟩ := h
    refine ⟨fun e => ⟨rfl, by rw [h2 _ e]; exact h⟩, fun e => ?_⟩
    subst e
    exact Or.inr ⟨h1, by rw [h2 _ hne.symm]; exact hw⟩
  | k + 1, x, r, h => by
    rcases h with h | h
    · obtain ⟨a, b⟩ := rk_link hu hw hne h1 h2 h
      exact ⟨fun e => Or.inl (a e), fun e => Or.inl (b e)⟩
    · by_cases e : x = u
      · subst e
        rw [hu] at h
        obtain ⟨a, b⟩ := rk_link hu hw hne h1 h2 h
        exact ⟨fun e => Or.inl (a e), fun e => Or.inl (b e)⟩
      · obtain ⟨a, b⟩ := rk_link hu hw hne h1 h2 h
        exact ⟨fun q => Or.inr (by rw [h2 _ e]; exact a q), fun q => Or.inr (by rw [h2 _ e]; exact b q)⟩
/-- the least equivalence that has the roots and what waits -/
def Qq (n : Nat) (ρ : Nat → Nat) (t : List (Nat × Nat)) (x y : Nat) : Prop := ∀ E, eqv E → (∀ z, z < n → E z (ρ z)) → (∀ p ∈ t, E p.1 p.2) → E x y
def clo (n : Nat) (K A B : Nat → Nat) (E : Nat → Nat → Prop) : Prop := eqv E ∧ ∀ x y, x < n → y < n → E x y → K x = K y → ((3 ≤ K x ∧ K x ≤ 4) → E (A x) (A y)) ∧ (K x = 4 → E (B x) (B y))
def clash (n : Nat) (K : Nat → Nat) (E : Nat → Nat → Prop) : Prop := ∃ x y, x < n ∧ y < n ∧ E x y ∧ K x ≠ 2 ∧ K y ≠ 2 ∧ K x ≠ K y
def Ui (n : Nat) (K A B ρ : Nat → Nat) (t cs : List (Nat × Nat)) : Prop :=
  (∀ x, x < n → ρ x < n ∧ ρ (ρ x) = ρ x) ∧
  (∀ x, x < n → K x ≠ 2 → K (ρ x) = K x ∧ ((3 ≤ K x ∧ K x ≤ 4) → Qq n ρ t (A x) (A (ρ x))) ∧ (K x = 4 → Qq n ρ t (B x) (B (ρ x)))) ∧
  (∀ E, clo n K A B E → (∀ p ∈ cs, E p.1 p.2) → (∀ z, z < n → E z (ρ z)) ∧ ∀ p ∈ t, E p.1 p.2) ∧
  (∀ p ∈ cs, Qq n ρ t p.1 p.2) ∧ (∀ p ∈ t, p.1 < n ∧ p.2 < n) ∧ (∀ p ∈ cs, p.1 < n ∧ p.2 < n) ∧
  (∀ x, x < n → ((3 ≤ K x ∧ K x ≤ 4) → A x < n) ∧ (K x = 4 → B x < n))
section UI
variable {n : Nat} {K A B ρ : Nat → Nat} {t cs : List (Nat × Nat)}
theorem Qq_mono {ρ' : Nat → Nat} {t' : List (Nat × Nat)} (h : ∀ E, eqv E → (∀ z, z < n → E z (ρ' z)) → (∀ p ∈ t', E p.1 p.2) → (∀ z, z < n → E z (ρ z)) ∧ ∀ p ∈ t, E p.1 p.2) {x y : Nat} (q : Qq n ρ t x y) : Qq n ρ' t' x y :=
  fun E e1 e2 e3 => q E e1 (h E e1 e2 e3).1 (h E e1 e2 e3).2
/-- a pair is asked for -/
theorem Ui_ask (h : Ui n K A B ρ t cs) {x y : Nat} (hx : x < n) (hy : y < n) : Ui n K A B ρ ((x, y) :: t) ((x, y) :: cs) := by
  obtain ⟨h1, h2, h3, h4, h5, h6, h7⟩ := h
  have m : ∀ {a b : Nat}, Qq n ρ t a b → Qq n ρ ((x, y) :: t) a b := fun q => Qq_mono (fun E _ e2 e3 => ⟨e2, fun p hp => e3 p (List.mem_cons_of_mem _ hp)⟩) q
  refine ⟨h1, fun z hz hk => ?_, fun E he hc => ?_, fun p hp => ?_, fun p hp => ?_, fun p hp => ?_, h7⟩
  · obtain ⟨a, b, c⟩ := h2 z hz hk
    exact ⟨a, fun q => m (b q), fun q => m (c q)⟩
  · obtain ⟨a, b⟩ := h3 E he (fun p hp => hc p (List.mem_cons_of_mem _ hp))
    refine ⟨a, fun p hp => ?_⟩
    rcases List.mem_cons.mp hp with rfl | hp
    · exact hc _ List.mem_cons_self
    · exact b p hp
  · rcases List.mem_cons.mp hp with rfl | hp
    · exact fun E _ _ e3 => e3 _ List.mem_cons_self
    · exact m (h4 p hp)
  · rcases List.mem_cons.mp hp with rfl | hp
    · exact ⟨hx, hy⟩
    · exact h5 p hp
  · rcases List.mem_cons.mp hp with rfl | hp
    · exact ⟨hx, hy⟩
    · exact h6 p hp
/-- a pair whose roots are one -/
theorem Ui_skip {a b : Nat} (h : Ui n K A B ρ ((a, b) :: t) cs) (e : ρ a = ρ b) : Ui n K A B ρ t cs := by
  obtain ⟨h1, h2, h3, h4, h5, h6, h7⟩ := h
  have hab := h5 _ List.mem_cons_self
  have m : ∀ {x y : Nat}, Qq n ρ ((a, b) :: t) x y → Qq n ρ t x y := fun q => Qq_mono (fun E e1 e2 e3 => ⟨e2, fun p hp => by
    rcases List.mem_cons.mp hp with rfl | hp
    · have q1 := e2 a hab.1
      have q2 := e2 b hab.2
      rw [e] at q1
      exact e1.2.2 _ _ _ q1 (e1.2.1 _ _ q2)
    · exact e3 p hp⟩) q
  refine ⟨h1, fun z hz hk => ?_, fun E he hc => ?_, fun p hp => m (h4 p hp), fun p hp => h5 p (List.mem_cons_of_mem _ hp), h6, h7⟩
  · obtain ⟨a, b, c⟩ := h2 z hz hk
    exact ⟨a, fun q => m (b q), fun q => m (c q)⟩
  · obtain ⟨a, b⟩ := h3 E he hc
    exact ⟨a, fun p hp => b p (List.mem_cons_of_mem _ hp)⟩
/-- a pair whose roots u, w are joined: u goes below w -/
theorem Ui_link {a b u w : Nat} {ps : List (Nat × Nat)} (h : Ui n K A B ρ ((a, b) :: t) cs) (hr : (ρ a = u ∧ ρ b = w) ∨ (ρ a = w ∧ ρ b = u))
    (hk : K u = 2 ∨ (K u = K w)) (hps : ∀ E, eqv E → ((∀ p ∈ ps, E p.1 p.2) ↔ (K u ≠ 2 → ((3 ≤ K u ∧ K u ≤ 4) → E (A u) (A w)) ∧ (K u = 4 → E (B u) (B w))))) (hpn : ∀ p ∈ ps, p.1 < n ∧ p.2 < n) :
    Ui n K A B (fun x => if ρ x = u then w else ρ x) (ps ++ t) cs := by
  obtain ⟨h1, h2, h3, h4, h5, h6, h7⟩ := h
  have hab := h5 _ List.mem_cons_self
  have hun : u < n ∧ ρ u = u := by
    rcases hr with ⟨q, -⟩ | ⟨-, q⟩
    · rw [← q]; exact h1 a hab.1
    · rw [← q]; exact h1 b hab.2
  have hwn : w < n ∧ ρ w = w := by
    rcases hr with ⟨-, q⟩ | ⟨q, -⟩
    · rw [← q]; exact h1 b hab.2
    · rw [← q]; exact h1 a hab.1
  have low : ∀ E, eqv E → (∀ z, z < n → E z ((fun x => if ρ x = u then w else ρ x) z)) → (∀ z, z < n → E z (ρ z)) ∧ E a b ∧ E u w := by
    intro E e1 e2
    have huw : E u w := by
      have := e2 u hun.1
      simp only [hun.2, if_true] at this
      exact this
    have hz : ∀ z, z < n → E z (ρ z) := fun z hz => by
      have := e2 z hz
      simp only at this
      split at this
      · rename_i q
        rw [q]
        exact e1.2.2 _ _ _ this (e1.2.1 _ _ huw)
      · exact this
    refine ⟨hz, ?_, huw⟩
    have qa := hz a hab.1
    have qb := hz b hab.2
    rcases hr with ⟨q1, q2⟩ | ⟨q1, q2⟩
    · rw [q1] at qa
      rw [q2] at qb
      exact e1.2.2 _ _ _ (e1.2.2 _ _ _ qa huw) (e1.2.1 _ _ qb)
    · rw [q1] at qa
      rw [q2] at qb
      exact e1.2.2 _ _ _ qa (e1.2.2 _ _ _ (e1.2.1 _ _ huw) (e1.2.1 _ _ qb))
  have m : ∀ {x y : Nat}, Qq n ρ ((a, b) :: t) x y → Qq n (fun x => if ρ x = u then w else ρ x) (ps ++ t) x y := fun q => Qq_mono (fun E e1 e2 e3 => by
    obtain ⟨a1, a2, a3⟩ := low E e1 e2
    refine ⟨a1, fun p hp => ?_⟩
    rcases List.mem_cons.mp hp with rfl | hp
    · exact a2
    · exact e3 p (List.mem_append_right _ hp)) q
  refine ⟨fun x hx => ?_, fun z hz hkz => ?_, fun E he hc => ?_, fun p hp => m (h4 p hp), fun p hp => ?_, h6, h7⟩
  · simp only
    by_cases q : ρ x = u
    · rw [if_pos q]
      refine ⟨hwn.1, ?_⟩
      split
      · rfl
      · exact hwn.2
    · rw [if_neg q, (h1 x hx).2, if_neg q]
      exact ⟨(h1 x hx).1, rfl⟩
  · obtain ⟨b1, b2, b3⟩ := h2 z hz hkz
    simp only
    by_cases q : ρ z = u
    · rw [if_pos q]
      rw [q] at b1 b2 b3
      have hku : K u ≠ 2 := by rw [b1]; exact hkz
      have hkw : K w = K z := by
        rcases hk with hk | hk
        · exact absurd hk hku
        · rw [← hk]; exact b1
      refine ⟨hkw, fun k9 E e1 e2 e3 => ?_, fun k9 E e1 e2 e3 => ?_⟩
      · have q1 := ((hps E e1).mp (fun p hp => e3 p (List.mem_append_left _ hp))) hku
        exact e1.2.2 _ _ _ (m (b2 k9) E e1 e2 e3) (q1.1 (by rw [b1]; exact k9))
      · have q1 := ((hps E e1).mp (fun p hp => e3 p (List.mem_append_left _ hp))) hku
        exact e1.2.2 _ _ _ (m (b3 k9) E e1 e2 e3) (q1.2 (by rw [b1]; exact k9))
    · rw [if_neg q]
      exact ⟨b1, fun k9 => m (b2 k9), fun k9 => m (b3 k9)⟩
  · obtain ⟨b1, b2⟩ := h3 E he hc
    have eab := b2 _ List.mem_cons_self
    have euw : E u w := by
      have qa := b1 a hab.1
      have qb := b1 b hab.2
      rcases hr with ⟨q1, q2⟩ | ⟨q1, q2⟩
      · rw [q1] at qa
        rw [q2] at qb
        exact he.1.2.2 _ _ _ (he.1.2.1 _ _ qa) (he.1.2.2 _ _ _ eab qb)
      · rw [q1] at qa
        rw [q2] at qb
        exact he.1.2.2 _ _ _ (he.1.2.1 _ _ qb) (he.1.2.2 _ _ _ (he.1.2.1 _ _ eab) qa)
    refine ⟨fun z hz => ?_, fun p hp => ?_⟩
    · simp only
      split
      · rename_i q
        have := b1 z hz
        rw [q] at this
        exact he.1.2.2 _ _ _ this euw
      · exact b1 z hz
    · rcases List.mem_append.mp hp with hp | hp
      · refine (hps E he.1).mpr (fun hku => ?_) p hp
        have e9 : K u = K w := hk.elim (fun q => absurd q hku) id
        exact he.2 u w hun.1 hwn.1 euw e9
      · exact b2 p (List.mem_cons_of_mem _ hp)
  · rcases List.mem_append.mp hp with hp | hp
    · exact hpn p hp
    · exact h5 p (List.mem_cons_of_mem _ hp)
/-- a pair that can't be joined -/
theorem Ui_fail {a b : Nat} (h : Ui n K A B ρ ((a, b) :: t) cs) (h1 : K (ρ a) ≠ 2) (h2 : K (ρ b) ≠ 2) (h3 : K (ρ a) ≠ K (ρ b)) : ∀ E, clo n K A B E → (∀ p ∈ cs, E p.1 p.2) → clash n K E := by
  intro E he hc
  obtain ⟨q1, q2⟩ := h.2.2.1 E he hc
  have hab := h.2.2.2.2.1 _ List.mem_cons_self
  refine ⟨ρ a, ρ b, (h.1 a hab.1).1, (h.1 b hab.2).1, ?_, h1, h2, h3⟩
  exact he.1.2.2 _ _ _ (he.1.2.1 _ _ (q1 a hab.1)) (he.1.2.2 _ _ _ (q2 _ List.mem_cons_self) (q1 b hab.2))
/-- nothing waits -/
theorem Ui_same (h : Ui n K A B ρ [] cs) {x y : Nat} (q : Qq n ρ [] x y) : ρ x = ρ y :=
  q (fun a b => ρ a = ρ b) ⟨fun _ => rfl, fun _ _ e => e.symm, fun _ _ _ e f => e.trans f⟩ (fun z hz => (h.1 z hz).2.symm) (fun p hp => nomatch hp)
theorem Ui_A (h : Ui n K A B ρ [] cs) {x : Nat} (hx : x < n) (hk : 3 ≤ K x ∧ K x ≤ 4) : ρ (A x) = ρ (A (ρ x)) := Ui_same h ((h.2.1 x hx (by omega)).2.1 hk)
theorem Ui_B (h : Ui n K A B ρ [] cs) {x : Nat} (hx : x < n) (hk : K x = 4) : ρ (B x) = ρ (B (ρ x)) := Ui_same h ((h.2.1 x hx (by omega)).2.2 hk)
theorem Ui_K (h : Ui n K A B ρ [] cs) {x : Nat} (hx : x < n) (hk : K x ≠ 2) : K (ρ x) = K x := (h.2.1 x hx hk).1
theorem Ui_clo (h : Ui n K A B ρ [] cs) : clo n K A B (fun a b => ρ a = ρ b) := by
  refine ⟨⟨fun _ => rfl, fun _ _ e => e.symm, fun _ _ _ e f => e.trans f⟩, fun x y hx hy e hk => ⟨fun k9 => ?_, fun k9 => ?_⟩⟩
  · have e : ρ x = ρ y := e
    show ρ (A x) = ρ (A y)
    rw [Ui_A h hx k9, e, ← Ui_A h hy (by rw [← hk]; exact k9)]
  · have e : ρ x = ρ y := e
    show ρ (B x) = ρ (B y)
    rw [Ui_B h hx k9, e, ← Ui_B h hy (by rw [← hk]; exact k9)]
theorem Ui_cs (h : Ui n K A B ρ [] cs) {p : Nat × Nat} (hp : p ∈ cs) : ρ p.1 = ρ p.2 := Ui_same h (h.2.2.2.1 p hp)
theorem Ui_no (h : Ui n K A B ρ [] cs) : ¬ clash n K (fun a b => ρ a = ρ b) := by
  rintro ⟨x, y, hx, hy, e, h1, h2, h3⟩
  have e : ρ x = ρ y := e
  rw [← Ui_K h hx h1, ← Ui_K h hy h2, e] at h3
  exact h3 rfl
/-- another node -/
theorem Ui_grow {K' A' B' ρ' : Nat → Nat} (h : Ui n K A B ρ [] cs) (e : ∀ x, x < n → K' x = K x ∧ A' x = A x ∧ B' x = B x ∧ ρ' x = ρ x) (hr : ρ' n = n) (hA : ((3 ≤ K' n ∧ K' n ≤ 4) → A' n < n) ∧ (K' n = 4 → B' n < n)) : Ui (n + 1) K' A' B' ρ' [] cs := by
  have h0 := h
  obtain ⟨h1, h2, h3, h4, h5, h6, h7⟩ := h
  have rr : ∀ {x y : Nat}, x < n → y < n → ρ x = ρ y → Qq (n + 1) ρ' [] x y := by
    intro x y hx hy q E e1 e2 e3
    have a1 := e2 x (by omega)
    have a2 := e2 y (by omega)
    rw [(e x hx).2.2.2, q] at a1
    rw [(e y hy).2.2.2] at a2
    exact e1.2.2 _ _ _ a1 (e1.2.1 _ _ a2)
  have sp : ∀ x, x < n + 1 → x < n ∨ x = n := fun x hx => by omega
  refine ⟨fun x hx => ?_, fun x hx hk => ?_, fun E he hc => ?_, fun p hp => ?_, fun p hp => (nomatch hp), fun p hp => ?_, fun x hx => ?_⟩
  · rcases sp x hx with hx | rfl
    · obtain ⟨a, b⟩ := h1 x hx
      rw [(e x hx).2.2.2, (e _ a).2.2.2]
      exact ⟨by omega, b⟩
    · rw [hr]
      exact ⟨by omega, hr⟩
  · rcases sp x hx with hx | rfl
    · have a := (h1 x hx).1
      rw [(e x hx).1] at hk ⊢
      rw [(e x hx).2.1, (e x hx).2.2.1, (e x hx).2.2.2, (e _ a).1, (e _ a).2.1, (e _ a).2.2.1]
      refine ⟨(h2 x hx hk).1, fun k9 => ?_, fun k9 => ?_⟩
      · exact rr ((h7 x hx).1 k9) ((h7 _ a).1 (by rw [(h2 x hx hk).1]; exact k9)) (Ui_A h0 hx k9)
      · exact rr ((h7 x hx).2 k9) ((h7 _ a).2 (by rw [(h2 x hx hk).1]; exact k9)) (Ui_B h0 hx k9)
    · rw [hr]
      exact ⟨rfl, fun _ E e1 _ _ => e1.1 _, fun _ E e1 _ _ => e1.1 _⟩
  · have he' : clo n K A B E := by
      refine ⟨he.1, fun x y hx hy q hk => ?_⟩
      have := he.2 x y (by omega) (by omega) q (by rw [(e x hx).1, (e y hy).1]; exact hk)
      rw [(e x hx).1, (e x hx).2.1, (e x hx).2.2.1, (e y hy).2.1, (e y hy).2.2.1] at this
      exact this
    obtain ⟨a, -⟩ := h3 E he' hc
    refine ⟨fun z hz => ?_, fun p hp => (nomatch hp)⟩
    rcases sp z hz with hz | rfl
    · rw [(e z hz).2.2.2]; exact a z hz
    · rw [hr]; exact he.1.1 _
  · obtain ⟨a, b⟩ := h6 p hp
    exact rr a b (Ui_cs h0 hp)
  · obtain ⟨a, b⟩ := h6 p hp
    exact ⟨by omega, by omega⟩
  · rcases sp x hx with hx | rfl
    · rw [(e x hx).1, (e x hx).2.1, (e x hx).2.2.1]
      exact ⟨fun k9 => Nat.lt_succ_of_lt ((h7 x hx).1 k9), fun k9 => Nat.lt_succ_of_lt ((h7 x hx).2 k9)⟩
    · exact ⟨fun k9 => Nat.lt_succ_of_lt (hA.1 k9), fun k9 => Nat.lt_succ_of_lt (hA.2 k9)⟩
end UI
