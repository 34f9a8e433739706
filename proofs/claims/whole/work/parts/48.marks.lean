/-! The numbered types: what stands in one, as the class and the reference mark it. -/
def Oc (lf rt : Nat → Int) (t i : Nat) : Prop := ∀ P : Nat → Prop, P t → (∀ j, P j → 10 ≤ j → P (lf j).toNat ∧ (rt j ≠ -1 → P (rt j).toNat)) → P i
theorem Oc_t (lf rt : Nat → Int) (t : Nat) : Oc lf rt t t := fun _ h _ => h
theorem Oc_l {lf rt : Nat → Int} {t j : Nat} (h : Oc lf rt t j) (hj : 10 ≤ j) : Oc lf rt t (lf j).toNat := fun P h1 h2 => (h2 j (h P h1 h2) hj).1
theorem Oc_r {lf rt : Nat → Int} {t j : Nat} (h : Oc lf rt t j) (hj : 10 ≤ j) (hr : rt j ≠ -1) : Oc lf rt t (rt j).toNat := fun P h1 h2 => (h2 j (h P h1 h2) hj).2 hr
/-- the class's types -/
def TyC (M : Mm) : Prop := (10 ≤ M 1 3 ∧ M 1 3 ≤ 40) ∧ ∀ t : Nat, 10 ≤ t → (t : Int) < M 1 3 → (0 ≤ M 2 t ∧ M 2 t < (t : Int)) ∧ (M 3 t = -1 ∨ (0 ≤ M 3 t ∧ M 3 t < (t : Int)))
/-- and the reference's -/
def TyR (Mc Mr : Mm) : Prop := Mr 53 1 = Mc 1 3 ∧ (∀ t : Nat, t < 10 → Mr 54 t = if t < 2 then (t : Int) else 2) ∧ ∀ t : Nat, 10 ≤ t → (t : Int) < Mc 1 3 → Mr 55 t = Mc 2 t ∧ ((Mc 3 t = -1 ∧ Mr 54 t = 3 ∧ Mr 56 t = 0) ∨ (Mc 3 t ≠ -1 ∧ Mr 54 t = 4 ∧ Mr 56 t = Mc 3 t))
theorem f91_eq {M : Mm} {i : Nat} (hi : i < 40) : f91 M (i : Int) = some (M 2 i) := by
  unfold f91
  rw [if_pos (by omega), Int.toNat_natCast]
theorem f93_eq {M : Mm} {i : Nat} (hi : i < 40) : f93 M (i : Int) = some (M 3 i) := by
  unfold f93
  rw [if_pos (by omega), Int.toNat_natCast]
theorem f92_eq {M : Mm} {i : Nat} (hi : i < 40) (h10 : 10 ≤ i) : f92 M (i : Int) = some (if M 3 i = -1 then 1 else 0) := by
  unfold f92
  rw [if_neg (by omega), if_pos (by omega), Int.toNat_natCast]
  by_cases h : M 3 i = -1
  · rw [if_neg (by simp [h]), if_pos h]
  · rw [if_pos h, if_neg h]
/-- what is marked so far -/
def Mk (M : Mm) (a : Nat) (lf rt : Nat → Int) (t x : Nat) : Prop := (∀ i, i ≤ t → M a i = 0 ∨ M a i = 1) ∧ M a t = 1 ∧ (∀ i, i ≤ t → M a i = 1 → Oc lf rt t i) ∧ ∀ j, x < j → j ≤ t → 10 ≤ j → M a j = 1 → M a (lf j).toNat = 1 ∧ (rt j ≠ -1 → M a (rt j).toNat = 1)
theorem Mk_done {M : Mm} {a : Nat} {lf rt : Nat → Int} {t : Nat} (ht : ∀ j, 10 ≤ j → j ≤ t → (0 ≤ lf j ∧ lf j < (j : Int)) ∧ (rt j = -1 ∨ (0 ≤ rt j ∧ rt j < (j : Int)))) (h : Mk M a lf rt t 9) {i : Nat} (hi : Oc lf rt t i) : i ≤ t ∧ M a i = 1 := by
  obtain ⟨h1, h2, h3, h4⟩ := h
  refine hi (fun i => i ≤ t ∧ M a i = 1) ⟨Nat.le_refl _, h2⟩ (fun j hj h10 => ?_)
  obtain ⟨b1, b2⟩ := ht j h10 hj.1
  obtain ⟨c1, c2⟩ := h4 j (by omega) hj.1 h10 hj.2
  exact ⟨⟨by omega, c1⟩, fun q => ⟨by omega, c2 q⟩⟩
theorem Mk_no {M : Mm} {a : Nat} {lf rt : Nat → Int} {t x : Nat} (h : Mk M a lf rt t (x + 1)) (h0 : M a (x + 1) = 0 ∨ x + 1 < 10) : Mk M a lf rt t x := by
  refine ⟨h.1, h.2.1, h.2.2.1, fun j h1 h2 h3 h4 => ?_⟩
  by_cases e : j = x + 1
  · subst e
    rcases h0 with h0 | h0
    · rw [h0] at h4; cases h4
    · omega
  · exact h.2.2.2 j (by omega) h2 h3 h4
/-- marking the parts of one -/
theorem Mk_one {M M' : Mm} {a : Nat} {lf rt : Nat → Int} {t x : Nat} (ht : ∀ j, 10 ≤ j → j ≤ t → (0 ≤ lf j ∧ lf j < (j : Int)) ∧ (rt j = -1 ∨ (0 ≤ rt j ∧ rt j < (j : Int)))) (h : Mk M a lf rt t (x + 1)) (h10 : 10 ≤ x + 1) (hx : x + 1 ≤ t) (h1 : M a (x + 1) = 1) (e : ∀ i, M' a i = if i = (lf (x + 1)).toNat ∨ (rt (x + 1) ≠ -1 ∧ i = (rt (x + 1)).toNat) then 1 else M a i) : Mk M' a lf rt t x := by
  obtain ⟨a1, a2, a3, a4⟩ := h
  have mono : ∀ i, M a i = 1 → M' a i = 1 := fun i q => by
    rw [e]
    split
    · rfl
    · exact q
  refine ⟨fun i hi => ?_, mono _ a2, fun i hi q => ?_, fun j h1' h2 h3 h4 => ?_⟩
  · rw [e]
    split
    · exact Or.inr rfl
    · exact a1 i hi
  · rw [e] at q
    split at q
    · rename_i c
      have o := a3 (x + 1) hx h1
      rcases c with rfl | ⟨c1, rfl⟩
      · exact Oc_l o h10
      · exact Oc_r o h10 c1
    · exact a3 i hi q
  · by_cases ej : j = x + 1
    · subst ej
      exact ⟨by rw [e, if_pos (Or.inl rfl)], fun q => by rw [e, if_pos (Or.inr ⟨q, rfl⟩)]⟩
    · have hj1 : M a j = 1 := by
        rw [e] at h4
        split at h4
        · rename_i c
          obtain ⟨b1, b2⟩ := ht (x + 1) h10 hx
          rcases c with c | ⟨c1, c⟩ <;> omega
        · exact h4
      obtain ⟨c1, c2⟩ := a4 j (by omega) h2 h3 hj1
      exact ⟨mono _ c1, fun q => mono _ (c2 q)⟩
theorem l90_29 {t : Nat} (ht40 : t < 40) : ∀ (f : Nat) (M : Mm) (x : Nat), TyC M → (t : Int) < M 1 3 → x < f → x ≤ t → Mk M 41 (M 2) (M 3) t x → wp (l90 f 29 M (t : Int) (x : Int)) (fun q => (∀ a, a ≠ 41 → q.2 a = M a) ∧ Mk q.2 41 (M 2) (M 3) t 9)
  | 0, _, _, _, _, h, _, _ => absurd h (Nat.not_lt_zero _)
  | f + 1, M, x, hT, htc, hf, hx, hm => by
    have ht : ∀ j : Nat, 10 ≤ j → j ≤ t → (0 ≤ M 2 j ∧ M 2 j < (j : Int)) ∧ (M 3 j = -1 ∨ (0 ≤ M 3 j ∧ M 3 j < (j : Int))) := fun j h1 h2 => hT.2 j h1 (by omega)
    rw [l90]
    refine wp_ite (fun h10 => wp_some ⟨fun _ _ => rfl, ?_⟩) (fun h10 => ?_)
    · refine ⟨hm.1, hm.2.1, hm.2.2.1, fun j h1 h2 h3 h4 => hm.2.2.2 j (by omega) h2 h3 h4⟩
    · obtain ⟨y, rfl⟩ : ∃ y, x = y + 1 := ⟨x - 1, by omega⟩
      have cy : ((y + 1 : Nat) : Int) + -1 = (y : Int) := by omega
      refine wp_chk (by omega) ?_
      rw [Int.toNat_natCast, cy]
      obtain ⟨b1, b2⟩ := ht (y + 1) (by omega) hx
      refine wp_ite (fun h0 => ?_) (fun h0 => ?_)
      · exact wp_chk (by omega) (l90_29 ht40 f M y hT htc (by omega) (by omega) (Mk_no hm (Or.inl h0)))
      · have h1 : M 41 (y + 1) = 1 := (hm.1 _ hx).resolve_left h0
        refine wp_do ⟨_, f91_eq (by omega), rfl⟩ ?_
        rintro v rfl
        refine wp_chk (by omega) ?_
        have fr : ∀ (N : Mm) (y : Nat), (∀ a, a ≠ 41 → N a = M a) → y < f → y ≤ t → Mk N 41 (M 2) (M 3) t y → wp (l90 f 29 N (t : Int) (y : Int)) (fun q => (∀ a, a ≠ 41 → q.2 a = M a) ∧ Mk q.2 41 (M 2) (M 3) t 9) := by
          intro N y hN hyf hyt hk
          have e1 := hN 1 (by decide)
          have e2 := hN 2 (by decide)
          have e3 := hN 3 (by decide)
          have := l90_29 ht40 f N y (by unfold TyC; rw [e1, e2, e3]; exact hT) (by rw [e1]; exact htc) hyf hyt (by rw [e2, e3]; exact hk)
          refine wp_mono this ?_
          rintro q ⟨q1, q2⟩
          rw [e2, e3] at q2
          exact ⟨fun a ha => (q1 a ha).trans (hN a ha), q2⟩
        refine wp_do ⟨_, f92_eq (by omega) (by omega), rfl⟩ ?_
        rintro v rfl
        rw [up_cell (show 3 ≠ 41 by decide)]
        refine wp_ite (fun hl => ?_) (fun hl => ?_)
        · have hl' : M 3 (y + 1) = -1 := by
            apply Classical.byContradiction
            intro q
            rw [if_neg q] at hl
            exact hl rfl
          refine wp_chk (by omega) (fr _ y (fun a ha => up_cell ha) (by omega) (by omega) (Mk_one ht hm (by omega) hx h1 (fun i => ?_)))
          by_cases e : i = (M 2 (y + 1)).toNat
          · subst e
            rw [up_same, if_pos (Or.inl rfl)]
          · rw [up_at e, if_neg (by rintro (q | ⟨q, -⟩); exact e q; exact q hl')]
        · have hl' : ¬ M 3 (y + 1) = -1 := by
            intro q
            rw [if_pos q] at hl
            exact hl (by decide)
          refine wp_do ⟨_, f93_eq (by omega), rfl⟩ ?_
          rintro v rfl
          rw [up_cell (show 3 ≠ 41 by decide)]
          refine wp_chk (by omega) (wp_chk (by omega) (fr _ y (fun a ha => by rw [up_cell ha, up_cell ha]) (by omega) (by omega) (Mk_one ht hm (by omega) hx h1 (fun i => ?_))))
          by_cases e : i = (M 3 (y + 1)).toNat
          · subst e
            rw [up_same, if_pos (Or.inr ⟨hl', rfl⟩)]
          · rw [up_at e]
            by_cases e2 : i = (M 2 (y + 1)).toNat
            · subst e2
              rw [up_same, if_pos (Or.inl rfl)]
            · rw [up_at e2, if_neg (by rintro (q | ⟨-, q⟩); exact e2 q; exact e q)]
theorem l90_2 {t : Nat} (ht40 : t < 40) : ∀ (f : Nat) (M : Mm) (x : Nat), TyC M → (t : Int) < M 1 3 → 100 < x + f → x ≤ t → (∀ i, i < x → M 41 i = 0) → wp (l90 f 2 M (t : Int) (x : Int)) (fun q => (∀ a, a ≠ 41 → q.2 a = M a) ∧ Mk q.2 41 (M 2) (M 3) t 9)
  | 0, _, _, _, _, h, h2, _ => by omega
  | f + 1, M, x, hT, htc, hf, hx, h0 => by
    rw [l90]
    refine wp_ite (fun hle => ?_) (fun hle => ?_)
    · obtain rfl : x = t := by omega
      refine wp_chk (by omega) ?_
      rw [Int.toNat_natCast]
      have e1 : (up M 41 x 1) 1 = M 1 := up_cell (by decide)
      have e2 : (up M 41 x 1) 2 = M 2 := up_cell (by decide)
      have e3 : (up M 41 x 1) 3 = M 3 := up_cell (by decide)
      have := l90_29 ht40 f (up M 41 x 1) x (by unfold TyC; rw [e1, e2, e3]; exact hT) (by rw [e1]; exact htc) (by omega) (Nat.le_refl _) (by
        rw [e2, e3]
        refine ⟨fun i hi => ?_, up_same _ _ _ _, fun i hi q => ?_, fun j h1 h2 => by omega⟩
        · by_cases e : i = x
          · subst e; rw [up_same]; exact Or.inr rfl
          · rw [up_at e, h0 i (by omega)]; exact Or.inl rfl
        · by_cases e : i = x
          · subst e; exact Oc_t _ _ _
          · rw [up_at e, h0 i (by omega)] at q; cases q)
      refine wp_mono this ?_
      rintro q ⟨q1, q2⟩
      rw [e2, e3] at q2
      exact ⟨fun a ha => (q1 a ha).trans (up_cell ha), q2⟩
    · refine wp_chk (by omega) (wp_chk (by omega) ?_)
      rw [Int.toNat_natCast, show (x : Int) + 1 = ((x + 1 : Nat) : Int) by omega]
      have e1 : (up M 41 x 0) 1 = M 1 := up_cell (by decide)
      have e2 : (up M 41 x 0) 2 = M 2 := up_cell (by decide)
      have e3 : (up M 41 x 0) 3 = M 3 := up_cell (by decide)
      have := l90_2 ht40 f (up M 41 x 0) (x + 1) (by unfold TyC; rw [e1, e2, e3]; exact hT) (by rw [e1]; exact htc) (by omega) (by omega) (fun i hi => by
        by_cases e : i = x
        · subst e; exact up_same _ _ _ _
        · rw [up_at e]; exact h0 i (by omega))
      refine wp_mono this ?_
      rintro q ⟨q1, q2⟩
      rw [e2, e3] at q2
      exact ⟨fun a ha => (q1 a ha).trans (up_cell ha), q2⟩
theorem f90_ok {M : Mm} {t : Nat} (hT : TyC M) (htc : (t : Int) < M 1 3) : wp (f90 M (t : Int)) (fun q => (∀ a, a ≠ 41 → q.2 a = M a) ∧ Mk q.2 41 (M 2) (M 3) t 9) := by
  have := hT.1
  exact l90_2 (by omega) FU M 0 hT htc (by unfold FU; omega) (Nat.zero_le _) (fun i hi => by omega)
