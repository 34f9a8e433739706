/-! Numbering the variables: the two loops in step. -/
theorem mu_ps {M : Mm} {ρ : Nat → Nat} {x m : Nat} (h : mu M ρ x m ≠ 0) : m ∈ psc M ρ x := by
  unfold psc
  rcases mu_iff.mp h with ⟨a, b⟩ | ⟨a, b⟩
  · by_cases k3 : M 26 x = 3
    · rw [if_pos k3, b]; exact List.mem_singleton.mpr rfl
    · rw [if_neg k3, if_pos (show M 26 x = 4 by omega), b]; exact List.mem_cons_self
  · rw [if_neg (by omega), if_pos a, b]; exact List.mem_cons_of_mem _ (List.mem_singleton.mpr rfl)
section NUM
variable {Mc Mr Mc' Mr' : Mm} {S : Nat → Nat → Prop} {n n' : Nat} {cs : List (Nat × Nat)} {ρ ρ' : Nat → Nat}
/-- no new variable -/
theorem NV_keep {c u q k : Nat} {w : Int} {L L' : List (Nat × Nat)} (h : Fin2 Mc Mr S n n' cs ρ ρ') (v : NV Mc Mr S n n' ρ ρ' ((c, u) :: L) k) (hq : ρ' u = q)
    (e26 : Mc' 26 = Mc 26 ∧ Mc' 27 = Mc 27 ∧ Mc' 28 = Mc 28) (e76 : Mr' 76 = Mr 76)
    (hk : Mc' 25 9 = (k : Int) ∧ Mr' 53 50 = (k : Int)) (h31 : ∀ y, Mc' 31 y = if y = c then w else Mc 31 y) (h80 : ∀ y, Mr' 80 y = if y = q then 1 else Mr 80 y)
    (hw : (Mc 31 c ≠ -2 ∧ w = Mc 31 c) ∨ (Mc 31 c = -2 ∧ Mc 26 c ≠ 2 ∧ w = -1)) (e32 : ∀ j, Mc' 32 j = Mc 32 j) (e92 : ∀ j, Mr' 92 j = Mr 92 j) (e93 : ∀ j, Mr' 93 j = Mr 93 j)
    (hL : sk Mc' 33 (L'.map Prod.fst) ∧ sk Mr' 82 (L'.map Prod.snd) ∧ ∀ p ∈ L', Tt S n n' ρ ρ' p.1 p.2 ∧ ρ p.1 = p.1) (hs : ∀ m, m ∈ L.map Prod.fst → m ∈ L'.map Prod.fst)
    (h8 : Mc 31 c = -2 → ∀ m, mu Mc ρ c m ≠ 0 → m ∈ L'.map Prod.fst) : NV Mc' Mr' S n n' ρ ρ' L' k := by
  obtain ⟨v1, ⟨v2, v3, v4⟩, v5, v6, v7, v8, v9, v10⟩ := v
  obtain ⟨t, tc⟩ := v4 (c, u) List.mem_cons_self
  have t : Tt S n n' ρ ρ' c u := t
  have tc : ρ c = c := tc
  have kk : Mc 26 c = Mr 76 q := by have := T_k h t; rw [tc, hq] at this; exact this
  have ww : w ≠ -2 := by omega
  -- what was seen stays seen
  have mono : ∀ y, Mc 31 y ≠ -2 → Mc' 31 y = Mc 31 y := fun y hy => by
    rw [h31 y]
    by_cases e : y = c
    · subst e; rw [if_pos rfl]; omega
    · rw [if_neg e]
  have q2 : Mr 76 q = 2 → Mr 80 q = 1 := fun z => by
    have := v9 c u t (by rw [tc]; omega)
    rw [tc, hq] at this
    rcases hw with ⟨a, -⟩ | ⟨-, a, -⟩
    · exact this.mp a
    · omega
  refine ⟨hk, hL, fun y hy => ?_, fun y hy => ?_, fun i hi => ?_, fun x hx hr k2 m1 => ?_, fun d x td kd => ?_, fun x m hx hr sx mx => ?_⟩
  · rw [e26.1]
    by_cases e : y = c
    · subst e
      rcases hw with ⟨a, b⟩ | ⟨a, b, b'⟩
      · rw [mono y a]
        rcases v5 y hy with z | z | ⟨z1, i, z2, z3, z4⟩
        · exact Or.inl z
        · exact Or.inr (Or.inl z)
        · exact Or.inr (Or.inr ⟨z1, i, z2, z3, by rw [e32]; exact z4⟩)
      · exact Or.inr (Or.inl ⟨b, by rw [h31, if_pos rfl]; exact b'⟩)
    · rw [h31, if_neg e]
      rcases v5 y hy with z | z | ⟨z1, i, z2, z3, z4⟩
      · exact Or.inl z
      · exact Or.inr (Or.inl z)
      · exact Or.inr (Or.inr ⟨z1, i, z2, z3, by rw [e32]; exact z4⟩)
  · rw [h80]
    split
    · exact Or.inr rfl
    · exact v6 y hy
  · obtain ⟨a, b, z1, z2, z3, z4, z5, z6, z7, z8, z9⟩ := v7 i hi
    refine ⟨a, b, by rw [e32]; exact z1, by rw [e92]; exact z2, z3, z4, z5, by rw [mono a (by omega)]; exact z6, by rw [e26.1]; exact z7, ?_, by rw [e93]; exact z9⟩
    rw [h80]
    split
    · rfl
    · exact z8
  · rw [e76] at k2
    rw [h80] at m1
    have m1 : Mr 80 x = 1 := by
      by_cases e : x = q
      · rw [e]; exact q2 (by rw [← e]; exact k2)
      · rw [if_neg e] at m1; exact m1
    obtain ⟨i, i1, i2⟩ := v8 x hx hr k2 m1
    exact ⟨i, i1, by rw [e92]; exact i2⟩
  · rw [e26.1] at kd
    have old := v9 d x td kd
    by_cases e : ρ d = c
    · have eq : ρ' x = q := by
        rcases T_u h td t (by rw [e, tc]) with z | z
        · rw [z, hq]
        · omega
      rw [e, eq, h31, if_pos rfl, h80, if_pos rfl]
      exact ⟨fun _ => rfl, fun _ => ww⟩
    · have nq : ρ' x ≠ q := fun z => e (by rw [T_c h td t (by rw [z, hq]), tc])
      rw [h31, if_neg e, h80, if_neg nq]
      exact old
  · have mx : mu Mc ρ x m ≠ 0 := by
      unfold mu at mx
      rw [e26.1, e26.2.1, e26.2.2] at mx
      exact mx
    by_cases e : x = c ∧ Mc 31 c = -2
    · rw [e.1] at mx
      exact Or.inr (h8 e.2 m mx)
    · have sx : Mc 31 x ≠ -2 := by
        by_cases e2 : x = c
        · rw [e2]; exact fun z => e ⟨e2, z⟩
        · rw [h31, if_neg e2] at sx; exact sx
      rcases v10 x m hx hr sx mx with z | z
      · exact Or.inl (by rw [mono m z]; exact z)
      · rcases List.mem_cons.mp z with z | z
        · refine Or.inl ?_
          rw [show m = c from z, h31, if_pos rfl]
          exact ww
        · exact Or.inr (hs m z)
/-- a new variable -/
theorem NV_var {c u q k : Nat} {L : List (Nat × Nat)} (h : Fin2 Mc Mr S n n' cs ρ ρ') (v : NV Mc Mr S n n' ρ ρ' ((c, u) :: L) k) (hq : ρ' u = q)
    (e26 : Mc' 26 = Mc 26 ∧ Mc' 27 = Mc 27 ∧ Mc' 28 = Mc 28) (e76 : Mr' 76 = Mr 76)
    (hk : Mc' 25 9 = ((k + 1 : Nat) : Int) ∧ Mr' 53 50 = ((k + 1 : Nat) : Int)) (h31 : ∀ y, Mc' 31 y = if y = c then (k : Int) else Mc 31 y) (h80 : ∀ y, Mr' 80 y = if y = q then 1 else Mr 80 y)
    (hw : Mc 31 c = -2) (hv : Mc 26 c = 2) (e32 : ∀ j, Mc' 32 j = if j = k then (c : Int) else Mc 32 j) (e92 : ∀ j, Mr' 92 j = if j = k then (q : Int) else Mr 92 j) (e93 : ∀ j, Mr' 93 j = if j = k then 0 else Mr 93 j)
    (hL : sk Mc' 33 (L.map Prod.fst) ∧ sk Mr' 82 (L.map Prod.snd)) : NV Mc' Mr' S n n' ρ ρ' L (k + 1) := by
  obtain ⟨v1, ⟨v2, v3, v4⟩, v5, v6, v7, v8, v9, v10⟩ := v
  obtain ⟨t, tc⟩ := v4 (c, u) List.mem_cons_self
  have t : Tt S n n' ρ ρ' c u := t
  have tc : ρ c = c := tc
  have kk : Mc 26 c = Mr 76 q := by have := T_k h t; rw [tc, hq] at this; exact this
  have un : Mr 80 q ≠ 1 := fun z => by
    have := v9 c u t (by rw [tc]; omega)
    rw [tc, hq] at this
    exact this.mpr z hw
  have qn : q < n' := by rw [← hq]; exact (h.2.1.2.2 u (T_lt t).2).1
  have qr : ρ' q = q := by rw [← hq]; exact (h.2.1.2.2 u (T_lt t).2).2
  have mono : ∀ y, Mc 31 y ≠ -2 → Mc' 31 y = Mc 31 y := fun y hy => by
    rw [h31 y, if_neg (fun e => hy (by rw [e]; exact hw))]
  refine ⟨hk, ⟨hL.1, hL.2, fun p hp => v4 p (List.mem_cons_of_mem _ hp)⟩, fun y hy => ?_, fun y hy => ?_, fun i hi => ?_, fun x hx hr k2 m1 => ?_, fun d x td kd => ?_, fun x m hx hr sx mx => ?_⟩
  · rw [e26.1]
    by_cases e : y = c
    · subst e
      exact Or.inr (Or.inr ⟨hv, k, by omega, by rw [h31, if_pos rfl], by rw [e32, if_pos rfl]⟩)
    · rw [h31, if_neg e]
      rcases v5 y hy with z | z | ⟨z1, i, z2, z3, z4⟩
      · exact Or.inl z
      · exact Or.inr (Or.inl z)
      · exact Or.inr (Or.inr ⟨z1, i, by omega, z3, by rw [e32, if_neg (by omega)]; exact z4⟩)
  · rw [h80]
    split
    · exact Or.inr rfl
    · exact v6 y hy
  · by_cases e : i = k
    · subst e
      refine ⟨c, q, by rw [e32, if_pos rfl], by rw [e92, if_pos rfl], tc, qr, T_r t (T_lt t).1 qn rfl (by rw [hq, qr]), by rw [h31, if_pos rfl], by rw [e26.1]; exact hv, by rw [h80, if_pos rfl], by rw [e93, if_pos rfl]⟩
    · obtain ⟨a, b, z1, z2, z3, z4, z5, z6, z7, z8, z9⟩ := v7 i (by omega)
      refine ⟨a, b, by rw [e32, if_neg e]; exact z1, by rw [e92, if_neg e]; exact z2, z3, z4, z5, by rw [mono a (by omega)]; exact z6, by rw [e26.1]; exact z7, ?_, by rw [e93, if_neg e]; exact z9⟩
      rw [h80]
      split
      · rfl
      · exact z8
  · rw [e76] at k2
    by_cases e : x = q
    · exact ⟨k, by omega, by rw [e92, if_pos rfl, e]⟩
    · rw [h80, if_neg e] at m1
      obtain ⟨i, i1, i2⟩ := v8 x hx hr k2 m1
      exact ⟨i, by omega, by rw [e92, if_neg (by omega)]; exact i2⟩
  · rw [e26.1] at kd
    have old := v9 d x td kd
    by_cases e : ρ d = c
    · have eq : ρ' x = q := by
        rcases T_u h td t (by rw [e, tc]) with z | z
        · rw [z, hq]
        · omega
      rw [e, eq, h31, if_pos rfl, h80, if_pos rfl]
      exact ⟨fun _ => rfl, fun _ => by omega⟩
    · have nq : ρ' x ≠ q := fun z => e (by rw [T_c h td t (by rw [z, hq]), tc])
      rw [h31, if_neg e, h80, if_neg nq]
      exact old
  · have mx : mu Mc ρ x m ≠ 0 := by
      unfold mu at mx
      rw [e26.1, e26.2.1, e26.2.2] at mx
      exact mx
    by_cases e : x = c
    · rw [e] at mx
      rcases mu_iff.mp mx with ⟨z, -⟩ | ⟨z, -⟩ <;> omega
    · rw [h31, if_neg e] at sx
      rcases v10 x m hx hr sx mx with z | z
      · exact Or.inl (by rw [mono m z]; exact z)
      · rcases List.mem_cons.mp z with z | z
        · refine Or.inl ?_
          rw [show m = c from z, h31, if_pos rfl]
          omega
        · exact Or.inr z
end NUM
