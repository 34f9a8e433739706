/-! The type of the whole gets its number, here and there. -/
section NUMT
variable {Mc Mr : Mm} {S : Nat → Nat → Prop} {n n' k : Nat} {cs : List (Nat × Nat)} {ρ ρ' : Nat → Nat} {T : Nat → Ty}
theorem vOK_seen {c : Nat} (F : Fg Mc n ρ) (A : Acy Mc ρ n) (tg : TyG Mc n ρ T) (sn : Sn Mc ρ n c) (h5 : ∀ y, y < n → Mc 26 y ≠ 5) (h8 : ∀ y, y < n → Mc 26 y = 2 → Mc 31 y < 8) (hc : c < n) : vOK (T c) := by
  obtain ⟨r, hr, hx⟩ := A
  have key : ∀ (b x : Nat), r x ≤ b → x < n → ρ x = x → Mc 31 x ≠ -2 → vOK (T x) := by
    intro b
    induction b with
    | zero =>
      intro x hb hn hq h2
      exact one x hn hq h2 (fun m z => by have := hx x m hn hq z; omega)
    | succ b ih =>
      intro x hb hn hq h2
      refine one x hn hq h2 (fun m z => ?_)
      have h3 := hx x m hn hq z
      have h4 := sn.2.1 x m hn hq h2 z
      have hm : m < n ∧ ρ m = m := by
        have w := F.1.2.2.2 x hn
        rcases mu_iff.mp z with ⟨z1, z2⟩ | ⟨z1, z2⟩
        · have w1 := w.2.1 z1
          rw [← z2]
          exact F.2.2 _ (by omega)
        · have w1 := w.2.2.2.1 z1
          rw [← z2]
          exact F.2.2 _ (by omega)
      exact ih m (by omega) hm.1 hm.2 h4
  have rc := F.2.2 c hc
  rw [tg.1 c (ρ c) rc.2.symm]
  exact key (r (ρ c)) (ρ c) (Nat.le_refl _) rc.1 rc.2 sn.1
where
  one : ∀ x, x < n → ρ x = x → Mc 31 x ≠ -2 → (∀ m, mu Mc ρ x m ≠ 0 → vOK (T m)) → vOK (T x) := by
    intro x hx hq h2 hm
    obtain ⟨g0, g1, g2, g3, g4, g5⟩ := tg.2 x hx
    rw [hq] at g0 g1 g2 g3 g4 g5
    have w := F.1.2.2.2 x hx
    have e27 : (3 ≤ Mc 26 x ∧ Mc 26 x ≤ 4) → vOK (T (Mc 27 x).toNat) := fun z => by
      have w1 := w.2.1 z
      have r1 := F.2.2 (Mc 27 x).toNat (by omega)
      rw [tg.1 _ _ r1.2.symm]
      exact hm _ (mu_iff.mpr (Or.inl ⟨z, rfl⟩))
    have e28 : Mc 26 x = 4 → vOK (T (Mc 28 x).toNat) := fun z => by
      have w1 := w.2.2.2.1 z
      have r1 := F.2.2 (Mc 28 x).toNat (by omega)
      rw [tg.1 _ _ r1.2.symm]
      exact hm _ (mu_iff.mpr (Or.inr ⟨z, rfl⟩))
    by_cases k0 : Mc 26 x = 0
    · rw [g0 k0]; exact trivial
    · by_cases k1 : Mc 26 x = 1
      · rw [g1 k1]; exact trivial
      · by_cases k2 : Mc 26 x = 2
        · rw [g2 k2]
          have z1 := sn.2.2 x hx k2 h2
          have z2 := h8 x hx k2
          refine ⟨rfl, ?_, ?_⟩
          · unfold lb; rw [if_neg (by omega)]; exact z1
          · unfold lb; rw [if_neg (by omega)]; exact z2
        · by_cases k3 : Mc 26 x = 3
          · rw [g3 k3]; exact ⟨rfl, e27 (by omega)⟩
          · have k4 : Mc 26 x = 4 := by have := h5 x hx; omega
            rw [g4 k4]; exact ⟨e27 (by omega), e28 k4⟩
theorem l99t_ok {n : Nat} (hn : n ≤ 2504) (d : Nat) : ∀ (x f : Nat) (M : Mm), x + d = n → d < f → (∀ m, m < x → M 44 m = -1) → ∃ M', l99_44 f 10 M 0 (n : Int) (-1) (x : Int) = some (0, M') ∧ (∀ a, a ≠ 44 → M' a = M a) ∧ ∀ m, m < n → M' 44 m = -1 := by
  induction d with
  | zero =>
    intro x f M hx hf h
    obtain ⟨f, rfl⟩ : ∃ f', f = f' + 1 := ⟨f - 1, by omega⟩
    obtain rfl : x = n := by omega
    exact ⟨M, by rw [l99_44, if_pos (Int.le_refl _)], fun _ _ => rfl, h⟩
  | succ d ih =>
    intro x f M hx hf h
    obtain ⟨f, rfl⟩ : ∃ f', f = f' + 1 := ⟨f - 1, by omega⟩
    obtain ⟨M', z1, z2, z3⟩ := ih (x + 1) f (up M 44 x (-1)) (by omega) (by omega) (fun m hm => by
      by_cases e : m = x
      · subst e; exact up_same _ _ _ _
      · rw [up_at e]; exact h m (by omega))
    refine ⟨M', ?_, fun a ha => by rw [z2 a ha, up_cell ha], z3⟩
    rw [l99_44, if_neg (by omega), if_pos (by omega), if_pos (by omega), Int.toNat_natCast, show (x : Int) + 1 = ((x + 1 : Nat) : Int) by omega]
    exact z1
/-- the class's way, whole -/
theorem cnum_ok {c : Nat} (F : Fg Mc n ρ) (tg : TyG Mc n ρ T) (tc : TyC Mc) (tv : TyV Mc) (h5 : ∀ y, y < n → Mc 26 y ≠ 5) (h8 : ∀ y, y < n → Mc 26 y = 2 → Mc 31 y < 8) (hc : c < n) (h36 : Mc 36 0 = (c : Int)) (vc : vOK (T c)) :
    ∃ v M', f136 Mc = some (v, M') ∧ (∀ a, a ≠ 1 → a ≠ 2 → a ≠ 3 → a ≠ 4 → a ≠ 29 → a ≠ 44 → M' a = Mc a) ∧ (∀ j, j ≠ 3 → M' 1 j = Mc 1 j) ∧ (∀ t : Nat, (t : Int) < Mc 1 3 → M' 4 t = Mc 4 t ∧ M' 2 t = Mc 2 t ∧ M' 3 t = Mc 3 t) ∧ Fg M' n ρ ∧ ((v = -1 ∧ M' 1 3 = Mc 1 3 ∧ ins (T c) (tabC Mc) = none) ∨ ∃ t : Nat, v = (t : Int) ∧ ins (T c) (tabC Mc) = some (t, tabC M') ∧ TyC M' ∧ TyV M') := by
  have hn := F.1.2.2.1
  obtain ⟨M1, e1, e2, e3⟩ := l99t_ok hn n 0 FU Mc (by omega) (by unfold FU; omega) (fun m hm => by omega)
  have e1 : l99_44 FU 10 Mc 0 (n : Int) (-1) 0 = some (0, M1) := e1
  have nt1 : NT M1 n ρ T := by
    refine ⟨Fg_same (fun a b1 b2 => e2 a (by omega)) F, TyG_fr ⟨e2 26 (by decide), e2 27 (by decide), e2 28 (by decide), e2 31 (by decide)⟩ tg, ?_, ?_, by rw [e2 26 (by decide)]; exact h5, ?_, fun y hy _ => Or.inl (e3 y hy)⟩
    · unfold TyC; rw [e2 1 (by decide), e2 2 (by decide), e2 3 (by decide)]; exact tc
    · unfold TyV; rw [e2 1 (by decide), e2 2 (by decide), e2 3 (by decide), e2 4 (by decide)]; exact tv
    · rw [e2 26 (by decide), e2 31 (by decide)]; exact fun y hy k => Or.inr (h8 y hy k)
  obtain ⟨M2, y1, y2, y3, y4⟩ := NT_80 nt1 hc
  have rc := F.2.2 c hc
  have Tc : T (ρ c) = T c := tg.1 _ _ rc.2
  obtain ⟨v, M3, z1, z2, z3, z4⟩ := f138_ok 40 0 M2 (ρ c) (by omega) (by omega) y2 rc.1 rc.2 (by rw [Tc]; exact vc)
  have z1 : f138 40 M2 (ρ c : Int) 0 = some (v, M3) := z1
  have c3 := Cz_trans y3 z3
  have t1 : tabC M1 = tabC Mc := by unfold tabC; rw [e2 1 (by decide), e2 2 (by decide), e2 3 (by decide)]
  rw [Tc, y4, t1] at z4
  have hd : f136 Mc = (if ¬ v = (-1) then (some (v, M3)) else (f140 M3 (Mc 1 3)).bind (fun z => some (v, z.2))) := by
    unfold f136 f137 f106 f99_44 f100
    rw [bs_, bs_, F.1.1, if_pos (by omega), if_pos (by omega), if_pos (by omega), bs_]
    dsimp only
    rw [e1, bs_]
    dsimp only
    unfold f129
    rw [bs_, show Int.toNat 0 = 0 from rfl, e2 36 (by decide), h36, y1, bs_]
    dsimp only
    rw [z1, bs_]
  have fr : ∀ a, a ≠ 1 → a ≠ 2 → a ≠ 3 → a ≠ 4 → a ≠ 29 → a ≠ 44 → M3 a = Mc a := fun a b1 b2 b3 b4 b5 b6 => by rw [c3.1 a b1 b2 b3 b4 b5 b6, e2 a b6]
  have fr1 : ∀ j, j ≠ 3 → M3 1 j = Mc 1 j := fun j hj => by rw [c3.2.1 j hj, e2 1 (by decide)]
  have fr2 : ∀ t : Nat, (t : Int) < Mc 1 3 → M3 4 t = Mc 4 t ∧ M3 2 t = Mc 2 t ∧ M3 3 t = Mc 3 t := fun t ht => by
    have := c3.2.2.1 t (by rw [e2 1 (by decide)]; exact ht)
    rw [e2 4 (by decide), e2 2 (by decide), e2 3 (by decide)] at this
    exact this
  rw [hd]
  rcases z4 with ⟨w1, w2⟩ | ⟨t, w1, w2⟩
  · rw [if_neg (fun z => z w1)]
    unfold f140
    rw [bs_]
    refine ⟨v, _, rfl, fun a b1 b2 b3 b4 b5 b6 => by dsimp only; rw [up_cell b1, fr a b1 b2 b3 b4 b5 b6], fun j hj => by dsimp only; rw [up_at hj, fr1 j hj], fun t ht => by dsimp only; rw [up_cell (by decide), up_cell (by decide), up_cell (by decide)]; exact fr2 t ht, Fg_same (fun a b1 b2 => up_cell (by omega)) z2.1, Or.inl ⟨w1, up_same M3 1 3 (Mc 1 3), ?_⟩⟩
    rcases w2 with w2 | w2
    · exact w2
    · cases e : ins (T c) (tabC Mc) with
      | none => rfl
      | some x =>
        obtain ⟨t, C⟩ := x
        obtain ⟨o1, o2, o3, o4, o5, o6⟩ := ins_ok (T c) vc (TyC_WT tc) e
        have := o1.1
        omega
  · rw [if_pos (by omega)]
    exact ⟨v, M3, rfl, fr, fr1, fr2, z2.1, Or.inr ⟨t, w1, w2, z2.2.2.1, z2.2.2.2.1⟩⟩
theorem l233_2 {n : Nat} {x1 : Int} (hn : n ≤ 4000) (d : Nat) : ∀ (x f : Nat) (M : Mm), x + d = n → d < f → M 53 28 = (n : Int) → (∀ m, m < x → M 81 m = -1) → ∃ M', l233 f 2 M x1 (x : Int) 0 0 0 0 = l233 (f - d - 1) 32 (up M' 82 0 x1) x1 1 0 0 0 0 ∧ (∀ a, a ≠ 81 → M' a = M a) ∧ ∀ m, m < n → M' 81 m = -1 := by
  induction d with
  | zero =>
    intro x f M hx hf h1 h
    obtain ⟨f, rfl⟩ : ∃ f', f = f' + 1 := ⟨f - 1, by omega⟩
    obtain rfl : x = n := by omega
    exact ⟨M, by rw [l233, h1, if_pos (Int.le_refl _)]; rfl, fun _ _ => rfl, h⟩
  | succ d ih =>
    intro x f M hx hf h1 h
    obtain ⟨f, rfl⟩ : ∃ f', f = f' + 1 := ⟨f - 1, by omega⟩
    obtain ⟨M', z1, z2, z3⟩ := ih (x + 1) f (up M 81 x (-1)) (by omega) (by omega) (by rw [up_cell (by decide)]; exact h1) (fun m hm => by
      by_cases e : m = x
      · subst e; exact up_same _ _ _ _
      · rw [up_at e]; exact h m (by omega))
    refine ⟨M', ?_, fun a ha => by rw [z2 a ha, up_cell ha], z3⟩
    rw [l233, h1, if_neg (by omega), if_pos (by omega), if_pos (by omega), Int.toNat_natCast, show (x : Int) + 1 = ((x + 1 : Nat) : Int) by omega, z1, show f - d - 1 = f + 1 - (d + 1) - 1 by omega]
theorem hT_le {c : Nat} (F : Fg Mc n ρ) (A : Acy Mc ρ n) (tg : TyG Mc n ρ T) (hc : c < n) : hT (T c) ≤ n := by
  obtain ⟨r, hr, hx⟩ := A
  have key : ∀ (b x : Nat), r x ≤ b → x < n → ρ x = x → hT (T x) ≤ r x := by
    intro b
    induction b with
    | zero =>
      intro x hb hn hq
      exact one r x hn hq (fun m z => by have := hx x m hn hq z; omega)
    | succ b ih =>
      intro x hb hn hq
      refine one r x hn hq (fun m z => ?_)
      have h3 := hx x m hn hq z
      have hm : m < n ∧ ρ m = m := by
        have w := F.1.2.2.2 x hn
        rcases mu_iff.mp z with ⟨z1, z2⟩ | ⟨z1, z2⟩
        · have w1 := w.2.1 z1
          rw [← z2]
          exact F.2.2 _ (by omega)
        · have w1 := w.2.2.2.1 z1
          rw [← z2]
          exact F.2.2 _ (by omega)
      have := ih m (by omega) hm.1 hm.2
      omega
  have rc := F.2.2 c hc
  rw [tg.1 c (ρ c) rc.2.symm]
  have := key (r (ρ c)) (ρ c) (Nat.le_refl _) rc.1 rc.2
  have := hr (ρ c)
  omega
where
  one : ∀ (r : Nat → Nat) x, x < n → ρ x = x → (∀ m, mu Mc ρ x m ≠ 0 → hT (T m) + 1 ≤ r x) → hT (T x) ≤ r x := by
    intro r x hx hq hm
    obtain ⟨g0, g1, g2, g3, g4, g5⟩ := tg.2 x hx
    rw [hq] at g0 g1 g2 g3 g4 g5
    have w := F.1.2.2.2 x hx
    have e27 : (3 ≤ Mc 26 x ∧ Mc 26 x ≤ 4) → hT (T (Mc 27 x).toNat) + 1 ≤ r x := fun z => by
      have w1 := w.2.1 z
      have r1 := F.2.2 (Mc 27 x).toNat (by omega)
      rw [tg.1 _ _ r1.2.symm]
      exact hm _ (mu_iff.mpr (Or.inl ⟨z, rfl⟩))
    have e28 : Mc 26 x = 4 → hT (T (Mc 28 x).toNat) + 1 ≤ r x := fun z => by
      have w1 := w.2.2.2.1 z
      have r1 := F.2.2 (Mc 28 x).toNat (by omega)
      rw [tg.1 _ _ r1.2.symm]
      exact hm _ (mu_iff.mpr (Or.inr ⟨z, rfl⟩))
    by_cases k0 : Mc 26 x = 0
    · rw [g0 k0]; exact Nat.zero_le _
    · by_cases k1 : Mc 26 x = 1
      · rw [g1 k1]; exact Nat.zero_le _
      · by_cases k2 : Mc 26 x = 2
        · rw [g2 k2]; exact Nat.zero_le _
        · by_cases k3 : Mc 26 x = 3
          · rw [g3 k3]; exact e27 (by omega)
          · by_cases k4 : Mc 26 x = 4
            · have := e27 (by omega)
              have := e28 k4
              rw [g4 k4]
              show max _ _ + 1 ≤ r x
              omega
            · rw [g5 (by omega)]; exact Nat.zero_le _
/-- the reference's way, whole -/
theorem rnum_ok {c u : Nat} {B : Tab} (h : Fin2 Mc Mr S n n' cs ρ ρ') (nm : Nm Mc Mr S n n' ρ ρ' k) (tg : TyG Mc n ρ T) (A : Acy Mc ρ n) (h5 : ∀ y, y < n → Mc 26 y ≠ 5) (q : S c u) (vc : vOK (T c)) (rt : RT Mr B) (wt : WT B) :
    ∃ v M', f233 Mr (u : Int) = some (v, M') ∧ Rq Mr M' ∧ ((v = -1 ∧ ins (T c) B = none) ∨ ∃ (t : Nat) (C : Tab), v = (t : Int) ∧ ins (T c) B = some (t, C) ∧ RT M' C) := by
  have hn' := h.2.1.1.2.1
  have tt := T_S h q
  have hn := h.1.1.2.2.1
  obtain ⟨M1, e1, e2, e3⟩ := l233_2 (x1 := (u : Int)) hn' n' 0 FU Mr (by omega) (by unfold FU; omega) h.2.1.1.1 (fun m hm => by omega)
  have e1 : f233 Mr (u : Int) = _ := e1
  have q1 : NQ Mc Mr S n n' ρ ρ' T (up M1 82 0 (u : Int)) B := by
    refine NQ_82 ⟨⟨fun a _ _ _ _ b5 _ => e2 a b5, fun j _ => by rw [e2 53 (by decide)], fun t _ => by rw [e2 54 (by decide), e2 55 (by decide), e2 56 (by decide)]; exact ⟨rfl, rfl, rfl⟩, by rw [e2 53 (by decide)]; exact Int.le_refl _⟩, RT_fr (by rw [e2 53 (by decide)]) ⟨e2 54 (by decide), e2 55 (by decide), e2 56 (by decide)⟩ rt, wt, fun d v td _ => Or.inl (e3 _ (h.2.1.2.2 v (T_lt td).2).1)⟩
  have m0 : (up M1 82 0 (u : Int)) 81 (ρ' u) = -1 := by
    rw [up_cell (by decide)]
    exact e3 _ (h.2.1.2.2 u (T_lt tt).2).1
  have hh := hT_le h.1 A tg (T_lt tt).1
  have un : uN (up M1 82 0 (u : Int)) n' ≤ n' := cn_le _ _
  have key := big_ok (x1 := (u : Int)) h nm tg h5 (hT (T c)) c u (FU - n' - 1) [] (up M1 82 0 (u : Int)) B (Nat.le_refl _) q1 tt vc ⟨up_same _ _ _ _, trivial⟩ (by simp; omega) m0 (by unfold FU; omega)
  rcases key with ⟨z1, M', z2, z3⟩ | ⟨t, C, M', f', z1, z2, z3, z4, z5, z6, z7, z8⟩
  · exact ⟨-1, M', by rw [e1]; exact z2, z3, Or.inl ⟨rfl, z1⟩⟩
  · refine ⟨(t : Int), M', ?_, z3.1, Or.inr ⟨t, C, rfl, z1, z3.2.1⟩⟩
    rw [e1]
    have z2 : l233 (FU - n' - 1) 32 (up M1 82 0 (u : Int)) (u : Int) 1 0 0 0 0 = l233 f' 32 M' (u : Int) 0 0 0 0 0 := z2
    obtain ⟨f', rfl⟩ : ∃ g, f' = g + 1 := ⟨f' - 1, by unfold FU at z7; omega⟩
    rw [z2, l233, if_pos (by decide), Fr_217 (NQ_fin h z3).2.1 (T_lt tt).2, bs_, if_pos (by have := h.2.1.2.2 u (T_lt tt).2; omega), Int.toNat_natCast, z4]
end NUMT
