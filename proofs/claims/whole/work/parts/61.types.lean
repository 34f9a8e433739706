/-! The types of all places, here and there. -/
theorem Ui_id {n : Nat} {K A B : Nat → Nat} (h : ∀ x, x < n → ((3 ≤ K x ∧ K x ≤ 4) → A x < n) ∧ (K x = 4 → B x < n)) : Ui n K A B (fun x => x) [] [] :=
  ⟨fun x hx => ⟨hx, rfl⟩, fun x _ _ => ⟨rfl, fun _ E e _ _ => e.1 _, fun _ E e _ _ => e.1 _⟩, fun E he _ => ⟨fun z _ => he.1.1 z, fun p hp => (nomatch hp)⟩, fun p hp => (nomatch hp), fun p hp => (nomatch hp), fun p hp => (nomatch hp), h⟩
theorem cn_all {p : Nat → Bool} : ∀ {n : Nat}, (∀ x, x < n → p x = true) → cn p n = n
  | 0, _ => rfl
  | n + 1, h => by
    show cn p n + (if p n = true then 1 else 0) = n + 1
    rw [cn_all (fun x hx => h x (by omega)), if_pos (h n (by omega))]
theorem rc_id (n : Nat) : rc n (fun x => x) = n := cn_all (fun x _ => by simp)
theorem f74_raw {M : Mm} {n : Nat} {k a b : Int} (h : M 25 8 = (n : Int)) (hn : n < 2504) : f74 M k a b = some ((n : Int), up (up (up (up (up M 26 n k) 27 n a) 28 n b) 29 n (n : Int)) 25 8 ((n : Int) + 1)) := by
  unfold f74
  rw [h, if_pos (by omega), if_pos (by omega), Int.toNat_natCast]
theorem clear_ok (M : Mm) : ∃ M', f73 M = some (0, M') ∧ (∀ a, ¬ (25 ≤ a ∧ a ≤ 29) → M' a = M a) ∧ (∀ k, k ≠ 8 → M' 25 k = M 25 k) ∧ (M' 26 0 = 0 ∧ M' 26 1 = 1) ∧ Gc M' 2 0 (fun x => x) [] [] := by
  have e1 := f74_raw (M := up M 25 8 0) (n := 0) (k := 0) (a := -1) (b := -1) (up_same _ _ _ _) (by omega)
  generalize hM1 : (up (up (up (up (up (up M 25 8 0) 26 0 0) 27 0 (-1)) 28 0 (-1)) 29 0 ((0 : Nat) : Int)) 25 8 (((0 : Nat) : Int) + 1)) = M1 at e1
  have h1 : M1 25 8 = ((1 : Nat) : Int) := by rw [← hM1, up_same]; rfl
  have e2 := f74_raw (M := M1) (n := 1) (k := 1) (a := -1) (b := -1) h1 (by omega)
  refine ⟨up (up (up (up (up M1 26 1 1) 27 1 (-1)) 28 1 (-1)) 29 1 ((1 : Nat) : Int)) 25 8 (((1 : Nat) : Int) + 1), ?_, fun a ha => ?_, fun k hk => ?_, ?_, ?_⟩
  · unfold f73
    have e1 : f74 (up M 25 8 0) 0 (-1) (-1) = some (((0 : Nat) : Int), M1) := e1
    rw [e1, bs_]
    dsimp only
    rw [e2, bs_]
  · rw [up_cell (by omega), up_cell (by omega), up_cell (by omega), up_cell (by omega), up_cell (by omega), ← hM1, up_cell (by omega), up_cell (by omega), up_cell (by omega), up_cell (by omega), up_cell (by omega), up_cell (by omega)]
  · rw [up_at hk, up_cell (by decide), up_cell (by decide), up_cell (by decide), up_cell (by decide), ← hM1, up_at hk, up_cell (by decide), up_cell (by decide), up_cell (by decide), up_cell (by decide), up_at hk]
  · subst hM1
    constructor
    · simp [up]
    · simp [up]
  · subst hM1
    have r : ∀ x, x < 2 → x = 0 ∨ x = 1 := fun x hx => by omega
    refine ⟨⟨by simp [up], by omega, by omega, fun x hx => ?_⟩, ⟨fun y hy => ?_, fun y hy => ?_⟩, by rw [rc_id]; omega, Ui_id (fun x hx => ?_)⟩
    · rcases r x hx with rfl | rfl
      · simp [up]
      · simp [up]
    · rcases r y hy with rfl | rfl
      · simp [up]
      · simp [up]
    · refine ⟨rfl, ?_⟩
      rcases r y hy with rfl | rfl
      · simp [up, gN]
      · simp [up, gN]
    · rcases r x hx with rfl | rfl
      · simp [up, gN]
      · simp [up, gN]
theorem Tw_iff {Mc Mr : Mm} {S S' : Nat → Nat → Prop} {cs : List (Nat × Nat)} {n n' : Nat} (h : ∀ c u, S c u ↔ S' c u) (t : Tw Mc Mr S n n' cs) : Tw Mc Mr S' n n' cs := by
  have : S = S' := by
    funext c u
    exact propext (h c u)
  rw [← this]
  exact t
/-- the places' own pairs -/
def Sp (Mr : Mm) (q : Nat) : Nat → Nat → Prop := fun c u => ∃ i, i < q ∧ c = 2 + i ∧ Mr 85 i = (u : Int)
theorem ta_loop {Mr : Mm} {np n' : Nat} {e : Int} {ow : Nat → Nat} (hnp : np ≤ 60) (ln : Lnd Mr n' np ow) (d : Nat) : ∀ (q f : Nat) (Mc : Mm), q + d = np → d < f → Mc 24 13 = (np : Int) → Tw Mc Mr (Sp Mr q) (2 + q) n' [] → (∀ i, i < q → Mc 36 i = ((2 + i : Nat) : Int) ∧ Mc 39 i = 0) →
    ∃ Mc', l65 f 14 Mc e (q : Int) = l65 (f - d - 1) 53 Mc' e 0 ∧ (∀ a, ¬ (25 ≤ a ∧ a ≤ 29) → a ≠ 36 → a ≠ 39 → Mc' a = Mc a) ∧ (∀ k, k ≠ 8 → Mc' 25 k = Mc 25 k) ∧ Tw Mc' Mr (Sp Mr np) (2 + np) n' [] ∧ ∀ i, i < np → Mc' 36 i = ((2 + i : Nat) : Int) ∧ Mc' 39 i = 0 := by
  induction d with
  | zero =>
    intro q f Mc hq hf h24 tw hi
    obtain ⟨f, rfl⟩ : ∃ f', f = f' + 1 := ⟨f - 1, by omega⟩
    obtain rfl : q = np := by omega
    refine ⟨Mc, ?_, fun _ _ _ _ => rfl, fun _ _ => rfl, tw, hi⟩
    rw [l65, if_pos (by omega)]
    rfl
  | succ d ih =>
    intro q f Mc hq hf h24 tw hi
    obtain ⟨f, rfl⟩ : ∃ f', f = f' + 1 := ⟨f - 1, by omega⟩
    obtain ⟨-, l2, l3, l4, -⟩ := ln
    obtain ⟨-, u, u1, u2, u3⟩ := l4 q (by omega)
    obtain ⟨C1, c1, t1, w1, -⟩ := Tw_old tw (u := u) (by omega) u1 (l3 u u1) (fun d' hd => by
      obtain ⟨i, i1, i2, i3⟩ := hd
      obtain ⟨-, u', v1, v2, v3⟩ := l4 i (by omega)
      have : u' = u := by omega
      subst this
      omega)
    have cg := Cg_nn w1
    have e36 : ∀ i, (up (up C1 36 q ((2 + q : Nat) : Int)) 39 q 0) 36 i = if i = q then ((2 + q : Nat) : Int) else Mc 36 i := fun i => by simp [up, cg.1 36 (by omega)]
    have e39 : ∀ i, (up (up C1 36 q ((2 + q : Nat) : Int)) 39 q 0) 39 i = if i = q then 0 else Mc 39 i := fun i => by simp [up, cg.1 39 (by omega)]
    have ez : ∀ a, ¬ (25 ≤ a ∧ a ≤ 29) → a ≠ 36 → a ≠ 39 → (up (up C1 36 q ((2 + q : Nat) : Int)) 39 q 0) a = Mc a := fun a h1 h2 h3 => by rw [up_cell h3, up_cell h2]; exact w1.1 a (by omega) (by omega) (by omega) (by omega) (by omega)
    obtain ⟨Mc', z1, z2, z3, z4, z5⟩ := ih (q + 1) f (up (up C1 36 q ((2 + q : Nat) : Int)) 39 q 0) (by omega) (by omega) (by rw [ez 24 (by decide) (by decide) (by decide)]; exact h24) (by
      refine Tw_same (fun a h1 h2 => by rw [up_cell (by omega), up_cell (by omega)]) (fun _ _ _ => rfl) rfl (Tw_iff (fun c u' => ?_) t1)
      constructor
      · rintro (⟨i, i1, i2, i3⟩ | ⟨rfl, rfl⟩)
        · exact ⟨i, by omega, i2, i3⟩
        · exact ⟨q, by omega, rfl, u2⟩
      · rintro ⟨i, i1, i2, i3⟩
        by_cases e : i = q
        · subst e
          exact Or.inr ⟨i2, by omega⟩
        · exact Or.inl ⟨i, by omega, i2, i3⟩) (fun i hi' => by
      rw [e36, e39]
      by_cases e : i = q
      · subst e
        rw [if_pos rfl, if_pos rfl]
        exact ⟨rfl, rfl⟩
      · rw [if_neg e, if_neg e]
        exact hi i (by omega))
    refine ⟨Mc', ?_, fun a h1 h2 h3 => by rw [z2 a h1 h2 h3, ez a h1 h2 h3], fun k hk => by rw [z3 k hk, up_cell (by decide), up_cell (by decide), cg.2.1 k hk], z4, z5⟩
    rw [show f + 1 - (d + 1) - 1 = f - d - 1 by omega, ← z1, l65, if_neg (by omega), c1, bs_]
    dsimp only
    rw [if_pos (by omega), if_pos (by omega), Int.toNat_natCast, show (q : Int) + 1 = ((q + 1 : Nat) : Int) by omega]
theorem step_ok {Mc Mr : Mm} {S : Nat → Nat → Prop} {n n' p np : Nat} {cs : List (Nat × Nat)} {ow : Nat → Nat} (h : PS Mc Mr S n n' cs p np ow) (hp : p < np) : ∃ (b : Int) (Mc' Mr' : Mm), f76 Mc (p : Int) = some (b, Mc') ∧ f215 Mr (p : Int) = some (b, Mr') ∧ Nxt Mc Mr b Mc' Mr' p np ow := by
  obtain ⟨tw, st, ly, -⟩ := id h
  obtain ⟨⟨k1, k2⟩, -⟩ := st.2.2.2.1.2 _ (LayP_e ly hp).2
  rcases (show Mc 13 (eAt Mc p) = 0 ∨ Mc 13 (eAt Mc p) = 1 ∨ Mc 13 (eAt Mc p) = 2 ∨ Mc 13 (eAt Mc p) = 3 ∨ Mc 13 (eAt Mc p) = 4 ∨ Mc 13 (eAt Mc p) = 5 ∨ Mc 13 (eAt Mc p) = 6 by omega) with k | k | k | k | k | k | k
  · exact step_0 h hp k
  · exact step_1 h hp k
  · exact step_2 h hp k
  · exact step_3 h hp k
  · exact step_4 h hp k
  · exact step_5 h hp k
  · exact step_6 h hp k
theorem CFr_trans {M M1 M2 : Mm} (a : CFr M M1) (b : CFr M1 M2) : CFr M M2 := ⟨fun c hc => (b.1 c hc).trans (a.1 c hc), fun k hk => (b.2 k hk).trans (a.2 k hk)⟩
theorem RFr_trans {M M1 M2 : Mm} (a : RFr M M1) (b : RFr M1 M2) : RFr M M2 := ⟨fun c h1 h2 h3 => (b.1 c h1 h2 h3).trans (a.1 c h1 h2 h3), fun k h1 h2 => (b.2 k h1 h2).trans (a.2 k h1 h2)⟩
theorem pl_loop {np : Nat} {e e' : Int} {ow : Nat → Nat} (d : Nat) : ∀ (p f g : Nat) (Mc Mr : Mm) (S : Nat → Nat → Prop) (n n' : Nat) (cs : List (Nat × Nat)), p + d = np → d < f → d < g → PS Mc Mr S n n' cs p np ow →
    ∃ (b : Int) (Mc' Mr' : Mm), l65 f 53 Mc e (p : Int) = some (b, Mc') ∧ l211 g 17 Mr e' (p : Int) = some (b, Mr') ∧ CFr Mc Mc' ∧ RFr Mr Mr' ∧ ((b = 0 ∧ Nf Mr') ∨ (b = 1 ∧ ∃ S' m m' cs', PS Mc' Mr' S' m m' cs' np np ow)) := by
  induction d with
  | zero =>
    intro p f g Mc Mr S n n' cs hp hf hg h
    obtain ⟨f, rfl⟩ : ∃ f', f = f' + 1 := ⟨f - 1, by omega⟩
    obtain ⟨g, rfl⟩ : ∃ g', g = g' + 1 := ⟨g - 1, by omega⟩
    obtain rfl : p = np := by omega
    have ly := h.2.2.1
    refine ⟨1, Mc, Mr, ?_, ?_, ⟨fun _ _ => rfl, fun _ _ => rfl⟩, ⟨fun _ _ _ _ => rfl, fun _ _ _ => rfl⟩, Or.inr ⟨rfl, S, n, n', cs, h⟩⟩
    · rw [l65, ly.2.1, if_pos (Int.le_refl _)]
    · rw [l211, ly.2.2.1, if_pos (Int.le_refl _)]
  | succ d ih =>
    intro p f g Mc Mr S n n' cs hp hf hg h
    obtain ⟨f, rfl⟩ : ∃ f', f = f' + 1 := ⟨f - 1, by omega⟩
    obtain ⟨g, rfl⟩ : ∃ g', g = g' + 1 := ⟨g - 1, by omega⟩
    have ly := h.2.2.1
    have np60 := ly.1
    obtain ⟨b, C1, R1, e1, e2, c, r, w⟩ := step_ok h (by omega)
    have bn := h.2.2.2.2.2.2.2.1
    have g25 : Mc 25 8 = (n : Int) := (Tw_G h.1).1.1
    have e75 : f75 Mc = some 1 := by
      unfold f75
      rw [g25, if_pos (by omega), if_neg (by omega)]
    have l1 : l65 (f + 1) 53 Mc e (p : Int) = if ¬ b = 0 then l65 f 53 C1 e ((p + 1 : Nat) : Int) else some (0, C1) := by
      rw [l65, ly.2.1, if_neg (by omega), e75, bs_, if_neg (by decide), e1, bs_]
      dsimp only
      rw [if_pos (show rg ((p : Int) + 1) by omega), show (p : Int) + 1 = ((p + 1 : Nat) : Int) by omega]
    have l2 : l211 (g + 1) 17 Mr e' (p : Int) = if ¬ b = 0 then l211 g 17 R1 e' ((p + 1 : Nat) : Int) else some (0, R1) := by
      rw [l211, ly.2.2.1, if_neg (by omega), e2, bs_]
      dsimp only
      rw [if_pos (show rg ((p : Int) + 1) by omega), show (p : Int) + 1 = ((p + 1 : Nat) : Int) by omega]
    rcases w with ⟨rfl, wn⟩ | ⟨rfl, S', m, m', cs', w⟩
    · rw [if_neg (by decide)] at l1 l2
      exact ⟨0, C1, R1, l1, l2, c, r, Or.inl ⟨rfl, wn⟩⟩
    · rw [if_pos (by decide)] at l1 l2
      obtain ⟨b, C2, R2, z1, z2, z3, z4, z5⟩ := ih (p + 1) f g C1 R1 S' m m' cs' (by omega) (by omega) (by omega) w
      exact ⟨b, C2, R2, l1.trans z1, l2.trans z2, CFr_trans c z3, RFr_trans r z4, z5⟩
