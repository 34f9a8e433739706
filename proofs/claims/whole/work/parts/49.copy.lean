/-! The node of a numbered type, here and there. -/
/-- what the reference's tables say of these -/
def TyF (M : Mm) (lf rt : Nat → Int) (t : Nat) : Prop := ∀ j : Nat, 10 ≤ j → j ≤ t → (0 ≤ lf j ∧ lf j < (j : Int)) ∧ M 55 j = lf j ∧ ((rt j = -1 ∧ M 54 j = 3) ∨ ((0 ≤ rt j ∧ rt j < (j : Int)) ∧ M 54 j = 4 ∧ M 56 j = rt j))
theorem TyF_ht {M : Mm} {lf rt : Nat → Int} {t : Nat} (h : TyF M lf rt t) : ∀ j : Nat, 10 ≤ j → j ≤ t → (0 ≤ lf j ∧ lf j < (j : Int)) ∧ (rt j = -1 ∨ (0 ≤ rt j ∧ rt j < (j : Int))) := fun j h1 h2 => ⟨(h j h1 h2).1, (h j h1 h2).2.2.imp (fun q => q.1) (fun q => q.1)⟩
/-- the marks lead on to the building -/
theorem l223_m {t : Nat} {lf rt : Nat → Int} (ht40 : t < 40) {P : Int × Mm → Prop} : ∀ (x f : Nat) (M : Mm), x ≤ t → TyF M lf rt t → Mk M 80 lf rt t x → (∀ N : Mm, (∀ a, a ≠ 80 → N a = M a) → Mk N 80 lf rt t 9 → ∀ g, f ≤ g + x + 1 → g ≤ f → wp (l223 g 113 N (t : Int) 0) P) → x < f → wp (l223 f 53 M (t : Int) (x : Int)) P
  | x, 0, _, _, _, _, _, h => absurd h (Nat.not_lt_zero _)
  | 0, f + 1, M, hx, hT, hm, hgo, hf => by
    rw [l223]
    refine wp_T (by omega) (hgo M (fun _ _ => rfl) ⟨hm.1, hm.2.1, hm.2.2.1, fun j h1 h2 h3 h4 => hm.2.2.2 j (by omega) h2 h3 h4⟩ f (by omega) (by omega))
  | y + 1, f + 1, M, hx, hT, hm, hgo, hf => by
    rw [l223]
    refine wp_ite (fun h10 => ?_) (fun h10 => ?_)
    · exact hgo M (fun _ _ => rfl) ⟨hm.1, hm.2.1, hm.2.2.1, fun j h1 h2 h3 h4 => hm.2.2.2 j (by omega) h2 h3 h4⟩ f (by omega) (by omega)
    · have cy : ((y + 1 : Nat) : Int) + -1 = (y : Int) := by omega
      obtain ⟨b1, b2, b3⟩ := hT (y + 1) (by omega) hx
      have go2 : ∀ N : Mm, (∀ a, a ≠ 80 → N a = M a) → Mk N 80 lf rt t y → wp (l223 f 53 N (t : Int) (y : Int)) P := by
        intro N hN hk
        refine l223_m ht40 y f N (by omega) (by unfold TyF; rw [hN 54 (by decide), hN 55 (by decide), hN 56 (by decide)]; exact hT) hk (fun N2 h2 hk2 g hg hg2 => ?_) (by omega)
        exact hgo N2 (fun a ha => (h2 a ha).trans (hN a ha)) hk2 g (by omega) (by omega)
      refine wp_chk (by omega) ?_
      rw [Int.toNat_natCast, cy]
      refine wp_ite (fun h0 => ?_) (fun h0 => ?_)
      · have h1 : M 80 (y + 1) = 1 := (hm.1 _ hx).resolve_left h0
        refine wp_chk (by omega) (wp_chk (by omega) ?_)
        rw [b2]
        refine wp_ite (fun h4 => ?_) (fun h4 => ?_)
        · have hr : rt (y + 1) = -1 := by rcases b3 with q | q <;> omega
          refine wp_chk (by omega) (go2 _ (fun a ha => up_cell ha) (Mk_one (TyF_ht hT) hm (by omega) hx h1 (fun i => ?_)))
          by_cases e : i = (lf (y + 1)).toNat
          · subst e
            rw [up_same, if_pos (Or.inl rfl)]
          · rw [up_at e, if_neg (by rintro (q | ⟨q, -⟩); exact e q; exact q hr)]
        · obtain ⟨hr, -, h56⟩ : (0 ≤ rt (y + 1) ∧ rt (y + 1) < ((y + 1 : Nat) : Int)) ∧ M 54 (y + 1) = 4 ∧ M 56 (y + 1) = rt (y + 1) := by
            rcases b3 with q | q
            · omega
            · exact q
          rw [h56]
          refine wp_chk (by omega) (wp_chk (by omega) (go2 _ (fun a ha => by rw [up_cell ha, up_cell ha]) (Mk_one (TyF_ht hT) hm (by omega) hx h1 (fun i => ?_))))
          by_cases e : i = (rt (y + 1)).toNat
          · subst e
            rw [up_same, if_pos (Or.inr ⟨by omega, rfl⟩)]
          · rw [up_at e]
            by_cases e2 : i = (lf (y + 1)).toNat
            · subst e2
              rw [up_same, if_pos (Or.inl rfl)]
            · rw [up_at e2, if_neg (by rintro (q | ⟨-, q⟩); exact e2 q; exact e q)]
      · have h0 : M 80 (y + 1) = 0 := Classical.byContradiction h0
        exact wp_chk (by omega) (go2 M (fun _ _ => rfl) (Mk_no hm (Or.inl h0)))
theorem l223_i {t : Nat} {lf rt : Nat → Int} (ht40 : t < 40) {P : Int × Mm → Prop} : ∀ (d x f : Nat) (M : Mm), x + d = 40 → TyF M lf rt t → (∀ i, i < x → M 80 i = if i = t then 1 else 0) → (∀ N : Mm, (∀ a, a ≠ 80 → N a = M a) → Mk N 80 lf rt t 9 → ∀ g, f ≤ g + d + 60 → g ≤ f → wp (l223 g 113 N (t : Int) 0) P) → d + 50 < f → wp (l223 f 23 M (t : Int) (x : Int)) P
  | d, x, 0, _, _, _, _, _, h => absurd h (Nat.not_lt_zero _)
  | 0, x, f + 1, M, hx, hT, h0, hgo, hf => by
    rw [l223]
    refine wp_T (by omega) (l223_m ht40 t f M (Nat.le_refl _) hT ⟨fun i hi => ?_, ?_, fun i hi q => ?_, fun j h1 h2 => by omega⟩ (fun N hN hk g h1 h2 => hgo N hN hk g (by omega) (by omega)) (by omega))
    · rw [h0 i (by omega)]
      split
      · exact Or.inr rfl
      · exact Or.inl rfl
    · rw [h0 t (by omega), if_pos rfl]
    · rw [h0 i (by omega)] at q
      by_cases e : i = t
      · subst e; exact Oc_t _ _ _
      · rw [if_neg e] at q; cases q
  | d + 1, x, f + 1, M, hx, hT, h0, hgo, hf => by
    rw [l223]
    refine wp_F (by omega) ?_
    rw [show (x : Int) + 1 = ((x + 1 : Nat) : Int) by omega, Int.toNat_natCast]
    have go2 : ∀ N : Mm, (∀ a, a ≠ 80 → N a = M a) → (∀ i, i < x + 1 → N 80 i = if i = t then 1 else 0) → wp (l223 f 23 N (t : Int) ((x + 1 : Nat) : Int)) P := by
      intro N hN h1
      exact l223_i ht40 d (x + 1) f N (by omega) (by unfold TyF; rw [hN 54 (by decide), hN 55 (by decide), hN 56 (by decide)]; exact hT) h1 (fun N2 h2 hk g h3 h4 => hgo N2 (fun a ha => (h2 a ha).trans (hN a ha)) hk g (by omega) (by omega)) (by omega)
    refine wp_ite (fun hne => ?_) (fun he => ?_)
    · refine wp_chk (by omega) (wp_chk (by omega) (go2 _ (fun a ha => up_cell ha) (fun i hi => ?_)))
      by_cases e : i = x
      · subst e
        rw [up_same, if_neg (by omega)]
      · rw [up_at e, h0 i (by omega)]
    · refine wp_chk (by omega) (wp_chk (by omega) (go2 _ (fun a ha => up_cell ha) (fun i hi => ?_)))
      by_cases e : i = x
      · subst e
        rw [up_same, if_pos (by omega)]
      · rw [up_at e, h0 i (by omega)]
theorem l223_3 {t : Nat} {lf rt : Nat → Int} (ht40 : t < 40) {P : Int × Mm → Prop} : ∀ (d x f : Nat) (M : Mm), x + d = 40 → 10 ≤ x → (x ≤ t + 1 ∨ t < 10 ∧ x = 10) → TyF M lf rt t → (∀ N : Mm, (∀ a, a ≠ 80 → a ≠ 83 → N a = M a) → (∀ i, i < 10 → N 83 i = M 83 i) → Mk N 80 lf rt t 9 → ∀ g, f ≤ g + d + 200 → g ≤ f → wp (l223 g 113 N (t : Int) 0) P) → d + 200 < f → wp (l223 f 3 M (t : Int) (x : Int)) P
  | d, x, 0, _, _, _, _, _, _, h => absurd h (Nat.not_lt_zero _)
  | 0, x, f + 1, M, hx, h10, hxt, hT, hgo, hf => by
    rw [l223]
    exact wp_T (by omega) (l223_i ht40 40 0 f M (by omega) hT (fun i hi => by omega) (fun N hN hk g h1 h2 => hgo N (fun a h1 _ => hN a h1) (fun i _ => by rw [hN 83 (by decide)]) hk g (by omega) (by omega)) (by omega))
  | d + 1, x, f + 1, M, hx, h10, hxt, hT, hgo, hf => by
    rw [l223]
    refine wp_ite (fun hlt => ?_) (fun hlt => ?_)
    · exact l223_i ht40 40 0 f M (by omega) hT (fun i hi => by omega) (fun N hN hk g h1 h2 => hgo N (fun a h1 _ => hN a h1) (fun i _ => by rw [hN 83 (by decide)]) hk g (by omega) (by omega)) (by omega)
    · refine wp_chk (by omega) (wp_chk (by omega) ?_)
      rw [show (x : Int) + 1 = ((x + 1 : Nat) : Int) by omega, Int.toNat_natCast]
      refine l223_3 ht40 d (x + 1) f _ (by omega) (by omega) (by omega) (by unfold TyF; rw [up_cell (by decide), up_cell (by decide), up_cell (by decide)]; exact hT) (fun N hN h9 hk g h1 h2 => hgo N (fun a q1 q2 => by rw [hN a q1 q2, up_cell q2]) (fun i hi => by rw [h9 i hi, up_at (by omega)]) hk g (by omega) (by omega)) (by omega)
theorem Gc_same {M N : Mm} {n J : Nat} {ρ : Nat → Nat} {t cs : List (Nat × Nat)} (h : ∀ a, 25 ≤ a → a ≤ 29 → N a = M a) (g : Gc M n J ρ t cs) : Gc N n J ρ t cs := by
  have e25 := h 25 (by omega) (by omega)
  have e26 := h 26 (by omega) (by omega)
  have e27 := h 27 (by omega) (by omega)
  have e28 := h 28 (by omega) (by omega)
  have e29 := h 29 (by omega) (by omega)
  unfold Gc GW Lc
  rw [gN_fr e26, gN_fr e27, gN_fr e28, gN_fr e29, e25, e26, e27, e28, e29]
  exact g
theorem Gr_same {M N : Mm} {n J : Nat} {ρ : Nat → Nat} {t cs : List (Nat × Nat)} (h : ∀ a, 76 ≤ a → a ≤ 79 → N a = M a) (h53 : N 53 28 = M 53 28) (g : Gr M n J ρ t cs) : Gr N n J ρ t cs := by
  have e26 := h 76 (by omega) (by omega)
  have e27 := h 77 (by omega) (by omega)
  have e28 := h 78 (by omega) (by omega)
  have e29 := h 79 (by omega) (by omega)
  unfold Gr GWr Lr
  rw [gN_fr e26, gN_fr e27, gN_fr e28, gN_fr e29, h53, e26, e27, e28, e29]
  exact g
theorem Tw_same {Mc Mr N N' : Mm} {S : Nat → Nat → Prop} {cs : List (Nat × Nat)} {n n' : Nat} (h1 : ∀ a, 25 ≤ a → a ≤ 29 → N a = Mc a) (h2 : ∀ a, 76 ≤ a → a ≤ 79 → N' a = Mr a) (h3 : N' 53 28 = Mr 53 28) (h : Tw Mc Mr S n n' cs) : Tw N N' S n n' cs := by
  obtain ⟨h01, J, ρ, J', ρ', cs', g, g', s, sc⟩ := h
  have e26 := h1 26 (by omega) (by omega)
  have e27 := h1 27 (by omega) (by omega)
  have e28 := h1 28 (by omega) (by omega)
  have r26 := h2 76 (by omega) (by omega)
  have r27 := h2 77 (by omega) (by omega)
  have r28 := h2 78 (by omega) (by omega)
  refine ⟨by rw [e26, r26, r27]; exact h01, J, ρ, J', ρ', cs', Gc_same h1 g, Gr_same h2 h3 g', ?_, sc⟩
  unfold Ssm
  rw [gN_fr e26, gN_fr e27, gN_fr e28, gN_fr r26, gN_fr r27, gN_fr r28]
  exact s
theorem Inc_up {Mc0 Mr0 Mc Mr : Mm} {S0 S : Nat → Nat → Prop} {n0 n0' n n' : Nat} {cs : List (Nat × Nat)} (h : Inc Mc0 Mr0 S0 n0 n0' Mc Mr S n n' cs) (i : Nat) (v v' : Int) : Inc Mc0 Mr0 S0 n0 n0' (up Mc 40 i v) (up Mr 83 i v') S n n' cs := by
  obtain ⟨t, c, r, m, s1, s2, s3⟩ := h
  refine ⟨Tw_same (fun a h1 h2 => up_cell (by omega)) (fun a h1 h2 => up_cell (by omega)) (by rw [up_cell (by decide)]) t, ⟨fun a ha => ?_, fun k hk => ?_, fun x hx => ?_⟩, ⟨fun a h1 h2 h3 => ?_, fun k hk => ?_, fun x hx => ?_⟩, m, s1, s2, fun x h1 h2 => by rw [up_cell (by decide)]; exact s3 x h1 h2⟩
  · rw [up_cell (by omega)]; exact c.1 a ha
  · rw [up_cell (by decide)]; exact c.2.1 k hk
  · rw [up_cell (by decide), up_cell (by decide), up_cell (by decide)]; exact c.2.2 x hx
  · rw [up_cell (by omega)]; exact r.1 a h1 h2 h3
  · rw [up_cell (by decide)]; exact r.2.1 k hk
  · rw [up_cell (by decide), up_cell (by decide), up_cell (by decide)]; exact r.2.2 x hx
theorem bs_ {α β : Type} (a : α) (f : α → Option β) : (some a).bind f = f a := (Eq.refl ((some a).bind f)).trans rfl
def fx (ν : Nat → Nat) (x a : Nat) : Nat → Nat := fun i => if i = x then a else ν i
theorem fx_s {ν : Nat → Nat} {x a : Nat} : fx ν x a x = a := if_pos rfl
theorem fx_n {ν : Nat → Nat} {x a i : Nat} (h : i ≠ x) : fx ν x a i = ν i := if_neg h
theorem up_id (M : Mm) (a k : Nat) : up M a k (M a k) = M := by
  funext a' k'
  unfold up
  split
  · rename_i h; rw [h.1, h.2]
  · rfl
theorem f74_fr {M M' : Mm} {k a b v : Int} (h : f74 M k a b = some (v, M')) : M' 41 = M 41 ∧ M' 40 = M 40 := by
  unfold f74 at h
  split at h
  · split at h
    · cases h
      exact ⟨by simp only [up_cell (show 41 ≠ 25 by decide), up_cell (show 41 ≠ 29 by decide), up_cell (show 41 ≠ 28 by decide), up_cell (show 41 ≠ 27 by decide), up_cell (show 41 ≠ 26 by decide)], by simp only [up_cell (show 40 ≠ 25 by decide), up_cell (show 40 ≠ 29 by decide), up_cell (show 40 ≠ 28 by decide), up_cell (show 40 ≠ 27 by decide), up_cell (show 40 ≠ 26 by decide)]⟩
    · cases h
  · cases h
theorem f214_fr {M M' : Mm} {k a b v : Int} (h : f214 M k a b = some (v, M')) : M' 80 = M 80 ∧ M' 83 = M 83 := by
  unfold f214 at h
  split at h
  · split at h
    · split at h
      · cases h
        exact ⟨by simp only [up_cell (show 80 ≠ 53 by decide), up_cell (show 80 ≠ 79 by decide), up_cell (show 80 ≠ 78 by decide), up_cell (show 80 ≠ 77 by decide), up_cell (show 80 ≠ 76 by decide)], by simp only [up_cell (show 83 ≠ 53 by decide), up_cell (show 83 ≠ 79 by decide), up_cell (show 83 ≠ 78 by decide), up_cell (show 83 ≠ 77 by decide), up_cell (show 83 ≠ 76 by decide)]⟩
      · cases h
    · cases h
  · cases h
theorem f83_fr {M M' : Mm} {a b v : Int} (h : f83 M a b = some (v, M')) : M' 41 = M 41 ∧ M' 40 = M 40 := by
  unfold f83 at h
  obtain ⟨z, h1, h2⟩ := Option.bind_eq_some_iff.mp h
  cases h2
  exact f74_fr h1
theorem f219_fr {M M' : Mm} {a b v : Int} (h : f219 M a b = some (v, M')) : M' 80 = M 80 ∧ M' 83 = M 83 := by
  unfold f219 at h
  obtain ⟨z, h1, h2⟩ := Option.bind_eq_some_iff.mp h
  cases h2
  exact f214_fr h1
/-- what stands for the types that stand in t: ν, the variables by fill -/
def TNs (M : Mm) (lf rt : Nat → Int) (fill ν : Nat → Nat) (t x : Nat) : Prop := ∀ i, i < x → Oc lf rt t i → (i < 2 → ν i = i) ∧ (2 ≤ i → i < 10 → ν i = fill (i - 2)) ∧ (10 ≤ i → rt i = -1 → isL M (ν i) (ν (lf i).toNat)) ∧ (10 ≤ i → rt i ≠ -1 → isF M (ν i) (ν (lf i).toNat) (ν (rt i).toNat))
set_option maxRecDepth 20000 in
theorem copy_loop {Mc0 Mr0 : Mm} {S0 : Nat → Nat → Prop} {n0 n0' : Nat} {cs : List (Nat × Nat)} {t row : Nat} {lf rt : Nat → Int} {fill w : Nat → Nat} (ht40 : t < 40) (hrow : row ≤ 480) (hfw : ∀ i, 2 ≤ i → i < 10 → Oc lf rt t i → Mc0 38 (row + (i - 2)) = (fill (i - 2) : Int) ∧ S0 (fill (i - 2)) (w (i - 2))) (h2 : Mc0 2 = lf) (h3 : Mc0 3 = rt) (hF0 : TyF Mr0 lf rt t) (hvar : ∀ i, 2 ≤ i → i < 10 → Mr0 54 i = 2) (d : Nat) :
    ∀ (x f g : Nat) (Mc Mr : Mm) (S : Nat → Nat → Prop) (n n' : Nat) (ν μ : Nat → Nat), x + d = t + 1 → d < f → d < g → n + d < 2504 → n' + d < 4000 → Inc Mc0 Mr0 S0 n0 n0' Mc Mr S n n' cs → Mk Mc 41 lf rt t 9 → Mk Mr 80 lf rt t 9 → (∀ i, 2 ≤ i → i < 10 → Oc lf rt t i → Mr 83 i = (w (i - 2) : Int)) → TNs Mc lf rt fill ν t x → (∀ i, i < x → Oc lf rt t i → Mc 40 i = (ν i : Int) ∧ Mr 83 i = (μ i : Int) ∧ S (ν i) (μ i)) →
    ∃ (y v : Nat) (Mc' Mr' : Mm) (S' : Nat → Nat → Prop) (m m' : Nat) (ν' : Nat → Nat), l89 f 7 Mc (t : Int) (row : Int) (x : Int) = some ((y : Int), Mc') ∧ l223 g 113 Mr (t : Int) (x : Int) = some ((v : Int), Mr') ∧ Inc Mc0 Mr0 S0 n0 n0' Mc' Mr' S' m m' cs ∧ S' y v ∧ TNs Mc' lf rt fill ν' t (t + 1) ∧ ν' t = y ∧ m ≤ n + (d - (10 - x)) ∧ m' ≤ n' + (d - (10 - x)) + (2 - x) := by
  induction d with
  | zero =>
    intro x f g Mc Mr S n n' ν μ hx hf hg hn hn' hI hm hm' hw hT hv
    obtain ⟨f, rfl⟩ : ∃ f', f = f' + 1 := ⟨f - 1, by omega⟩
    obtain ⟨g, rfl⟩ : ∃ g', g = g' + 1 := ⟨g - 1, by omega⟩
    obtain ⟨e1, e2, e3⟩ := hv t (by omega) (Oc_t _ _ _)
    refine ⟨ν t, μ t, Mc, Mr, S, n, n', ν, ?_, ?_, hI, e3, by rw [← hx]; exact hT, rfl, by omega, by omega⟩
    · rw [l89, if_pos (by omega), if_pos (by omega), Int.toNat_natCast, e1]
    · rw [l223, if_pos (by omega), if_pos (by omega), Int.toNat_natCast, e2]
  | succ d ih =>
    intro x f g Mc Mr S n n' ν μ hx hf hg hn hn' hI hm hm' hw hT hv
    obtain ⟨f, rfl⟩ : ∃ f', f = f' + 1 := ⟨f - 1, by omega⟩
    obtain ⟨g, rfl⟩ : ∃ g', g = g' + 1 := ⟨g - 1, by omega⟩
    have ht := TyF_ht hF0
    have c2 : Mc 2 = lf := by rw [hI.2.1.1 2 (by omega)]; exact h2
    have c3 : Mc 3 = rt := by rw [hI.2.1.1 3 (by omega)]; exact h3
    have hF : TyF Mr lf rt t := by unfold TyF; rw [hI.2.2.1.1 54 (by omega) (by omega) (by omega), hI.2.2.1.1 55 (by omega) (by omega) (by omega), hI.2.2.1.1 56 (by omega) (by omega) (by omega)]; exact hF0
    have cx : (x : Int) + 1 = ((x + 1 : Nat) : Int) := by omega
    have iff1 : Mc 41 x = 1 ↔ Oc lf rt t x := ⟨hm.2.2.1 x (by omega), fun q => (Mk_done ht hm q).2⟩
    have iff2 : Mr 80 x = 1 ↔ Oc lf rt t x := ⟨hm'.2.2.1 x (by omega), fun q => (Mk_done ht hm' q).2⟩
    have nlt : ∀ i, i < x → Oc lf rt t i → ν i < n := fun i hi o => (Tw_lt hI.1 (hv i hi o).2.2).1
    have lfx : 10 ≤ x → (lf x).toNat < x := fun q => by have := (ht x q (by omega)).1; omega
    have rtx : 10 ≤ x → rt x ≠ -1 → (rt x).toNat < x := fun q q2 => by have := (ht x q (by omega)).2; omega
    -- the same again from the next on
    have next : ∀ (Nc Nr : Mm) (S1 : Nat → Nat → Prop) (m m' a b : Nat), Oc lf rt t x → m ≤ n + (1 - (10 - x)) → m' ≤ n' + (1 - (10 - x)) + (2 - x - (1 - x)) → Inc Mc0 Mr0 S0 n0 n0' Nc Nr S1 m m' cs → (∀ u v, S u v → S1 u v) → Cg Mc Nc n → (Nc 41 = Mc 41 ∧ Nr 80 = Mr 80) → (Nc 40 = Mc 40 ∧ Nr 83 = Mr 83) → S1 a b → (x < 2 → a = x) → (2 ≤ x → x < 10 → a = fill (x - 2) ∧ Mr 83 x = (b : Int)) → (10 ≤ x → rt x = -1 → isL Nc a (ν (lf x).toNat)) → (10 ≤ x → rt x ≠ -1 → isF Nc a (ν (lf x).toNat) (ν (rt x).toNat)) →
        ∃ (y v : Nat) (Mc' Mr' : Mm) (S' : Nat → Nat → Prop) (p p' : Nat) (ν' : Nat → Nat), l89 f 7 (up Nc 40 x (a : Int)) (t : Int) (row : Int) ((x + 1 : Nat) : Int) = some ((y : Int), Mc') ∧ l223 g 113 (up Nr 83 x (b : Int)) (t : Int) ((x + 1 : Nat) : Int) = some ((v : Int), Mr') ∧ Inc Mc0 Mr0 S0 n0 n0' Mc' Mr' S' p p' cs ∧ S' y v ∧ TNs Mc' lf rt fill ν' t (t + 1) ∧ ν' t = y ∧ p ≤ n + (d + 1 - (10 - x)) ∧ p' ≤ n' + (d + 1 - (10 - x)) + (2 - x) := by
      intro Nc Nr S1 m m' a b o hm1 hm2 hI1 hS hC h41 h40 sab q1 q2 q3 q4
      have L40 : ∀ y z, isL (up Nc 40 x (a : Int)) y z ↔ isL Nc y z := fun y z => by unfold isL; rw [up_cell (by decide), up_cell (by decide)]
      have F40 : ∀ y z z', isF (up Nc 40 x (a : Int)) y z z' ↔ isF Nc y z z' := fun y z z' => by unfold isF; rw [up_cell (by decide), up_cell (by decide), up_cell (by decide)]
      obtain ⟨y, v, Mc', Mr', S', p, p', ν', r1, r2, r3, r4, r5, r6, r7, r8⟩ := ih (x + 1) f g (up Nc 40 x (a : Int)) (up Nr 83 x (b : Int)) S1 m m' (fx ν x a) (fx μ x b) (by omega) (by omega) (by omega) (by omega) (by omega) (Inc_up hI1 x a b)
        (by unfold Mk; rw [up_cell (by decide), h41.1]; exact hm) (by unfold Mk; rw [up_cell (by decide), h41.2]; exact hm')
        (fun i h1 h2 h3 => by
          by_cases e : i = x
          · subst e
            rw [up_same, ← (q2 h1 h2).2]
            exact hw i h1 h2 h3
          · rw [up_at e, h40.2]; exact hw i h1 h2 h3)
        (fun i hi oi => by
          by_cases e : i = x
          · subst e
            refine ⟨fun z => by rw [fx_s]; exact q1 z, fun z1 z2 => by rw [fx_s]; exact (q2 z1 z2).1, fun z1 z2 => ?_, fun z1 z2 => ?_⟩
            · rw [L40, fx_s, fx_n (by have := lfx z1; omega)]
              exact q3 z1 z2
            · rw [F40, fx_s, fx_n (by have := lfx z1; omega), fx_n (by have := rtx z1 z2; omega)]
              exact q4 z1 z2
          · obtain ⟨z1, z2, z3, z4⟩ := hT i (by omega) oi
            have nl := nlt i (by omega) oi
            refine ⟨fun z => by rw [fx_n e]; exact z1 z, fun y1 y2 => by rw [fx_n e]; exact z2 y1 y2, fun y1 y2 => ?_, fun y1 y2 => ?_⟩
            · have := (ht i y1 (by omega)).1
              rw [L40, fx_n e, fx_n (by omega)]
              exact isL_g hC nl (z3 y1 y2)
            · have := (ht i y1 (by omega)).1
              have := (ht i y1 (by omega)).2
              rw [F40, fx_n e, fx_n (by omega), fx_n (by omega)]
              exact isF_g hC nl (z4 y1 y2))
        (fun i hi oi => by
          by_cases e : i = x
          · subst e
            rw [fx_s, fx_s, up_same, up_same]
            exact ⟨rfl, rfl, sab⟩
          · obtain ⟨z1, z2, z3⟩ := hv i (by omega) oi
            rw [fx_n e, fx_n e, up_at e, up_at e, h40.1, h40.2]
            exact ⟨z1, z2, hS _ _ z3⟩)
      exact ⟨y, v, Mc', Mr', S', p, p', ν', r1, r2, r3, r4, r5, r6, by omega, by omega⟩
    have g1 : ¬ (t : Int) < (x : Int) := by omega
    have g2 : 0 ≤ (x : Int) ∧ (x : Int) < 40 := by omega
    have g3 : rg ((x : Int) + 1) := by omega
    have g4 : 0 ≤ (x : Int) ∧ (x : Int) < 4000 := by omega
    have tn : Int.toNat (x : Int) = x := Int.toNat_natCast x
    by_cases o : Oc lf rt t x
    · have w1 : ¬ Mc 41 x = 0 := by rw [iff1.mpr o]; decide
      have w2 : ¬ Mr 80 x = 0 := by rw [iff2.mpr o]; decide
      by_cases x2 : x < 2
      · have g5 : ¬ (2 : Int) ≤ (x : Int) := by omega
        obtain ⟨Nr, e1, hI1⟩ := Inc_int (k := x) hI (by omega) (by omega)
        have e1 : f214 Mr (x : Int) 0 0 = some ((n' : Int), Nr) := e1
        have r80 := (f214_fr e1)
        have ec : l89 (f + 1) 7 Mc (t : Int) (row : Int) (x : Int) = l89 f 7 (up Mc 40 x (x : Int)) (t : Int) (row : Int) ((x + 1 : Nat) : Int) := by
          rw [l89]
          simp only [if_neg g1, if_pos g2, tn, if_pos w1, if_neg g5, if_pos g3, cx]
          exact if_pos (by rw [← cx]; exact g3)
        have er : l223 (g + 1) 113 Mr (t : Int) (x : Int) = l223 g 113 (up Nr 83 x (n' : Int)) (t : Int) ((x + 1 : Nat) : Int) := by
          rw [l223]
          simp only [if_neg g1, if_pos g4, tn, if_pos w2, if_neg g5, e1, bs_, if_pos g2, cx]
          exact if_pos (by rw [← cx]; exact g3)
        rw [ec, er]
        exact next Mc Nr _ n (n' + 1) x n' o (by omega) (by omega) hI1 (fun _ _ => adS_l) (Cg_refl _ _) ⟨rfl, r80.1⟩ ⟨rfl, r80.2⟩ adS_r (fun _ => rfl) (fun q => by omega) (fun q => by omega) (fun q => by omega)
      · have g5 : (2 : Int) ≤ (x : Int) := by omega
        by_cases x10 : x < 10
        · have g6 : ¬ (10 : Int) ≤ (x : Int) := by omega
          obtain ⟨q1, q2⟩ := hfw x (by omega) x10 o
          have m38 : Mc 38 = Mc0 38 := hI.2.1.1 38 (by omega)
          have m54 : Mr 54 x = 2 := by rw [hI.2.2.1.1 54 (by omega) (by omega) (by omega)]; exact hvar x (by omega) x10
          have g7 : 0 ≤ (row : Int) + (x : Int) - 2 ∧ (row : Int) + (x : Int) - 2 < 488 := by omega
          have g8 : ((row : Int) + (x : Int) - 2).toNat = row + (x - 2) := by omega
          have g9 : ¬ Mr 54 x = 3 := by omega
          have g10 : ¬ Mr 54 x = 4 := by omega
          have ec : l89 (f + 1) 7 Mc (t : Int) (row : Int) (x : Int) = l89 f 7 (up Mc 40 x (fill (x - 2) : Int)) (t : Int) (row : Int) ((x + 1 : Nat) : Int) := by
            rw [l89]
            simp only [if_neg g1, if_pos g2, tn, if_pos w1, if_pos g5, if_neg g6, if_pos g7, g8, m38, q1, cx]
            exact if_pos (by rw [← cx]; exact g3)
          have e83 := hw x (by omega) x10 o
          have er : l223 (g + 1) 113 Mr (t : Int) (x : Int) = l223 g 113 (up Mr 83 x (w (x - 2) : Int)) (t : Int) ((x + 1 : Nat) : Int) := by
            rw [← e83, up_id, l223]
            simp only [if_neg g1, if_pos g4, tn, if_pos w2, if_pos g5, if_pos g2, if_pos g9, if_pos g10, cx]
            exact if_pos (by rw [← cx]; exact g3)
          rw [ec, er]
          exact next Mc Mr S n n' _ _ o (by omega) (by omega) hI (fun _ _ q => q) (Cg_refl _ _) ⟨rfl, rfl⟩ ⟨rfl, rfl⟩ (hI.2.2.2.2.1 _ _ q2) (fun q => by omega) (fun _ _ => ⟨rfl, e83⟩) (fun q => by omega) (fun q => by omega)
        · have g6 : (10 : Int) ≤ (x : Int) := by omega
          obtain ⟨b1, b2, b3⟩ := hF x (by omega) (by omega)
          have ol := Oc_l o (by omega : 10 ≤ x)
          have lx := lfx (by omega)
          obtain ⟨v1, v2, v3⟩ := hv _ lx ol
          have g7 : 0 ≤ lf x ∧ lf x < 40 := by omega
          have e91 : f91 Mc (x : Int) = some (lf x) := by rw [f91_eq (by omega), c2]
          by_cases hr : rt x = -1
          · have e92 : f92 Mc (x : Int) = some 1 := by rw [f92_eq (by omega) (by omega), c3, if_pos hr]
            have m54 : Mr 54 x = 3 := by rcases b3 with q | q <;> omega
            have g9 : ¬ ¬ Mr 54 x = 3 := fun q => q m54
            obtain ⟨Nc, Nr, e1, e2, hI1, hC1, k1, z1⟩ := Inc_list hI (by omega) (by omega) v3
            have r80 := f214_fr e2
            have c40 := f74_fr e1
            have ec : l89 (f + 1) 7 Mc (t : Int) (row : Int) (x : Int) = l89 f 7 (up Nc 40 x (n : Int)) (t : Int) (row : Int) ((x + 1 : Nat) : Int) := by
              rw [l89]
              simp only [if_neg g1, if_pos g2, tn, if_pos w1, if_pos g5, if_pos g6, e92, bs_, if_neg (show ¬ (1 : Int) = 0 by decide), e91, if_pos g7, v1, e1, cx]
              exact if_pos (by rw [← cx]; exact g3)
            have er : l223 (g + 1) 113 Mr (t : Int) (x : Int) = l223 g 113 (up Nr 83 x (n' : Int)) (t : Int) ((x + 1 : Nat) : Int) := by
              rw [l223]
              simp only [if_neg g1, if_pos g4, tn, if_pos w2, if_pos g5, if_pos g2, if_neg g9, b2, if_pos g7, v2, e2, bs_, cx]
              exact if_pos (by rw [← cx]; exact g3)
            rw [ec, er]
            exact next Nc Nr _ (n + 1) (n' + 1) n n' o (by omega) (by omega) hI1 (fun _ _ => adS_l) hC1 ⟨c40.1, r80.1⟩ ⟨c40.2, r80.2⟩ adS_r (fun q => by omega) (fun q => by omega) (fun _ _ => k1) (fun _ q => absurd hr q)
          · have e92 : f92 Mc (x : Int) = some 0 := by rw [f92_eq (by omega) (by omega), c3, if_neg hr]
            have e93 : f93 Mc (x : Int) = some (rt x) := by rw [f93_eq (by omega), c3]
            obtain ⟨hr2, m54, m56⟩ : (0 ≤ rt x ∧ rt x < (x : Int)) ∧ Mr 54 x = 4 ∧ Mr 56 x = rt x := b3.resolve_left (fun q => hr q.1)
            have g9 : ¬ Mr 54 x = 3 := by omega
            have g10 : ¬ ¬ Mr 54 x = 4 := fun q => q m54
            have g11 : 0 ≤ rt x ∧ rt x < 40 := by omega
            have or' := Oc_r o (by omega : 10 ≤ x) hr
            obtain ⟨u1, u2, u3⟩ := hv _ (rtx (by omega) hr) or'
            obtain ⟨Nc, Nr, e1, e2, hI1, hC1, k1⟩ := Inc_arr hI (by omega) (by omega) v3 u3
            have r80 := f219_fr e2
            have c40 := f83_fr e1
            have ec : l89 (f + 1) 7 Mc (t : Int) (row : Int) (x : Int) = l89 f 7 (up Nc 40 x (n : Int)) (t : Int) (row : Int) ((x + 1 : Nat) : Int) := by
              rw [l89]
              simp only [if_neg g1, if_pos g2, tn, if_pos w1, if_pos g5, if_pos g6, e92, bs_, if_true, e91, if_pos g7, e93, if_pos g11, v1, u1, e1, cx]
              exact if_pos (by rw [← cx]; exact g3)
            have er : l223 (g + 1) 113 Mr (t : Int) (x : Int) = l223 g 113 (up Nr 83 x (n' : Int)) (t : Int) ((x + 1 : Nat) : Int) := by
              rw [l223]
              simp only [if_neg g1, if_pos g4, tn, if_pos w2, if_pos g5, if_pos g2, if_pos g9, if_neg g10, b2, if_pos g7, m56, if_pos g11, v2, u2, e2, bs_, cx]
              exact if_pos (by rw [← cx]; exact g3)
            rw [ec, er]
            exact next Nc Nr _ (n + 1) (n' + 1) n n' o (by omega) (by omega) hI1 (fun _ _ => adS_l) hC1 ⟨c40.1, r80.1⟩ ⟨c40.2, r80.2⟩ adS_r (fun q => by omega) (fun q => by omega) (fun _ q => absurd q hr) (fun _ _ => k1)
    · have n1 : Mc 41 x = 0 := (hm.1 x (by omega)).resolve_right (fun q => o (iff1.mp q))
      have n2 : Mr 80 x = 0 := (hm'.1 x (by omega)).resolve_right (fun q => o (iff2.mp q))
      have ec : l89 (f + 1) 7 Mc (t : Int) (row : Int) (x : Int) = l89 f 7 Mc (t : Int) (row : Int) ((x + 1 : Nat) : Int) := by
        rw [l89]
        simp only [if_neg g1, if_pos g2, tn, if_neg (show ¬ ¬ Mc 41 x = 0 from fun q => q n1), cx]
        exact if_pos (by rw [← cx]; exact g3)
      have er : l223 (g + 1) 113 Mr (t : Int) (x : Int) = l223 g 113 Mr (t : Int) ((x + 1 : Nat) : Int) := by
        rw [l223]
        simp only [if_neg g1, if_pos g4, tn, if_neg (show ¬ ¬ Mr 80 x = 0 from fun q => q n2), cx]
        exact if_pos (by rw [← cx]; exact g3)
      rw [ec, er]
      obtain ⟨y, v, Mc', Mr', S', p, p', ν', r1, r2, r3, r4, r5, r6, r7, r8⟩ := ih (x + 1) f g Mc Mr S n n' ν μ (by omega) (by omega) (by omega) (by omega) (by omega) hI hm hm' hw (fun i hi oi => hT i (by rcases (show i < x ∨ i = x by omega) with h | h; exact h; subst h; exact absurd oi o) oi) (fun i hi oi => hv i (by rcases (show i < x ∨ i = x by omega) with h | h; exact h; subst h; exact absurd oi o) oi)
      exact ⟨y, v, Mc', Mr', S', p, p', ν', r1, r2, r3, r4, r5, r6, by omega, by omega⟩
