/-! Run: calling what waits for arguments. -/
theorem PTy_k {k : Nat} {T : Ty} (h : PTy k T) : (k = 2 → T = tF tI (tF tI tI)) ∧ (k = 3 → T = tF tI (tF tI tB)) ∧ (k = 4 → ∃ a, T = tF tB (tF a (tF a a))) ∧ (k = 6 → ∃ a, T = tF a (tF (tL a) (tL a))) ∧ (k = 7 → ∃ a b, T = tF (tF a (tF b b)) (tF b (tF (tL a) b))) := by
  rcases h with ⟨h, e⟩ | ⟨h, e⟩ | ⟨h, e⟩ | ⟨h, e⟩ | ⟨h, e⟩ | ⟨h, e⟩ | ⟨h, e⟩
  · exact ⟨fun _ => by omega, fun _ => by omega, fun _ => by omega, fun _ => by omega, fun _ => by omega⟩
  · exact ⟨fun _ => e, fun _ => by omega, fun _ => by omega, fun _ => by omega, fun _ => by omega⟩
  · exact ⟨fun _ => by omega, fun _ => e, fun _ => by omega, fun _ => by omega, fun _ => by omega⟩
  · exact ⟨fun _ => by omega, fun _ => by omega, fun _ => e, fun _ => by omega, fun _ => by omega⟩
  · exact ⟨fun _ => by omega, fun _ => by omega, fun _ => by omega, fun _ => by omega, fun _ => by omega⟩
  · exact ⟨fun _ => by omega, fun _ => by omega, fun _ => by omega, fun _ => e, fun _ => by omega⟩
  · exact ⟨fun _ => by omega, fun _ => by omega, fun _ => by omega, fun _ => by omega, fun _ => e⟩
def ark (k : Nat) : Nat := if k = 4 ∨ k = 7 then 3 else 2
theorem aAa_k {k : Nat} (h : 2 ≤ k ∧ k < 8 ∧ k ≠ 5) : aAa (k : Int) = (ark k : Int) := by
  have z : k = 2 ∨ k = 3 ∨ k = 4 ∨ k = 6 ∨ k = 7 := by omega
  rcases z with e | e | e | e | e
  · subst e; decide
  · subst e; decide
  · subst e; decide
  · subst e; decide
  · subst e; decide
theorem f251_k {M : Mm} {k : Nat} : f251 M (k : Int) = some (ark k : Int) := by
  unfold f251 ark
  by_cases e : k = 4
  · subst e; rfl
  · rw [if_neg (by omega)]
    by_cases e7 : k = 7
    · subst e7; rfl
    · rw [if_pos (by omega), if_neg (by omega)]; rfl
section PRIM
variable {M0 R0 : Mm} {N NT : Nat} {G : Nat → UGt} {Mc Mr : Mm} {φ : Nat → Nat} {τ : Nat → Ty} {κ : Nat → Nat × Nat × Nat} {Es : Nat → Int → Ty} {n m nf ne : Nat} {ω : Nat → Ty} {w s lim : Nat}
/-- what a value's type says of it -/
theorem COK_hd {i : Nat} (hU : ∀ u, uIn M0 N u → UG M0 R0 u (G u)) (h : COK M0 N G Mc Mr φ τ κ Es m nf ne i) : C0 Mc Mr φ τ i ∨ C1 Mc Mr φ τ i ∨ C2 Mc Mr φ τ i ∨ (∃ a b, τ i = tF a b) ∨ τ i = tX := by
  rcases h.2 with h | h | h | h | h | h
  · exact Or.inl h
  · exact Or.inr (Or.inl h)
  · exact Or.inr (Or.inr (Or.inl h))
  · obtain ⟨_, _, u, p, f, η, ν, pl, a3, _, _, _, _, _, _, _, _, _, a13⟩ := h
    obtain ⟨_, _, _, p4⟩ := ((hU u pl.1).2.2.2.2.2.2 p pl.2.1).2.2.2.2.2.1 a3
    rw [p4] at a13
    exact Or.inr (Or.inr (Or.inr (Or.inl ⟨_, _, a13⟩)))
  · obtain ⟨_, _, k, hk, _, _, c⟩ := h
    refine Or.inr (Or.inr (Or.inr (Or.inl ?_)))
    have z : k = 2 ∨ k = 3 ∨ k = 4 ∨ k = 6 ∨ k = 7 := by omega
    rcases c with ⟨_, _, c⟩ | ⟨x, _, _, _, _, _, c⟩ | ⟨x, y, _, _, k2, _, _, _, _, _, _, c⟩
    · obtain ⟨t2, t3, t4, t6, t7⟩ := PTy_k c
      rcases z with z | z | z | z | z
      · exact ⟨_, _, t2 z⟩
      · exact ⟨_, _, t3 z⟩
      · obtain ⟨a, e⟩ := t4 z; exact ⟨_, _, e⟩
      · obtain ⟨a, e⟩ := t6 z; exact ⟨_, _, e⟩
      · obtain ⟨a, b, e⟩ := t7 z; exact ⟨_, _, e⟩
    · obtain ⟨t2, t3, t4, t6, t7⟩ := PTy_k c
      rcases z with z | z | z | z | z
      · exact ⟨_, _, (tF_inj (t2 z)).2⟩
      · exact ⟨_, _, (tF_inj (t3 z)).2⟩
      · obtain ⟨a, e⟩ := t4 z; exact ⟨_, _, (tF_inj e).2⟩
      · obtain ⟨a, e⟩ := t6 z; exact ⟨_, _, (tF_inj e).2⟩
      · obtain ⟨a, b, e⟩ := t7 z; exact ⟨_, _, (tF_inj e).2⟩
    · obtain ⟨t2, t3, t4, t6, t7⟩ := PTy_k c
      rcases k2 with z | z
      · obtain ⟨a, e⟩ := t4 z; exact ⟨_, _, (tF_inj (tF_inj e).2).2⟩
      · obtain ⟨a, b, e⟩ := t7 z; exact ⟨_, _, (tF_inj (tF_inj e).2).2⟩
  · exact Or.inr (Or.inr (Or.inr (Or.inr h.2.1)))
theorem COK_num {i : Nat} (hU : ∀ u, uIn M0 N u → UG M0 R0 u (G u)) (h : COK M0 N G Mc Mr φ τ κ Es m nf ne i) (ht : τ i = tI ∨ τ i = tB) : Mc 49 (5 * i) = 0 ∧ Mr 96 (φ i) = Mc 49 (5 * i + 1) := by
  rcases COK_hd hU h with h | ⟨_, _, a, e⟩ | ⟨_, _, x, t, _, _, _, _, _, _, e, _⟩ | ⟨a, b, e⟩ | e
  · exact ⟨h.1, h.2.2⟩
  · rw [e] at ht; rcases ht with ht | ht <;> cases ht
  · rw [e] at ht; rcases ht with ht | ht <;> cases ht
  · rw [e] at ht; rcases ht with ht | ht <;> cases ht
  · rw [e] at ht; rcases ht with ht | ht <;> cases ht
theorem COK_lst {i : Nat} {a : Ty} (hU : ∀ u, uIn M0 N u → UG M0 R0 u (G u)) (h : COK M0 N G Mc Mr φ τ κ Es m nf ne i) (ht : τ i = tL a) : C1 Mc Mr φ τ i ∨ C2 Mc Mr φ τ i := by
  rcases COK_hd hU h with h | h | h | ⟨a, b, e⟩ | e
  · rcases h.2.1 with ⟨e, _⟩ | ⟨e, _⟩
    · rw [e] at ht; cases ht
    · rw [e] at ht; cases ht
  · exact Or.inl h
  · exact Or.inr h
  · rw [e] at ht; cases ht
  · rw [e] at ht; cases ht
theorem COK_fun {i : Nat} {a b : Ty} (h : COK M0 N G Mc Mr φ τ κ Es m nf ne i) (ht : τ i = tF a b) : Mc 49 (5 * i) = 3 ∨ Mc 49 (5 * i) = 4 := by
  rcases h.2 with h | ⟨_, _, a, e⟩ | ⟨_, _, x, t, _, _, _, _, _, _, e, _⟩ | h | h | h
  · rcases h.2.1 with ⟨e, _⟩ | ⟨e, _⟩
    · rw [e] at ht; cases ht
    · rw [e] at ht; cases ht
  · rw [e] at ht; cases ht
  · rw [e] at ht; cases ht
  · exact Or.inl h.1
  · exact Or.inr h.1
  · have e := h.2.1
    rw [e] at ht; cases ht
theorem lenC_le (hC : ∀ i, i < n → COK M0 N G Mc Mr φ τ κ Es m nf ne i) : ∀ (b i : Nat), i < b → i < n → 0 ≤ lenC Mc i ∧ lenC Mc i ≤ (i : Int) := by
  intro b
  induction b with
  | zero => intro i h; omega
  | succ b ih =>
    intro i hb hi
    by_cases z : Mc 49 (5 * i) = 2
    · obtain ⟨_, _, x, t, _, c2, _, _, _, _, _, _, c9⟩ := COK_2 (hC i hi) z
      have := ih t (by omega) (by omega)
      unfold lenC
      rw [if_pos z, c9]
      omega
    · unfold lenC
      rw [if_neg z]
      omega
theorem f180_eq {M : Mm} {i : Nat} (hi : i < 602) : f180 M (i : Int) = some (lenC M i) := by
  unfold f180 lenC
  rw [f176_eq hi, bs_]
  by_cases z : M 49 (5 * i) = 2
  · rw [if_neg (fun q => q z), f165_2 hi, bs_, if_pos z]
  · rw [if_pos z, if_neg z]
theorem f178_eq {M : Mm} {i : Nat} (hi : i < 602) : f178 M (i : Int) = some (M 49 (5 * i + 1)) := by
  unfold f178
  rw [f165_0 hi, bs_]
/-- what calling a primitive makes -/
def PoF (Mc Mc' : Mm) (n n' i j : Nat) : Prop := (n' = n ∧ Mc 49 (5 * i + 1) = 4 ∧ Mc 49 (5 * i + 2) = 2 ∧ ∃ v : Nat, Mc' 47 14 = (v : Int) ∧ (v = j ∨ fld Mc i v)) ∨ (n' = n + 1 ∧ Mc' 47 14 = (n : Int) ∧ ((Mc' 49 (5 * n) = 0 ∧ (Mc 49 (5 * i + 1) = 2 ∨ Mc 49 (5 * i + 1) = 3) ∧ Mc 49 (5 * i + 2) = 1) ∨ (Mc' 49 (5 * n) = 4 ∧ Mc' 49 (5 * n + 1) = Mc 49 (5 * i + 1) ∧ ((Mc 49 (5 * i + 2) = 0 ∧ Mc' 49 (5 * n + 2) = 1 ∧ Mc' 49 (5 * n + 3) = (j : Int)) ∨ ((Mc 49 (5 * i + 1) = 4 ∨ Mc 49 (5 * i + 1) = 7) ∧ Mc 49 (5 * i + 2) = 1 ∧ Mc' 49 (5 * n + 2) = 2 ∧ Mc' 49 (5 * n + 3) = Mc 49 (5 * i + 3) ∧ Mc' 49 (5 * n + 4) = (j : Int)))) ∨ (Mc' 49 (5 * n) = 2 ∧ Mc 49 (5 * i + 1) = 6 ∧ Mc 49 (5 * i + 2) = 1 ∧ Mc' 49 (5 * n + 1) = Mc 49 (5 * i + 3) ∧ Mc' 49 (5 * n + 2) = (j : Int))))
/-- what a call comes to that ends with a value -/
def CaV (M0 R0 : Mm) (N NT : Nat) (G : Nat → UGt) (Mc Mr : Mm) (φ : Nat → Nat) (τ : Nat → Ty) (κ : Nat → Nat × Nat × Nat) (Es : Nat → Int → Ty) (n m nf ne : Nat) (ω : Nat → Ty) (w s lim i j : Nat) : Prop := ∃ (Mc' Mr' : Mm) (φ' : Nat → Nat) (τ' : Nat → Ty) (κ' : Nat → Nat × Nat × Nat) (n' m' : Nat), f175 Mc (i : Int) (j : Int) = some (0, Mc') ∧ f250 Mr (φ i : Int) (φ j : Int) = some (0, Mr') ∧ SV M0 R0 N NT G Mc' Mr' φ' τ' κ' Es n' m' nf ne ω w s lim ∧ Grw Mc Mr φ τ κ Es n m nf ne Mc' Mr' φ' τ' κ' Es n' m' nf ne ∧ Mc' 51 = Mc 51 ∧ n' + m = n + m' ∧ (n' = n ∨ (n' = n + 1 ∧ τ' n = ω w)) ∧ PoF Mc Mc' n n' i j
theorem Ca_new {i j : Nat} {x1 x2 x3 x4 x5 y1 y2 y3 y4 y5 y6 : Int} (hp : (x1 = 0 ∧ (Mc 49 (5 * i + 1) = 2 ∨ Mc 49 (5 * i + 1) = 3) ∧ Mc 49 (5 * i + 2) = 1) ∨ (x1 = 4 ∧ x2 = Mc 49 (5 * i + 1) ∧ ((Mc 49 (5 * i + 2) = 0 ∧ x3 = 1 ∧ x4 = (j : Int)) ∨ ((Mc 49 (5 * i + 1) = 4 ∨ Mc 49 (5 * i + 1) = 7) ∧ Mc 49 (5 * i + 2) = 1 ∧ x3 = 2 ∧ x4 = Mc 49 (5 * i + 3) ∧ x5 = (j : Int)))) ∨ (x1 = 2 ∧ Mc 49 (5 * i + 1) = 6 ∧ Mc 49 (5 * i + 2) = 1 ∧ x2 = Mc 49 (5 * i + 3) ∧ x3 = (j : Int))) (sc : Sj M0 R0 N NT G Mc Mr φ τ κ Es n m nf ne ω w s lim) (h71 : Mr 53 71 = (w : Int)) (hc : f175 Mc (i : Int) (j : Int) = some (0, up (up (wc Mc n x1 x2 x3 x4 x5) 47 14 (n : Int)) 47 10 (-1))) (hr : f250 Mr (φ i : Int) (φ j : Int) = some (0, up (wr Mr m y1 y2 y3 y4 y5 y6) 53 78 (m : Int))) (hn : Grw Mc Mr φ τ κ Es n m nf ne (wc Mc n x1 x2 x3 x4 x5) (wr Mr m y1 y2 y3 y4 y5 y6) (fu φ n m) (fu τ n (ω w)) (fu κ n (0, 0, 0)) Es (n + 1) (m + 1) nf ne → COK M0 N G (wc Mc n x1 x2 x3 x4 x5) (wr Mr m y1 y2 y3 y4 y5 y6) (fu φ n m) (fu τ n (ω w)) (fu κ n (0, 0, 0)) Es (m + 1) nf ne n) : CaV M0 R0 N NT G Mc Mr φ τ κ Es n m nf ne ω w s lim i j := by
  refine ⟨_, _, _, _, _, n + 1, m + 1, hc, hr, SV_new sc h71 hn, ?_, by rw [up_cell (by decide), up_cell (by decide), wc_cell (by decide) (by decide)], by omega, Or.inr ⟨rfl, fu_eq⟩, Or.inr ⟨rfl, by rw [up_at (by decide), up_same], by rw [up_cell (by decide), up_cell (by decide), wc_row.1, wc_row.2.1, wc_row.2.2.1, wc_row.2.2.2.1, wc_row.2.2.2.2]; exact hp⟩⟩
  exact ⟨⟨by omega, by omega, Nat.le_refl _, Nat.le_refl _⟩, fun j hj => by rw [up_cell (by decide), up_cell (by decide)]; exact wc_old hj, fun _ _ => by rw [up_cell (by decide), up_cell (by decide), wc_cell (by decide) (by decide)], fun a y b1 b2 hy => by rw [up_cell (by omega)]; exact wr_old (by omega) (by omega), fun i hi => ⟨fu_ne (by omega), fu_ne (by omega), fu_ne (by omega)⟩, fun _ _ => rfl⟩
theorem Ca_old {i j v : Nat} (sc : Sj M0 R0 N NT G Mc Mr φ τ κ Es n m nf ne ω w s lim) (h71 : Mr 53 71 = (w : Int)) (hc : f175 Mc (i : Int) (j : Int) = some (0, up (up Mc 47 14 (v : Int)) 47 10 (-1))) (hr : f250 Mr (φ i : Int) (φ j : Int) = some (0, up Mr 53 78 (φ v : Int))) (hv : v < n) (ht : τ v = ω w) (hp : Mc 49 (5 * i + 1) = 4 ∧ Mc 49 (5 * i + 2) = 2 ∧ (v = j ∨ fld Mc i v)) : CaV M0 R0 N NT G Mc Mr φ τ κ Es n m nf ne ω w s lim i j :=
  ⟨_, _, φ, τ, κ, n, m, hc, hr, SV_old sc h71 hv ht, ⟨⟨Nat.le_refl _, Nat.le_refl _, Nat.le_refl _, Nat.le_refl _⟩, fun _ _ => by rw [up_cell (by decide), up_cell (by decide)], fun _ _ => by rw [up_cell (by decide), up_cell (by decide)], fun a y b1 b2 _ => by rw [up_cell (by omega)], fun _ _ => ⟨rfl, rfl, rfl⟩, fun _ _ => rfl⟩, by rw [up_cell (by decide), up_cell (by decide)], by omega, Or.inl rfl, Or.inl ⟨rfl, hp.1, hp.2.1, v, by rw [up_at (by decide), up_same], hp.2.2⟩⟩
theorem call_pri {i j : Nat} (hU : ∀ u, uIn M0 N u → UG M0 R0 u (G u)) (sc : Sj M0 R0 N NT G Mc Mr φ τ κ Es n m nf ne ω w s lim) (h71 : Mr 53 71 = (w : Int)) (hi : i < n) (hj : j < n) (ht : τ i = tF (τ j) (ω w)) (hk : Mc 49 (5 * i) = 4) (hn : n < 602) (hm : m < 6000) (hnf : ¬ (Mc 49 (5 * i + 1) = 7 ∧ Mc 49 (5 * i + 2) = 2)) : CaV M0 R0 N NT G Mc Mr φ τ κ Es n m nf ne ω w s lim i j := by
  have ck := sc.1.2.2.2.2
  have fi := (ck i hi).1
  have fj := (ck j hj).1
  obtain ⟨_, a2, k, hk8, a3, a4, a5⟩ := COK_4 (ck i hi) hk
  obtain ⟨b1, b2, b3, b4⟩ := sc.1.2.1
  have ar2 : ark k = 2 ∨ (ark k = 3 ∧ (k = 4 ∨ k = 7)) := by
    unfold ark
    by_cases z : k = 4 ∨ k = 7
    · rw [if_pos z]; exact Or.inr ⟨rfl, z⟩
    · rw [if_neg z]; exact Or.inl rfl
  have ar3 : (k = 4 ∨ k = 7) → ark k = 3 := fun z => by unfold ark; rw [if_pos z]
  have lj := lenC_le ck (j + 1) j (by omega) hj
  rcases a5 with ⟨c1, c2, c3⟩ | ⟨x, hx, c1, c2, c3, c4, c5⟩ | ⟨x, y, hx, hy, c0, c1, c2, c3, c4, c5, c6, c7⟩
  · -- no argument yet
    have hc : f175 Mc (i : Int) (j : Int) = some (0, up (up (wc Mc n 4 (k : Int) 1 (j : Int) (-1)) 47 14 (n : Int)) 47 10 (-1)) := by
      unfold f175
      rw [f176_eq (by omega), bs_, hk, if_pos (by decide), f165_0 (by omega), bs_, f165_1 (by omega), bs_, a3, c1, if_pos (by omega), if_pos (by decide), aAa_k hk8, if_pos (by omega), if_neg (fun q => q rfl), f161_eq b1 hn, bs_]
      unfold f162
      rw [bs_]
    have hr : f250 Mr (φ i : Int) (φ j : Int) = some (0, up (wr Mr m 4 (k : Int) 1 (φ j : Int) (Mr 99 (φ i)) 0) 53 78 (m : Int)) := by
      unfold f250
      rw [if_pos (by omega), Int.toNat_natCast, a2, if_pos (by decide), c2, if_pos (by decide), if_neg (fun q => q rfl), a4]
      rw [show FU = (FU - 1) + 1 from rfl, l250, if_pos (by omega), if_pos (by omega), Int.toNat_natCast, show FU - 1 = (FU - 2) + 1 from rfl, l250, f251_k, bs_, if_neg (by omega), show (0 : Int) + 1 = 1 from rfl, f247_eq b3 hm, bs_]
    refine Ca_new (Or.inr (Or.inl ⟨rfl, a3.symm, Or.inl ⟨c1, rfl, rfl⟩⟩)) sc h71 hc hr (fun _ => ⟨by rw [fu_eq]; omega, Or.inr (Or.inr (Or.inr (Or.inr (Or.inl ⟨wc_row.1, by rw [fu_eq]; exact wr_row.1, k, hk8, wc_row.2.1, by rw [fu_eq]; exact wr_row.2.1, Or.inr (Or.inl ⟨j, hj, wc_row.2.2.1, by rw [fu_eq]; exact wr_row.2.2.1, wc_row.2.2.2.1, by rw [fu_eq, fu_ne (by omega)]; exact wr_row.2.2.2.1, ?_⟩)⟩))))⟩)
    rw [fu_eq, fu_ne (by omega), ← ht]
    exact c3
  · -- one argument
    have hc0 : f175 Mc (i : Int) (j : Int) = if ¬ (2 : Int) = (ark k : Int) then (f161 Mc 4 (k : Int) 2 (x : Int) (j : Int)).bind (fun zq27 => (f162 zq27.2 zq27.1).bind (fun zq33 => some (0, zq33.2))) else (f177 Mc (k : Int) (x : Int) (Mc 49 (5 * i + 4)) (j : Int)).bind (fun zq61 => some (0, zq61.2)) := by
      unfold f175
      rw [f176_eq (by omega), bs_, hk, if_pos (by decide), f165_0 (by omega), bs_, f165_1 (by omega), bs_, a3, c1, if_pos (by omega), if_pos (by decide), aAa_k hk8, f165_2 (by omega), f165_3 (by omega), show (1 : Int) + 1 = 2 from rfl]
      by_cases e : (2 : Int) = (ark k : Int)
      · rw [if_neg (fun q => q e), if_neg (fun q => q e), bs_, bs_, c3]
      · rw [if_pos e, if_pos e, if_pos (by decide), bs_, c3]
    have hr0 : f250 Mr (φ i : Int) (φ j : Int) = l250 (FU - 1) 111 Mr (φ i : Int) (φ j : Int) (k : Int) 2 (φ x : Int) (φ j : Int) := by
      unfold f250
      rw [if_pos (by omega), Int.toNat_natCast, a2, if_pos (by decide), c2, if_pos (by decide), if_pos (by decide), a4, c4]
      rw [show FU = (FU - 1) + 1 from rfl, l250, if_neg (fun q => q rfl)]
      rfl
    have fx := (ck x (by omega)).1
    rw [show FU - 1 = (FU - 2) + 1 from rfl, l250, f251_k, bs_] at hr0
    obtain ⟨t2, t3, t4, t6, t7⟩ := PTy_k c5
    rcases ar2 with ea | ⟨ea, k47⟩
    · -- done
      rw [ea, if_neg (fun q => q rfl)] at hc0
      rw [ea, if_pos (by decide)] at hr0
      unfold f177 at hc0
      have z : k = 2 ∨ k = 3 ∨ k = 6 := by
        have : ¬ (k = 4 ∨ k = 7) := fun q => by have := ar3 q; omega
        omega
      rcases z with z | z | z
      · subst z
        obtain ⟨e1, e2⟩ := tF_inj (t2 rfl)
        rw [e2] at ht
        obtain ⟨e3, e4⟩ := tF_inj ht
        obtain ⟨_, nx⟩ := COK_num hU (ck x (by omega)) (Or.inl e1)
        obtain ⟨_, nj⟩ := COK_num hU (ck j hj) (Or.inl e3.symm)
        unfold f160 f162 at hc0
        rw [if_pos (by decide), f178_eq (by omega), bs_, f178_eq (by omega), bs_, f161_eq b1 hn, bs_, bs_, bs_] at hc0
        rw [if_pos (by decide), if_pos (by omega), if_pos (by omega), f247_eq b3 hm, bs_, Int.toNat_natCast, Int.toNat_natCast, nx, nj] at hr0
        refine Ca_new (Or.inl ⟨rfl, Or.inl a3, c1⟩) sc h71 hc0 hr0 (fun _ => ⟨by rw [fu_eq]; omega, Or.inl ⟨wc_row.1, Or.inl ⟨by rw [fu_eq, ← e4], by rw [fu_eq]; exact wr_row.1⟩, by rw [fu_eq, wr_row.2.1, wc_row.2.1]⟩⟩)
      · subst z
        obtain ⟨e1, e2⟩ := tF_inj (t3 rfl)
        rw [e2] at ht
        obtain ⟨e3, e4⟩ := tF_inj ht
        obtain ⟨_, nx⟩ := COK_num hU (ck x (by omega)) (Or.inl e1)
        obtain ⟨_, nj⟩ := COK_num hU (ck j hj) (Or.inl e3.symm)
        unfold f160 f162 at hc0
        rw [if_neg (by decide), if_pos (by decide), f178_eq (by omega), bs_, f178_eq (by omega), bs_, f161_eq b1 hn, f161_eq b1 hn, bs_, bs_, bs_, bs_, bs_, bs_] at hc0
        rw [if_neg (by decide), if_pos (by decide), if_pos (by omega), if_pos (by omega), f247_eq b3 hm, bs_, f247_eq b3 hm, bs_, Int.toNat_natCast, Int.toNat_natCast, nx, nj] at hr0
        by_cases lt : Mc 49 (5 * j + 1) ≤ Mc 49 (5 * x + 1)
        · rw [if_pos lt] at hc0 hr0
          refine Ca_new (Or.inl ⟨rfl, Or.inr a3, c1⟩) sc h71 hc0 hr0 (fun _ => ⟨by rw [fu_eq]; omega, Or.inl ⟨wc_row.1, Or.inr ⟨by rw [fu_eq, ← e4], by rw [fu_eq]; exact wr_row.1⟩, by rw [fu_eq, wr_row.2.1, wc_row.2.1]⟩⟩)
        · rw [if_neg lt] at hc0 hr0
          refine Ca_new (Or.inl ⟨rfl, Or.inr a3, c1⟩) sc h71 hc0 hr0 (fun _ => ⟨by rw [fu_eq]; omega, Or.inl ⟨wc_row.1, Or.inr ⟨by rw [fu_eq, ← e4], by rw [fu_eq]; exact wr_row.1⟩, by rw [fu_eq, wr_row.2.1, wc_row.2.1]⟩⟩)
      · subst z
        obtain ⟨a, e⟩ := t6 rfl
        obtain ⟨e1, e2⟩ := tF_inj e
        rw [e2] at ht
        obtain ⟨e3, e4⟩ := tF_inj ht
        unfold f179 f162 at hc0
        rw [if_neg (by decide), if_neg (by decide), if_neg (by decide), if_neg (by decide), if_pos (by decide), f180_eq (by omega), bs_, if_pos (by unfold rg; omega), f161_eq b1 hn, bs_, bs_, bs_, bs_] at hc0
        rw [if_neg (by decide), if_neg (by decide), if_neg (by decide), if_neg (by decide), if_pos (by decide), f247_eq b3 hm, bs_] at hr0
        refine Ca_new (Or.inr (Or.inr ⟨rfl, a3, c1, c3.symm, rfl⟩)) sc h71 hc0 hr0 (fun g => ⟨by rw [fu_eq]; omega, Or.inr (Or.inr (Or.inl ⟨wc_row.1, by rw [fu_eq]; exact wr_row.1, x, j, by omega, hj, wc_row.2.1, wc_row.2.2.1, by rw [fu_eq, fu_ne (by omega)]; exact wr_row.2.1, by rw [fu_eq, fu_ne (by omega)]; exact wr_row.2.2.1, by rw [fu_eq, fu_ne (by omega), ← e4, e1], by rw [fu_eq, fu_ne (by omega), ← e3, ← e4], by rw [wc_row.2.2.2.1, lenC_grow g hj]⟩))⟩)
    · -- one more
      rw [ea, if_pos (by decide), f161_eq b1 hn, bs_] at hc0
      unfold f162 at hc0
      rw [bs_] at hc0
      rw [ea, if_neg (by decide), f247_eq b3 hm, bs_] at hr0
      refine Ca_new (Or.inr (Or.inl ⟨rfl, a3.symm, Or.inr ⟨by omega, c1, rfl, c3.symm, rfl⟩⟩)) sc h71 hc0 hr0 (fun _ => ⟨by rw [fu_eq]; omega, Or.inr (Or.inr (Or.inr (Or.inr (Or.inl ⟨wc_row.1, by rw [fu_eq]; exact wr_row.1, k, hk8, wc_row.2.1, by rw [fu_eq]; exact wr_row.2.1, Or.inr (Or.inr ⟨x, j, by omega, hj, k47, wc_row.2.2.1, by rw [fu_eq]; exact wr_row.2.2.1, wc_row.2.2.2.1, by rw [fu_eq, fu_ne (by omega)]; exact wr_row.2.2.2.1, wc_row.2.2.2.2, by rw [fu_eq, fu_ne (by omega)]; exact wr_row.2.2.2.2.1, ?_⟩)⟩))))⟩)
      rw [fu_eq, fu_ne (by omega), fu_ne (by omega), ← ht]
      exact c5
  · -- two arguments: IF
    have k4 : k = 4 := by
      rcases c0 with z | z
      · exact z
      · exact absurd ⟨by rw [a3, z]; rfl, c1⟩ hnf
    subst k4
    obtain ⟨t2, t3, t4, t6, t7⟩ := PTy_k c7
    obtain ⟨a, e⟩ := t4 rfl
    obtain ⟨e1, e⟩ := tF_inj e
    obtain ⟨e2, e⟩ := tF_inj e
    rw [e] at ht
    obtain ⟨e3, e4⟩ := tF_inj ht
    have fx := (ck x (by omega)).1
    obtain ⟨_, nx⟩ := COK_num hU (ck x (by omega)) (Or.inr e1)
    have hc0 : f175 Mc (i : Int) (j : Int) = if ¬ Mc 49 (5 * x + 1) = 1 then some (0, up (up Mc 47 14 (j : Int)) 47 10 (-1)) else some (0, up (up Mc 47 14 (y : Int)) 47 10 (-1)) := by
      unfold f175
      rw [f176_eq (by omega), bs_, hk, if_pos (by decide), f165_0 (by omega), bs_, f165_1 (by omega), bs_, a3, c1, if_pos (by omega), if_pos (by decide), aAa_k hk8, if_neg (fun q => q rfl), f165_2 (by omega), bs_, f165_3 (by omega), bs_, c3, c5]
      unfold f177 f162
      rw [if_neg (by decide), if_neg (by decide), if_pos (by decide), f178_eq (by omega), bs_, bs_, bs_]
      by_cases q : Mc 49 (5 * x + 1) = 1
      · rw [if_neg (fun z => z q), bs_]
      · rw [if_pos q, bs_]
    have hr0 : f250 Mr (φ i : Int) (φ j : Int) = if ¬ Mc 49 (5 * x + 1) = 1 then some (0, up Mr 53 78 (φ j : Int)) else some (0, up Mr 53 78 (φ y : Int)) := by
      unfold f250
      rw [if_pos (by omega), Int.toNat_natCast, a2, if_pos (by decide), c2, if_pos (by decide), if_pos (by decide), a4, c4]
      rw [show FU = (FU - 1) + 1 from rfl, l250, if_pos (by decide), if_pos (by omega), show FU - 1 = (FU - 2) + 1 from rfl, l250, f251_k, bs_, if_pos (by decide), if_neg (by decide), if_neg (by decide), if_pos (by decide), if_pos (by omega), Int.toNat_natCast, nx, Int.toNat_natCast, c6]
    by_cases q : Mc 49 (5 * x + 1) = 1
    · rw [if_neg (fun z => z q)] at hc0 hr0
      exact Ca_old sc h71 hc0 hr0 (by omega) (by rw [e2, ← e4]) ⟨a3, c1, Or.inr (Or.inr (Or.inr ⟨hk, Or.inr ⟨c1, c5⟩⟩))⟩
    · rw [if_pos q] at hc0 hr0
      exact Ca_old sc h71 hc0 hr0 hj (by rw [← e3, ← e4]) ⟨a3, c1, Or.inl rfl⟩
end PRIM
