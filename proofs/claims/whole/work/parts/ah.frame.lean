/-! Run: the other side's cells stay under 6000. Turns that leave the rows as they are. -/
theorem W2_s {M : Mm} {dd : Nat → Bool} {n : Nat} : W2c M dd (n + 1) = W2c M dd n + (if M 49 (5 * n) = 4 ∧ M 49 (5 * n + 2) = 2 ∧ dd n = false then 1 else 0) := by
  show W2c M dd n + (if (decide (M 49 (5 * n) = 4) && (decide (M 49 (5 * n + 2) = 2) && ! dd n)) = true then 1 else 0) = _
  by_cases e : M 49 (5 * n) = 4 ∧ M 49 (5 * n + 2) = 2 ∧ dd n = false
  · rw [if_pos e, if_pos (by rw [decide_eq_true e.1, decide_eq_true e.2.1, e.2.2]; rfl)]
  · rw [if_neg e, if_neg (fun q => e ?_)]
    obtain ⟨q1, q2⟩ := Bool.and_eq_true_iff.mp q
    obtain ⟨q2, q3⟩ := Bool.and_eq_true_iff.mp q2
    exact ⟨of_decide_eq_true q1, of_decide_eq_true q2, by cases h : dd n with
      | false => rfl
      | true => rw [h] at q3; cases q3⟩
theorem F1_s {M : Mm} {n : Nat} : F1c M (n + 1) = F1c M n + (if M 49 (5 * n) = 4 ∧ M 49 (5 * n + 1) = 7 ∧ M 49 (5 * n + 2) = 1 then 1 else 0) := by
  show F1c M n + (if (decide (M 49 (5 * n) = 4) && (decide (M 49 (5 * n + 1) = 7) && decide (M 49 (5 * n + 2) = 1))) = true then 1 else 0) = _
  by_cases e : M 49 (5 * n) = 4 ∧ M 49 (5 * n + 1) = 7 ∧ M 49 (5 * n + 2) = 1
  · rw [if_pos e, if_pos (by rw [decide_eq_true e.1, decide_eq_true e.2.1, decide_eq_true e.2.2]; rfl)]
  · rw [if_neg e, if_neg (fun q => e ?_)]
    obtain ⟨q1, q2⟩ := Bool.and_eq_true_iff.mp q
    obtain ⟨q2, q3⟩ := Bool.and_eq_true_iff.mp q2
    exact ⟨of_decide_eq_true q1, of_decide_eq_true q2, of_decide_eq_true q3⟩
theorem W2_fr {M M' : Mm} {dd dd' : Nat → Bool} {n : Nat} (h : ∀ j, j < 5 * n → M' 49 j = M 49 j) (hd : ∀ x, x < n → dd' x = dd x) : W2c M' dd' n = W2c M dd n := cn_eq (fun x hx => by rw [h _ (by omega), h _ (by omega), hd x hx])
theorem F1_fr {M M' : Mm} {n : Nat} (h : ∀ j, j < 5 * n → M' 49 j = M 49 j) : F1c M' n = F1c M n := cn_eq (fun x hx => by rw [h _ (by omega), h _ (by omega), h _ (by omega)])
section FRM
variable {M0 : Mm} {N0 : Nat} {G : Nat → UGt} {M M' Mr : Mm} {φ : Nat → Nat} {τ τ' ω ω' : Nat → Ty} {κ : Nat → Nat × Nat × Nat} {Es : Nat → Int → Ty} {n n' m nf ne : Nat} {w w' : Nat} {ρ σ lo nu ep en th : Nat → Nat} {dd dd' : Nat → Bool} {Rg Rg' : Nat → Prop} {a a' : Nat}
theorem len_x (h49 : ∀ j, j < 5 * n → M' 49 j = M 49 j) {i : Nat} (hi : i < n) : lenC M' i = lenC M i := by
  unfold lenC
  rw [h49 _ (by omega), h49 _ (by omega)]
theorem tl_x (hC : ∀ i, i < n → COK M0 N0 G M Mr φ τ κ Es m nf ne i) (h49 : ∀ j, j < 5 * n → M' 49 j = M 49 j) : ∀ (k l : Nat), l < n → (k : Int) < lenC M l → tlC M' k l = tlC M k l := by
  intro k
  induction k with
  | zero => intro l _ _; rfl
  | succ k ih =>
    intro l hl hk
    have z := (tl_ok hC 0 l hl (by omega)).2.1
    have z : M 49 (5 * l) = 2 := z
    obtain ⟨a, b, x, t, c1, c2, c3, c4, c5, c6, c7, c8, c9⟩ := COK_2 (hC l hl) z
    have e : lenC M l = lenC M t + 1 := by
      rw [← c9]
      unfold lenC
      rw [if_pos z]
    show tlC M' k (M' 49 (5 * l + 2)).toNat = tlC M k (M 49 (5 * l + 2)).toNat
    rw [h49 _ (by omega), c4, Int.toNat_natCast]
    exact ih t (by omega) (by omega)
theorem wF2_x (h49 : ∀ j, j < 5 * n → M' 49 j = M 49 j) {x : Nat} (hx : x < n) : wF2 M' x ↔ wF2 M x := by
  unfold wF2
  rw [h49 _ (by omega), h49 _ (by omega), h49 _ (by omega)]
theorem wF1_x (h49 : ∀ j, j < 5 * n → M' 49 j = M 49 j) {x : Nat} (hx : x < n) : wF1 M' x ↔ wF1 M x := by
  unfold wF1
  rw [h49 _ (by omega), h49 _ (by omega), h49 _ (by omega)]
theorem gok_x (h49 : ∀ j, j < 5 * n → M' 49 j = M 49 j) {x : Nat} (hx : x < n) : gok M' x ↔ gok M x := by
  unfold gok wI2 wF2 wF1
  rw [h49 _ (by omega), h49 _ (by omega), h49 _ (by omega)]
/-- rows point at cells that are there -/
def RPn (M : Mm) (n w : Nat) : Prop := ∀ k x, k < w → rptr M k x → x < n
theorem RP_of {R0 : Mm} {NT s lim : Nat} (sc : Sj M0 R0 N0 NT G M Mr φ τ κ Es n m nf ne ω w s lim) : RPn M n w := by
  intro k x hk hx
  rcases sc.2.2.2 k hk with ⟨a, _, u, p, f, η, ν, c1, _, _, c4, _⟩ | ⟨a, b, i, c1, c2, _⟩ | ⟨a, b, i, c1, c2, _⟩ | ⟨a, b, i, l, r, c1, c2, c3, c4, _⟩
  · rcases hx with ⟨_, hx⟩ | ⟨hx, _⟩ | ⟨hx, _⟩
    · exact EnK_lt c1.2.2.2.2.2 (by rw [← c4]; exact hx)
    · omega
    · omega
  · rcases hx with ⟨hx, _⟩ | ⟨_, hx⟩ | ⟨hx, _⟩ <;> omega
  · rcases hx with ⟨hx, _⟩ | ⟨_, hx⟩ | ⟨hx, _⟩ <;> omega
  · rcases hx with ⟨hx, _⟩ | ⟨hx, _⟩ | ⟨_, hx | hx⟩ <;> omega
theorem CR_t2 (hC : ∀ i, i < n → COK M0 N0 G M Mr φ τ κ Es m nf ne i) (wf : WFr M τ ω n w) (rp : RPn M n w) (h : CR M n w Rg ρ σ lo dd) (hn : n ≤ n') (h51 : M' 51 = M 51) (h49 : ∀ j, j < 5 * n → M' 49 j = M 49 j) (nw : Nw M M' n n' w w w Rg Rg') (hdd : ∀ x, x < n → dd' x = dd x) (hdn : ∀ x, n ≤ x → dd' x = true → x < n' ∧ M' 49 (5 * x) = 4 ∧ M' 49 (5 * x + 2) = 2) (hfd : ∀ i x, n ≤ i → i < n' → fld M' i x → dd x = false) (hlt' : ∀ i x, n ≤ i → i < n' → fld M' i x → x < n) : CR M' n' w Rg' ρ σ lo dd' := by
  obtain ⟨r1, r2, r3, r4, r5, r6⟩ := h
  have hlt : ∀ i x, i < n → fld M i x → x < i := fun i x hi hf => fld_lt (hC i hi) hf
  have el : lF M' = lF M := by funext k; unfold lF; rw [h51]
  have er : rF M' = rF M := by funext k; unfold rF; rw [h51]
  have eq : ∀ k, qF M' k ↔ qF M k := fun k => by unfold qF; rw [h51]
  refine ⟨ACC_step hlt r1 hn h49 (Nat.le_refl _) (fun j _ => by rw [h51]) nw (fun k _ _ k' h1 h2 => by omega), fun k hk hF => ?_, fun k hk hF => ?_, fun i x hi hf => ?_, fun k x hk hx => ?_, fun x hx => ?_⟩
  · obtain ⟨g1, g2, g3, g4, g5, g6, _⟩ := wf k hk ((eq k).mp hF)
    rw [el, er]
    rcases r2 k hk ((eq k).mp hF) with z | z
    · exact Or.inl z
    · exact Or.inr (fun j hj => by rw [tl_x hC h49 j _ g2 (by omega)]; exact z j hj)
  · have hρ := (r1 k hk ((eq k).mp hF)).1
    rw [h49 _ (by omega), h49 _ (by omega), h49 _ (by omega), h49 _ (by omega), h51]
    exact r3 k hk ((eq k).mp hF)
  · by_cases c : i < n
    · have hf := (fld_fr (fun j h1 h2 => h49 j (by omega))).mp hf
      have := hlt i x c hf
      rw [hdd x (by omega)]
      exact r4 i x c hf
    · have xn := hlt' i x (by omega) hi hf
      rw [hdd x xn]
      exact hfd i x (by omega) hi hf
  · have hx := (rptr_fr (fun j _ _ => by rw [h51])).mp hx
    have z := r5 k x hk hx
    by_cases c : x < n
    · rw [hdd x c]; exact z
    · cases q : dd' x with
      | false => rfl
      | true =>
        have := rp k x hk hx
        omega
  · by_cases c : x < n
    · rw [hdd x c] at hx
      obtain ⟨z1, z2, z3⟩ := r6 x hx
      rw [h49 _ (by omega), h49 _ (by omega)]
      exact ⟨by omega, z2, z3⟩
    · exact hdn x (by omega) hx
theorem CR_t1 (hC : ∀ i, i < n → COK M0 N0 G M Mr φ τ κ Es m nf ne i) (wf : WFr M τ ω n w) (rp : RPn M n w) (h : CR M n w Rg ρ σ lo dd) (hn : n ≤ n') (h51 : M' 51 = M 51) (h49 : ∀ j, j < 5 * n → M' 49 j = M 49 j) (nw : Nw M M' n n' w w w Rg Rg') (hdd : ∀ x, x < n → dd' x = dd x) (hdn : ∀ x, n ≤ x → dd' x = true → x < n' ∧ M' 49 (5 * x) = 4 ∧ M' 49 (5 * x + 2) = 2) (hRg : ∀ x, Rg x → dd x = false) (hlt' : ∀ i x, n ≤ i → i < n' → fld M' i x → x < n) : CR M' n' w Rg' ρ σ lo dd' := by
  refine CR_t2 hC wf rp h hn h51 h49 nw hdd hdn (fun i x h1 h2 hf => ?_) hlt'
  have xn := hlt' i x h1 h2 hf
  rcases (nw (fun x => n ≤ x ∨ dd x = false) (fun i x h1 _ h3 => Or.inr (h.2.2.2.1 i x h1 h3)) (fun x hx => Or.inr (hRg x hx)) (fun k' x h1 h2 _ => by omega) (fun i h1 _ => Or.inl h1)).1 i x h1 h2 hf with z | z
  · omega
  · exact z
theorem CTr_t1 (wf : WFr M τ ω n w) (hρ : ∀ k, k < w → qF M k → ρ k < n) (h : CTr M τ n w ρ ep th dd a) (hn : n ≤ n') (h51 : M' 51 = M 51) (h49 : ∀ j, j < 5 * n → M' 49 j = M 49 j) (hτ : ∀ i, i < n → τ' i = τ i) (hdd : ∀ x, x < n → dd' x = dd x) (hN : ∀ x, n ≤ x → x < n' → wF2 M' x → ∃ y, y < n ∧ wF1 M y ∧ M 49 (5 * y + 3) = M' 49 (5 * x + 3)) (hP : PRV M' n' a') : CTr M' τ' n' w ρ ep th dd' a' := by
  obtain ⟨t1, t2, t3, t4, t5, t6, t7⟩ := h
  have eg : gF M' = gF M := by funext k; unfold gF; rw [h51]
  have el : lF M' = lF M := by funext k; unfold lF; rw [h51]
  have eq : ∀ k, qF M' k ↔ qF M k := fun k => by unfold qF; rw [h51]
  refine ⟨fun k k' h1 h2 h3 h4 h5 h6 => ?_, fun k hk hF hd => ?_, fun k hk hF hb => t3 k hk ((eq k).mp hF) (fun j hj hq => hb j hj ((eq j).mpr hq)), fun k hk hF hw => ?_, fun k hk hF ho => ?_, fun x hx h2 => ?_, hP⟩
  · have w1 := wf k (by omega) ((eq k).mp h3)
    have w2 := wf k' h2 ((eq k').mp h4)
    rw [el, hτ _ w1.2.1, hτ _ w2.2.1] at h6
    rcases t1 k k' h1 h2 ((eq k).mp h3) ((eq k').mp h4) (fun j a b c => h5 j a b ((eq j).mpr c)) h6 with z | z
    · exact Or.inl z
    · refine Or.inr ?_
      have := w1.1
      unfold HSb at z ⊢
      rw [eg, h49 _ (by omega), h49 _ (by omega), h49 _ (by omega), h49 _ (by omega)]
      exact z
  · have w1 := wf k hk ((eq k).mp hF)
    rw [hdd _ (hρ k hk ((eq k).mp hF))] at hd
    obtain ⟨j, j1, j2, j3, j4, j5⟩ := t2 k hk ((eq k).mp hF) hd
    have w2 := wf j (by omega) j2
    exact ⟨j, j1, (eq j).mpr j2, fun i a b c => j3 i a b ((eq i).mp c), j4, by rw [el, hτ _ w1.2.1, hτ _ w2.2.1]; exact j5⟩
  · have w1 := wf k hk ((eq k).mp hF)
    rw [eg] at hw
    exact t4 k hk ((eq k).mp hF) ((wF1_x h49 w1.1).mp hw)
  · have w1 := wf k hk ((eq k).mp hF)
    rw [eg]
    refine (gok_x h49 w1.1).mpr (t5 k hk ((eq k).mp hF) (ho.imp id (fun ⟨k', a, b, c⟩ => ⟨k', a, b, (eq k').mp c⟩)))
  · by_cases c : x < n
    · obtain ⟨y, y1, y2, y3⟩ := t6 x c ((wF2_x h49 c).mp h2)
      exact ⟨y, by omega, (wF1_x h49 y1).mpr y2, by rw [h49 _ (by omega), h49 _ (by omega)]; exact y3⟩
    · obtain ⟨y, y1, y2, y3⟩ := hN x (by omega) hx h2
      exact ⟨y, by omega, (wF1_x h49 y1).mpr y2, by rw [h49 _ (by omega)]; exact y3⟩
theorem CS_t1 (wf : WFr M τ ω n w) (h : CS M ω n w ρ nu ep) (h51 : M' 51 = M 51) (h49 : ∀ j, j < 5 * n → M' 49 j = M 49 j) (hK : 0 < Kc M n → 0 < Kc M' n') : CS M' ω n' w ρ nu ep := by
  obtain ⟨s1, s2, s3⟩ := h
  have eg : gF M' = gF M := by funext k; unfold gF; rw [h51]
  have el : lF M' = lF M := by funext k; unfold lF; rw [h51]
  have er : rF M' = rF M := by funext k; unfold rF; rw [h51]
  have eq : qF M' = qF M := by funext k; unfold qF; rw [h51]
  refine ⟨fun k hk h2 => ?_, fun k hF hk => ?_, fun k hk hF => ?_⟩
  · rw [h51] at h2
    rw [eq]
    obtain ⟨a, b, c, d⟩ := s1 k hk h2
    exact ⟨a, b, c, hK d⟩
  · rw [eq] at hF
    have w1 := wf k (by omega) hF
    rw [eq, er, el, eg, h51, len_x h49 w1.2.1]
    exact s2 k hF hk
  · rw [eq] at hF
    have w1 := wf k hk hF
    rw [er, el, len_x h49 w1.2.1]
    exact s3 k hk hF
theorem WFr_t1 (wf : WFr M τ ω n w) (hn : n ≤ n') (h51 : M' 51 = M 51) (h49 : ∀ j, j < 5 * n → M' 49 j = M 49 j) (hτ : ∀ i, i < n → τ' i = τ i) : WFr M' τ' ω n' w := by
  have eg : gF M' = gF M := by funext k; unfold gF; rw [h51]
  have el : lF M' = lF M := by funext k; unfold lF; rw [h51]
  have er : rF M' = rF M := by funext k; unfold rF; rw [h51]
  have eq : qF M' = qF M := by funext k; unfold qF; rw [h51]
  intro k hk hF
  rw [eq] at hF
  obtain ⟨g1, g2, g3, g4, g5, g6, a, g7, g8⟩ := wf k hk hF
  rw [eg, el, er, h51, len_x h49 g2, hτ _ g1, hτ _ g2]
  exact ⟨by omega, by omega, g3, g4, g5, g6, a, g7, g8⟩
theorem FLG_t1 (wf : WFr M τ ω n w) (h : FLG M w nu ep en) (h51 : M' 51 = M 51) (h49 : ∀ j, j < 5 * n → M' 49 j = M 49 j) : FLG M' w nu ep en := by
  intro k hk hF
  unfold qF at hF
  rw [h51] at hF
  have eg : gF M' k = gF M k := by unfold gF; rw [h51]
  obtain ⟨a1, a2, a3, a4⟩ := h k hk hF
  have := (wf k hk hF).1
  exact ⟨a1, a2, a3, fun q => by rw [eg, h49 _ (by omega)]; exact a4 q⟩
theorem sm_t1 (h51 : M' 51 = M 51) (f : Nat → Nat) (w : Nat) : sm (fF M' f) w = sm (fF M f) w := sm_eq (fun k _ => by unfold fF; rw [h51])
theorem cr_t1 (h51 : M' 51 = M 51) (w : Nat) : sm (crA M' nu ep th) w = sm (crA M nu ep th) w := sm_eq (fun k _ => by unfold crA; rw [h51])
theorem rf_t1 (h51 : M' 51 = M 51) (w : Nat) : sm (fF M' (rF M')) w = sm (fF M (rF M)) w := sm_eq (fun k _ => by unfold fF rF; rw [h51])
theorem tp_t1 (h51 : M' 51 = M 51) {k : Nat} (h : tpF M' w k) : tpF M w k := by
  unfold tpF qF at h ⊢
  rw [h51] at h
  exact h
end FRM
