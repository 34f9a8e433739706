/-! Run: the other side's cells stay under 6000. Turns that put rows on or take them off, but no folds. -/
section ROWS
variable {M0 : Mm} {N0 : Nat} {G : Nat → UGt} {M M' Mr : Mm} {φ : Nat → Nat} {τ τ' ω ω' : Nat → Ty} {κ : Nat → Nat × Nat × Nat} {Es : Nat → Int → Ty} {n n' m nf ne : Nat} {w w' w0 : Nat} {ρ σ lo nu ep en th : Nat → Nat} {dd dd' : Nat → Bool} {Rg Rg' : Nat → Prop} {a a' : Nat}
/-- the rows under w0 are as they were -/
def RwS (M M' : Mm) (w0 : Nat) : Prop := M' 49 = M 49 ∧ ∀ j, j < 5 * w0 → M' 51 j = M 51 j
theorem rw_q (h : RwS M M' w0) {k : Nat} (hk : k < w0) : qF M' k ↔ qF M k := by unfold qF; rw [h.2 _ (by omega)]
theorem rw_g (h : RwS M M' w0) {k : Nat} (hk : k < w0) : gF M' k = gF M k := by unfold gF; rw [h.2 _ (by omega)]
theorem rw_l (h : RwS M M' w0) {k : Nat} (hk : k < w0) : lF M' k = lF M k := by unfold lF; rw [h.2 _ (by omega)]
theorem rw_r (h : RwS M M' w0) {k : Nat} (hk : k < w0) : rF M' k = rF M k := by unfold rF; rw [h.2 _ (by omega)]
theorem rw_len (h : RwS M M' w0) (i : Nat) : lenC M' i = lenC M i := by unfold lenC; rw [h.1]
theorem rw_fld (h : RwS M M' w0) {i x : Nat} : fld M' i x ↔ fld M i x := by unfold fld; rw [h.1]
theorem rw_f2 (h : RwS M M' w0) {x : Nat} : wF2 M' x ↔ wF2 M x := by unfold wF2; rw [h.1]
theorem rw_f1 (h : RwS M M' w0) {x : Nat} : wF1 M' x ↔ wF1 M x := by unfold wF1; rw [h.1]
theorem rw_gok (h : RwS M M' w0) {x : Nat} : gok M' x ↔ gok M x := by unfold gok wI2 wF2 wF1; rw [h.1]
theorem rw_K (h : RwS M M' w0) (n : Nat) : Kc M' n = Kc M n := Kc_fr (fun j _ => by rw [h.1])
theorem rw_W (h : RwS M M' w0) (n : Nat) : W2c M' dd n = W2c M dd n := W2_fr (fun j _ => by rw [h.1]) (fun _ _ => rfl)
theorem rw_F (h : RwS M M' w0) (n : Nat) : F1c M' n = F1c M n := F1_fr (fun j _ => by rw [h.1])
theorem rw_sm (h : RwS M M' w0) (f : Nat → Nat) : sm (fF M' f) w0 = sm (fF M f) w0 := sm_eq (fun k hk => by unfold fF; rw [h.2 _ (by omega)])
theorem rw_cr (h : RwS M M' w0) : sm (crA M' nu ep th) w0 = sm (crA M nu ep th) w0 := sm_eq (fun k hk => by unfold crA; rw [h.2 _ (by omega)])
theorem rw_rf (h : RwS M M' w0) : sm (fF M' (rF M')) w0 = sm (fF M (rF M)) w0 := sm_eq (fun k hk => by unfold fF rF; rw [h.2 _ (by omega), h.2 _ (by omega)])
theorem FLG_g (h : FLG M w nu ep en) (r : RwS M M' w0) (hw : w0 ≤ w) (hnf : ∀ k, w0 ≤ k → k < w' → ¬ qF M' k) : FLG M' w' nu ep en := by
  intro k hk hF
  by_cases c : k < w0
  · obtain ⟨a1, a2, a3, a4⟩ := h k (by omega) ((rw_q r c).mp hF)
    exact ⟨a1, a2, a3, fun q => by rw [rw_g r c, r.1]; exact a4 q⟩
  · exact absurd hF (hnf k (by omega) hk)
theorem HH_g {v k : Nat} (r : RwS M M' w0) (hk : k < w0) (h : HH M τ dd k v) : HH M' τ dd k v := by
  obtain ⟨x1, x2, x3, x4⟩ := h
  refine ⟨fun bb y1 y2 => ?_, fun y1 => ?_, fun y1 => ?_, by rw [rw_g r hk, r.1]; exact x4⟩
  · rw [rw_l r hk] at y2
    rw [rw_g r hk, r.1]
    obtain ⟨z1, z2⟩ := x1 bb ((rw_f2 r).mp y1) y2
    exact ⟨(rw_f2 r).mpr z1, z2⟩
  · rw [rw_g r hk] at y1
    obtain ⟨z1, z2⟩ := x2 (fun q => y1 ((rw_gok r).mpr q))
    rw [r.1]
    exact ⟨z1, fun q => z2 ((rw_f2 r).mp q)⟩
  · rw [rw_g r hk]
    rcases x3 y1 with ⟨z1, z2⟩ | z
    · exact Or.inl ⟨(rw_f1 r).mpr z1, (rw_f2 r).mpr z2⟩
    · refine Or.inr ?_
      unfold wI2 at z ⊢
      rw [r.1]
      exact z
theorem CR_g (hC : ∀ i, i < n → COK M0 N0 G M Mr φ τ κ Es m nf ne i) (h : CR M n w Rg ρ σ lo dd) (r : RwS M M' w0) (hw : w0 ≤ w) (hw' : w0 ≤ w') (hnf : ∀ k, w0 ≤ k → k < w' → ¬ qF M' k) (nw : (∀ S : Nat → Prop, clF M n S → (∀ x, Rg x → S x) → (∀ k' x, w0 ≤ k' → k' < w → rptr M k' x → S x) → (∀ x, Rg' x → S x) ∧ ∀ k' x, w0 ≤ k' → k' < w' → rptr M' k' x → S x)) (hd : ∀ k x, w0 ≤ k → k < w' → rptr M' k x → dd x = false) : CR M' n w' Rg' ρ σ lo dd := by
  obtain ⟨r1, r2, r3, r4, r5, r6⟩ := h
  have hlt : ∀ i x, i < n → fld M i x → x < i := fun i x hi hf => fld_lt (hC i hi) hf
  have low : ∀ k, k < w' → qF M' k → k < w0 := fun k hk hF => by
    by_cases c : k < w0
    · exact c
    · exact absurd hF (hnf k (by omega) hk)
  have ac := ACC_step (w' := w') hlt r1 (Nat.le_refl n) (fun j _ => by rw [r.1]) hw r.2 (fun S h1 h2 h3 _ => ⟨fun i x q1 q2 => by omega, nw S h1 h2 h3⟩) (fun k _ _ k' h1 h2 h3 => absurd h3 (hnf k' h1 h2))
  refine ⟨fun k hk hF => ac k (low k hk hF) hF, fun k hk hF => ?_, fun k hk hF => ?_, fun i x hi hf => r4 i x hi ((rw_fld r).mp hf), fun k x hk hx => ?_, fun x hx => ?_⟩
  · have k0 := low k hk hF
    rw [rw_l r k0, rw_r r k0]
    rcases r2 k (by omega) ((rw_q r k0).mp hF) with z | z
    · exact Or.inl z
    · exact Or.inr (fun j hj => by rw [tlC_fr r.1]; exact z j hj)
  · have k0 := low k hk hF
    rw [r.1, r.2 _ (by omega)]
    exact r3 k (by omega) ((rw_q r k0).mp hF)
  · by_cases c : k < w0
    · exact r5 k x (by omega) ((rptr_fr (fun j h1 h2 => r.2 j (by omega))).mp hx)
    · exact hd k x (by omega) hk hx
  · rw [r.1]
    exact r6 x hx
theorem CTr_g (h : CTr M τ n w ρ ep th dd a) (r : RwS M M' w0) (hw : w0 ≤ w) (hnf : ∀ k, w0 ≤ k → k < w' → ¬ qF M' k) : CTr M' τ n w' ρ ep th dd a := by
  obtain ⟨t1, t2, t3, t4, t5, t6, t7⟩ := h
  have low : ∀ k, k < w' → qF M' k → k < w0 := fun k hk hF => by
    by_cases c : k < w0
    · exact c
    · exact absurd hF (hnf k (by omega) hk)
  refine ⟨fun k k' h1 h2 h3 h4 h5 h6 => ?_, fun k hk hF hd => ?_, fun k hk hF hb => ?_, fun k hk hF hw2 => ?_, fun k hk hF ho => ?_, fun x hx h2 => ?_, fun q => ?_⟩
  · have k0 := low k' h2 h4
    rw [rw_l r (by omega), rw_l r k0] at h6
    rcases t1 k k' h1 (by omega) ((rw_q r (by omega)).mp h3) ((rw_q r k0).mp h4) (fun j a b c => h5 j a b ((rw_q r (by omega)).mpr c)) h6 with z | z
    · exact Or.inl z
    · refine Or.inr ?_
      unfold HSb at z ⊢
      rw [rw_g r (by omega), r.1]
      exact z
  · have k0 := low k hk hF
    obtain ⟨j, j1, j2, j3, j4, j5⟩ := t2 k (by omega) ((rw_q r k0).mp hF) hd
    exact ⟨j, j1, (rw_q r (by omega)).mpr j2, fun i a b c => j3 i a b ((rw_q r (by omega)).mp c), j4, by rw [rw_l r (by omega), rw_l r k0]; exact j5⟩
  · have k0 := low k hk hF
    exact t3 k (by omega) ((rw_q r k0).mp hF) (fun j hj hq => hb j hj ((rw_q r (by omega)).mpr hq))
  · have k0 := low k hk hF
    rw [rw_g r k0] at hw2
    exact t4 k (by omega) ((rw_q r k0).mp hF) ((rw_f1 r).mp hw2)
  · have k0 := low k hk hF
    rw [rw_g r k0]
    exact (rw_gok r).mpr (t5 k (by omega) ((rw_q r k0).mp hF) (ho.imp id (fun ⟨k', a, b, c⟩ => ⟨k', a, by have := low k' b c; omega, (rw_q r (low k' b c)).mp c⟩)))
  · obtain ⟨y, y1, y2, y3⟩ := t6 x hx ((rw_f2 r).mp h2)
    exact ⟨y, y1, (rw_f1 r).mpr y2, by rw [r.1]; exact y3⟩
  · rw [rw_K r] at q
    obtain ⟨y, z, y1, z1, y2, y3, y4⟩ := t7 q
    exact ⟨y, z, y1, z1, (rw_f1 r).mpr y2, by rw [r.1]; exact y3, by rw [r.1]; exact y4⟩
end ROWS
section STE2
variable {M0 R0 : Mm} {N0 NT : Nat} {G : Nat → UGt} {lim : Nat}
/-- every fold on top has seen something else: rows may come and go above it -/
theorem CS_up {M M' : Mm} {ω ω' : Nat → Ty} {n w w' w0 : Nat} {ρ nu ep : Nat → Nat} (h : CS M ω n w ρ nu ep) (r : RwS M M' w0) (hw : w0 ≤ w) (hw1 : w ≤ w0 + 1) (hw' : w0 ≤ w') (hnf : ∀ k, w0 ≤ k → k < w' → ¬ qF M' k ∧ M' 51 (5 * k) ≠ 2) (h0 : ∀ k, w0 ≤ k → k < w → ¬ qF M k) (hω : ∀ k, k ≤ w0 → ω' k = ω k) (hep : ∀ k, tpF M w k → ep k = 1 ∧ nu k = 1 ∧ (rF M k : Int) < lenC M (lF M k)) : CS M' ω' n w' ρ nu ep ∧ ∀ k, tpF M' w' k → ep k = 1 ∧ nu k = 1 ∧ (rF M' k : Int) < lenC M' (lF M' k) := by
  obtain ⟨s1, s2, s3⟩ := h
  have low : ∀ k, k < w' → qF M' k → k < w0 := fun k hk hF => by
    by_cases c : k < w0
    · exact c
    · exact absurd hF (hnf k (by omega) hk).1
  have tp : ∀ k, tpF M' w' k → tpF M w k := fun k ⟨h1, h2, h3⟩ => by
    have k0 := low k h1 h2
    refine ⟨by omega, (rw_q r k0).mp h2, fun j h4 h5 h6 => ?_⟩
    by_cases c : j < w0
    · exact h3 j h4 (by omega) ((rw_q r c).mpr h6)
    · exact h0 j (by omega) h5 h6
  refine ⟨⟨fun k hk h2 => ?_, fun k hF hk => ?_, fun k hk hF => ?_⟩, fun k hk => ?_⟩
  · have k0 : k < w0 := by
      by_cases c : k < w0
      · exact c
      · exact absurd h2 (hnf k (by omega) hk).2
    rw [r.2 _ (by omega)] at h2
    obtain ⟨q1, q2, q3, q4⟩ := s1 k (by omega) h2
    refine ⟨q1, (rw_q r (by omega)).mpr q2, ?_, by rw [rw_K r]; exact q4⟩
    rw [hω _ (by omega), hω _ (by omega)]
    exact q3
  · have k0 := low k (by omega) hF
    have hF0 := (rw_q r k0).mp hF
    rw [rw_r r k0, rw_l r k0, rw_len r]
    by_cases c : ∃ j, k < j ∧ j < w ∧ qF M j
    · obtain ⟨j, c1, c2, c3⟩ := c
      have j0 : j < w0 := by
        by_cases z : j < w0
        · exact z
        · exact absurd c3 (h0 j (by omega) c2)
      obtain ⟨q1, q2, q3⟩ := s2 k hF0 (by omega)
      refine ⟨q1, q2, ?_⟩
      rcases q3 with q | q | ⟨q, q4⟩
      · exact Or.inl q
      · by_cases z : k + 1 < w0
        · exact Or.inr (Or.inl ((rw_q r z).mpr q))
        · omega
      · by_cases z : k + 1 = j
        · subst z
          exact Or.inr (Or.inl ((rw_q r j0).mpr c3))
        · rcases q4 with q4 | ⟨q5, q6, q7⟩
          · omega
          · have z2 : k + 2 < w0 := by
              by_cases z : k + 2 < w0
              · exact z
              · omega
            refine Or.inr (Or.inr ⟨by rw [r.2 _ (by omega)]; exact q, Or.inr ⟨(rw_q r z2).mpr q5, by rw [rw_g r k0]; exact q6, by rw [hω _ (by omega)]; exact q7⟩⟩)
    · obtain ⟨q1, q2, q3⟩ := hep k ⟨by omega, hF0, fun j a b d => c ⟨j, a, b, d⟩⟩
      exact ⟨q2, q3, Or.inl q1⟩
  · have k0 := low k hk hF
    rw [rw_r r k0, rw_l r k0, rw_len r, hω _ (by omega)]
    exact s3 k (by omega) ((rw_q r k0).mp hF)
  · have t := tp k hk
    have k0 := low k hk.1 hk.2.1
    rw [rw_r r k0, rw_l r k0, rw_len r]
    exact hep k t
theorem cells_E2 (hl : lim ≤ 300) : CloE2 M0 R0 N0 NT G lim Pc := by
  intro Mc Mr φ τ κ Es n m nf ne ω w s Mc' Mr' Es' nf' ne' ω' w' se p hs se' hω h49 h51 hrow
  obtain ⟨ρ, σ, lo, nu, ep, en, th, dd, N, a, b, c1, Nf, ⟨cr, ⟨f1, f2, f3, f4, f5, f6, f7, f8⟩, ct, cs⟩, pe1, pe2⟩ := Pc_E p
  have hC := se.1.1.2.2.2.2
  have hC' := se'.1.1.2.2.2.2
  have wf' := WFr_of se'.1
  have r : RwS Mc Mc' w := ⟨h49, h51⟩
  have hw' : w ≤ w' := by omega
  have top : ∀ k, w ≤ k → k < w' → Mc' 51 (5 * k) = 0 := fun k h1 h2 => by
    rcases hrow with ⟨h, _⟩ | ⟨h, h3, _⟩
    · omega
    · obtain rfl : k = w := by omega
      exact h3
  have hnf : ∀ k, w ≤ k → k < w' → ¬ qF Mc' k ∧ Mc' 51 (5 * k) ≠ 2 := fun k h1 h2 => by
    have := top k h1 h2
    unfold qF
    exact ⟨by omega, by omega⟩
  obtain ⟨cs', tp'⟩ := CS_up cs r (Nat.le_refl _) (by omega) hw' hnf (fun k h1 h2 => by omega) hω pe1
  have nw : ∀ S : Nat → Prop, clF Mc n S → (∀ x : Nat, Mc 47 12 = (x : Int) → S x) → (∀ k' x, w ≤ k' → k' < w → rptr Mc k' x → S x) → (∀ x : Nat, Mc' 47 12 = (x : Int) → S x) ∧ ∀ k' x, w ≤ k' → k' < w' → rptr Mc' k' x → S x := fun S _ h2 _ => by
    rcases hrow with ⟨h, h3⟩ | ⟨h, h3, h4, h5⟩
    · exact ⟨fun x hx => by omega, fun k' x q1 q2 => by omega⟩
    · refine ⟨fun x hx => h2 x (by rw [← h5]; exact hx), fun k' x q1 q2 hx => ?_⟩
      obtain rfl : k' = w := by omega
      rcases hx with ⟨_, hx⟩ | ⟨hx, _⟩ | ⟨hx, _⟩
      · exact h2 x (by rw [← h4]; exact hx)
      · omega
      · omega
  have cA : sm (crA Mc' nu ep th) w' ≤ sm (crA Mc nu ep th) w + 1 := by
    rcases hrow with ⟨rfl, _⟩ | ⟨rfl, h3, _⟩
    · rw [rw_cr r]; omega
    · rw [sm_s, rw_cr r]
      unfold crA
      rw [if_pos h3]
      omega
  have sF : ∀ f : Nat → Nat, sm (fF Mc' f) w' = sm (fF Mc f) w := fun f => by
    rcases hrow with ⟨rfl, _⟩ | ⟨rfl, h3, _⟩
    · rw [rw_sm r]
    · rw [sm_s, rw_sm r]
      unfold fF
      rw [if_neg (by omega)]
      rfl
  have sR : sm (fF Mc' (rF Mc')) w' = sm (fF Mc (rF Mc)) w := by
    rcases hrow with ⟨rfl, _⟩ | ⟨rfl, h3, _⟩
    · rw [rw_rf r]
    · rw [sm_s, rw_rf r]
      unfold fF
      rw [if_neg (show ¬ Mc' 51 (5 * w) = 3 by omega)]
      rfl
  have gg : Gst Mc' τ ω' n m w' (s + 1) 0 0 (fun x => Mc' 47 12 = (x : Int)) ρ σ lo nu ep en th dd N a b c1 Nf := by
    refine ⟨CR_g hC cr r (Nat.le_refl _) hw' (fun k h1 h2 => (hnf k h1 h2).1) nw (fun k x h1 h2 h3 => (nw (fun x => dd x = false) (fun i x h1 _ h3 => cr.2.2.2.1 i x h1 h3) pe2 (fun k' x h1 h2 => by omega)).2 k x h1 h2 h3), ⟨FLG_g f1 r (Nat.le_refl _) (fun k h1 h2 => (hnf k h1 h2).1), ?_, ?_, ?_, ?_, ?_, ?_, ?_⟩, CTr_g ct r (Nat.le_refl _) (fun k h1 h2 => (hnf k h1 h2).1), cs'⟩
    · rw [rw_W r, rw_F r, rw_K r]; omega
    · rw [rw_K r, sF, sF]; omega
    · rw [sF]; omega
    · rw [sR]; omega
    · rw [rw_K r]; exact f6
    · rw [rw_K r]; exact f7
    · refine f8.imp id (fun q i hi hw => ?_)
      unfold wC1 at hw
      rw [h49] at hw
      exact q i hi hw
  refine ⟨fin_of hC' wf' (by omega) gg (Or.inr (fun k hk => (tp' k hk).2.1)), Or.inl ⟨rfl, ρ, σ, lo, nu, ep, en, th, dd, N, a, b, c1, Nf, gg, tp', fun x hx => ?_⟩⟩
  exact (nw (fun x => dd x = false) (fun i x h1 _ h3 => cr.2.2.2.1 i x h1 h3) pe2 (fun k' x h1 h2 => by omega)).1 x hx
end STE2
