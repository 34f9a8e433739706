/-! Run: the other side's cells stay under 6000. A value meets the row that waits. -/
section STV
variable {M0 R0 : Mm} {N0 NT : Nat} {G : Nat → UGt} {lim : Nat}
theorem CS_pop {M M' : Mm} {ω : Nat → Ty} {n w : Nat} {ρ nu ep : Nat → Nat} (h : CS M ω n (w + 1) ρ nu ep) (r : RwS M M' w) (h0 : ¬ qF M w) : CS M' ω n w ρ nu ep := by
  obtain ⟨s1, s2, s3⟩ := h
  refine ⟨fun k hk h2 => ?_, fun k hF hk => ?_, fun k hk hF => ?_⟩
  · rw [r.2 _ (by omega)] at h2
    obtain ⟨q1, q2, q3, q4⟩ := s1 k (by omega) h2
    exact ⟨q1, (rw_q r (by omega)).mpr q2, q3, by rw [rw_K r]; exact q4⟩
  · have k0 : k < w := by omega
    obtain ⟨q1, q2, q3⟩ := s2 k ((rw_q r k0).mp hF) (by omega)
    rw [rw_r r k0, rw_l r k0, rw_len r, rw_g r k0]
    refine ⟨q1, q2, ?_⟩
    rcases q3 with q | q | ⟨q, q4⟩
    · exact Or.inl q
    · exact Or.inr (Or.inl ((rw_q r (by omega)).mpr q))
    · refine Or.inr (Or.inr ⟨by rw [r.2 _ (by omega)]; exact q, ?_⟩)
      rcases q4 with q4 | ⟨q5, q6, q7⟩
      · omega
      · by_cases z : k + 2 = w
        · exact Or.inl z.symm
        · exact Or.inr ⟨(rw_q r (by omega)).mpr q5, q6, q7⟩
  · rw [rw_r r hk, rw_l r hk, rw_len r]
    exact s3 k (by omega) ((rw_q r hk).mp hF)
/-- a row that is no fold and no SECOND on top: the fold under it has seen something else -/
theorem top_ep {M : Mm} {ω : Nat → Ty} {n w : Nat} {ρ nu ep : Nat → Nat} (h : CS M ω n (w + 1) ρ nu ep) (h0 : ¬ qF M w) (h2 : M 51 (5 * w) ≠ 2) : ∀ k, tpF M (w + 1) k → ep k = 1 ∧ nu k = 1 ∧ (rF M k : Int) < lenC M (lF M k) := by
  intro k ⟨k1, k2, k3⟩
  have kw : k ≠ w := fun e => by subst e; exact h0 k2
  obtain ⟨q1, q2, q3⟩ := h.2.1 k k2 (by omega)
  refine ⟨?_, q1, q2⟩
  rcases q3 with q | q | ⟨q, q4⟩
  · exact q
  · exact absurd q (k3 (k + 1) (by omega) (by omega))
  · by_cases z : k + 1 = w
    · rw [z] at q
      exact absurd q h2
    · rcases q4 with q4 | ⟨q5, _⟩
      · omega
      · exact absurd q5 (k3 (k + 2) (by omega) (by omega))
theorem cells_V0 : CloV0 M0 R0 N0 NT G lim Pc := by
  intro Mc Mr φ τ κ Es n m nf ne ω w s Mc' Mr' ω' sv p hk se' hω h51 hr1 hr2 hoth h12
  obtain ⟨v, hv14, ρ, σ, lo, nu, ep, en, th, dd, N, a, b, c1, Nf, ⟨cr, ⟨f1, f2, f3, f4, f5, f6, f7, f8⟩, ct, cs⟩, sh, hd⟩ := Pc_V p
  have hC := sv.1.1.2.2.2.2
  have r : RwS Mc Mc' w := ⟨hoth 49 (by decide) (by decide), h51⟩
  have h0 : ¬ qF Mc w := by unfold qF; omega
  have h0' : ¬ qF Mc' w := by unfold qF; omega
  have te := top_ep cs h0 (by omega)
  have hnf : ∀ k, w ≤ k → k < w + 1 → ¬ qF Mc' k ∧ Mc' 51 (5 * k) ≠ 2 := fun k h1 h2 => by
    obtain rfl : k = w := by omega
    exact ⟨h0', by omega⟩
  obtain ⟨cs', tp'⟩ := CS_up (w' := w + 1) cs r (by omega) (by omega) (by omega) hnf (fun k h1 h2 => by
    obtain rfl : k = w := by omega
    exact h0) hω te
  have dv : dd v = false := by
    rcases hd with hd | ⟨k, k1, k2, k3, k4⟩
    · exact hd
    · obtain rfl : k + 1 = w := by omega
      omega
  have nw : ∀ S : Nat → Prop, clF Mc n S → (∀ x : Nat, x = v → S x) → (∀ k' x, w ≤ k' → k' < w + 1 → rptr Mc k' x → S x) → (∀ x : Nat, Mc' 47 12 = (x : Int) → S x) ∧ ∀ k' x, w ≤ k' → k' < w + 1 → rptr Mc' k' x → S x := fun S _ h2 h3 => by
    refine ⟨fun x hx => h3 w x (by omega) (by omega) (Or.inl ⟨hk, by rw [← h12]; exact hx⟩), fun k' x q1 q2 hx => ?_⟩
    obtain rfl : k' = w := by omega
    rcases hx with ⟨hx, _⟩ | ⟨_, hx⟩ | ⟨hx, _⟩
    · omega
    · exact h2 x (by omega)
    · omega
  have nwd := nw (fun x => dd x = false) (fun i x h1 _ h3 => cr.2.2.2.1 i x h1 h3) (fun x hx => by rw [hx]; exact dv) (fun k' x _ h2 h3 => cr.2.2.2.2.1 k' x h2 h3)
  have cA : sm (crA Mc' nu ep th) (w + 1) = sm (crA Mc nu ep th) (w + 1) + 1 := by
    rw [sm_s, sm_s, rw_cr r]
    unfold crA
    rw [if_neg (by omega), if_pos hr1, if_pos hk]
  have sF : ∀ f : Nat → Nat, sm (fF Mc' f) (w + 1) = sm (fF Mc f) (w + 1) := fun f => by
    rw [sm_s, sm_s, rw_sm r]
    unfold fF
    rw [if_neg (by omega), if_neg (by omega)]
  have sR : sm (fF Mc' (rF Mc')) (w + 1) = sm (fF Mc (rF Mc)) (w + 1) := by
    rw [sm_s, sm_s, rw_rf r]
    unfold fF
    rw [if_neg (show ¬ Mc' 51 (5 * w) = 3 by omega), if_neg (show ¬ Mc 51 (5 * w) = 3 by omega)]
  refine ⟨p.1, Or.inl ⟨rfl, ρ, σ, lo, nu, ep, en, th, dd, N, a, b, c1, Nf, ⟨CR_g hC cr r (by omega) (by omega) (fun k h1 h2 => (hnf k h1 h2).1) nw (fun k x h1 h2 h3 => nwd.2 k x h1 h2 h3), ⟨FLG_g f1 r (by omega) (fun k h1 h2 => (hnf k h1 h2).1), ?_, ?_, ?_, ?_, ?_, ?_, ?_⟩, CTr_g ct r (by omega) (fun k h1 h2 => (hnf k h1 h2).1), cs'⟩, tp', nwd.1⟩⟩
  · rw [rw_W r, rw_F r, rw_K r, cA]; omega
  · rw [rw_K r, sF, sF]; omega
  · rw [sF]; omega
  · rw [sR]; omega
  · rw [rw_K r]; exact f6
  · rw [rw_K r]; exact f7
  · refine f8.imp id (fun q i hi hw => ?_)
    unfold wC1 at hw
    rw [r.1] at hw
    exact q i hi hw
theorem cells_V1 : CloV1 M0 R0 N0 NT G lim Pc := by
  intro Mc Mr φ τ κ Es n m nf ne ω w s i j sv p hi hj hij ht
  obtain ⟨v, hv14, ρ, σ, lo, nu, ep, en, th, dd, N, a, b, c1, Nf, ⟨cr, ⟨f1, f2, f3, f4, f5, f6, f7, f8⟩, ct, cs⟩, sh, hd⟩ := Pc_V p
  have hC := sv.1.1.2.2.2.2
  have r : RwS Mc (up Mc 47 6 (w : Int)) w := ⟨up_cell (by decide), fun j _ => by rw [up_cell (by decide)]⟩
  have h0 : ¬ qF Mc w := by
    unfold qF
    rcases hij with ⟨h, _⟩ | ⟨h, _⟩ <;> omega
  have cs' := CS_pop cs r h0
  have nw : ∀ S : Nat → Prop, clF Mc n S → (∀ x : Nat, x = v → S x) → (∀ k' x, w ≤ k' → k' < w + 1 → rptr Mc k' x → S x) → (∀ x : Nat, (x = i ∨ x = j) → S x) ∧ ∀ k' x, w ≤ k' → k' < w → rptr (up Mc 47 6 (w : Int)) k' x → S x := fun S _ h2 h3 => by
    refine ⟨fun x hx => ?_, fun k' x q1 q2 => by omega⟩
    rcases hij with ⟨a1, a2, a3⟩ | ⟨a1, a2, a3⟩
    · rcases hx with rfl | rfl
      · exact h3 w x (by omega) (by omega) (Or.inr (Or.inl ⟨Or.inl a1, a2⟩))
      · exact h2 x (by omega)
    · rcases hx with rfl | rfl
      · exact h2 x (by omega)
      · exact h3 w x (by omega) (by omega) (Or.inr (Or.inl ⟨Or.inr a1, a2⟩))
  have cr' : CR (up Mc 47 6 (w : Int)) n w (fun x => x = i ∨ x = j) ρ σ lo dd := CR_g hC cr r (by omega) (Nat.le_refl _) (fun k h1 h2 => by omega) nw (fun k x h1 h2 => by omega)
  have ct' : CTr (up Mc 47 6 (w : Int)) τ n w ρ ep th dd a := CTr_g ct r (by omega) (fun k h1 h2 => by omega)
  have sF : ∀ f : Nat → Nat, sm (fF (up Mc 47 6 (w : Int)) f) w = sm (fF Mc f) (w + 1) := fun f => by
    rw [sm_s, rw_sm r]
    unfold fF
    rw [if_neg (show ¬ Mc 51 (5 * w) = 3 from h0)]
    rfl
  have sR : sm (fF (up Mc 47 6 (w : Int)) (rF (up Mc 47 6 (w : Int)))) w = sm (fF Mc (rF Mc)) (w + 1) := by
    rw [sm_s, rw_rf r]
    unfold fF
    rw [if_neg (show ¬ Mc 51 (5 * w) = 3 from h0)]
    rfl
  have f1' : FLG (up Mc 47 6 (w : Int)) w nu ep en := FLG_g f1 r (by omega) (fun k h1 h2 => by omega)
  have f8' : c1 = 1 ∨ ∀ i, i < n → ¬ wC1 (up Mc 47 6 (w : Int)) i := f8.imp id (fun q i hi hw => by
    unfold wC1 at hw
    rw [r.1] at hw
    exact q i hi hw)
  have cA : sm (crA (up Mc 47 6 (w : Int)) nu ep th) w + crA Mc nu ep th w = sm (crA Mc nu ep th) (w + 1) := by
    rw [sm_s, rw_cr r]
  have tpd : ∀ k, tpF (up Mc 47 6 (w : Int)) w k → tpF Mc (w + 1) k := fun k ⟨h1, h2, h3⟩ => ⟨by omega, (rw_q r h1).mp h2, fun j h4 h5 h6 => by
    by_cases c : j = w
    · subst c; exact h0 h6
    · exact h3 j h4 (by omega) ((rw_q r (by omega)).mpr h6)⟩
  have cc : ∀ e1, e1 + sm (crA (up Mc 47 6 (w : Int)) nu ep th) w ≤ sm (crA Mc nu ep th) (w + 1) + 1 → CC (up Mc 47 6 (w : Int)) n m w s e1 1 nu ep en th dd N a b c1 Nf := fun e1 he => by
    refine ⟨f1', ?_, ?_, ?_, ?_, ?_, ?_, f8'⟩
    · rw [rw_W r, rw_F r, rw_K r]; omega
    · rw [rw_K r, sF, sF]; omega
    · rw [sF]; omega
    · rw [sR]; omega
    · rw [rw_K r]; exact f6
    · rw [rw_K r]; exact f7
  refine ⟨p.1, Or.inr (Or.inr (Or.inl ⟨rfl, ?_⟩))⟩
  rcases hij with ⟨a1, a2, a3⟩ | ⟨a1, a2, a3⟩
  · have te := top_ep cs h0 (by omega)
    have dv : dd v = false := by
      rcases hd with hd | ⟨k, k1, k2, k3, k4⟩
      · exact hd
      · obtain rfl : k + 1 = w := by omega
        omega
    obtain rfl : j = v := by omega
    have di : dd i = false := cr.2.2.2.2.1 w i (by omega) (Or.inr (Or.inl ⟨Or.inl a1, a2⟩))
    refine ⟨ρ, σ, lo, nu, ep, en, th, dd, N, a, b, c1, Nf, 0, ⟨cr', cc _ ?_, ct', cs'⟩, dv, Or.inl ⟨rfl, di, fun k hk => ?_⟩⟩
    · rw [if_pos rfl, ← cA]
      unfold crA
      rw [if_neg (show ¬ Mc 51 (5 * w) = 0 by omega), if_pos a1]
      omega
    · obtain ⟨q1, q2, q3⟩ := te k (tpd k hk)
      rw [rw_r r hk.1, rw_l r hk.1, rw_len r]
      exact ⟨q1, q2, q3⟩
  · obtain ⟨b1, b2, b3, b4⟩ := cs.1 w (by omega) a1
    obtain rfl : i = v := by omega
    have dj : dd j = false := cr.2.2.2.2.1 w j (by omega) (Or.inr (Or.inl ⟨Or.inr a1, a2⟩))
    obtain ⟨k, rfl⟩ : ∃ k, w = k + 1 := ⟨w - 1, by omega⟩
    have b2 : qF Mc k := b2
    have b3 : ω (k + 1 + 1) = tF (ω k) (ω k) := b3
    obtain ⟨q1, q2, q3⟩ := cs.2.1 k b2 (by omega)
    have tk : tpF Mc (k + 1 + 1) k := ⟨by omega, b2, fun j h1 h2 h3 => by
      obtain rfl : j = k + 1 := by omega
      exact h0 h3⟩
    have hh := (sh k tk).2 (by omega)
    refine ⟨ρ, σ, lo, nu, ep, en, th, dd, N, a, b, c1, Nf, 2, ⟨cr', cc _ ?_, ct', cs'⟩, dj, Or.inr (Or.inr ⟨rfl, by rw [rw_K r]; exact b4, k, rfl, (rw_q r (by omega)).mpr b2, q1, by rw [rw_r r (by omega), rw_l r (by omega), rw_len r]; exact q2, ?_, ?_, ?_⟩)⟩
    · rw [if_neg (by decide), ← cA]
      omega
    · exact hh.imp id (fun q => HH_g r (by omega) q)
    · rcases hd with hd | ⟨k', k1, k2, k3, k4⟩
      · exact Or.inl hd
      · obtain rfl : k' = k := by omega
        exact Or.inr k4
    · obtain ⟨v', _, hv', _, tv⟩ := sv.2.2.2
      obtain rfl : v' = i := by omega
      rw [tv, b3]
theorem cells_V3 : CloV3 M0 R0 N0 NT G lim Pc := by
  intro Mc Mr φ τ κ Es n m nf ne ω w s g z l r sv p h1 h2 h3 h4 h5
  obtain ⟨v, hv14, ρ, σ, lo, nu, ep, en, th, dd, N, a, b, c1, Nf, ⟨cr, ⟨f1, f2, f3, f4, f5, f6, f7, f8⟩, ct, cs⟩, sh, hd⟩ := Pc_V p
  obtain rfl : z = v := by omega
  have hC := sv.1.1.2.2.2.2
  have e51 : pw (up Mc 47 6 (w : Int)) w 3 (g : Int) (l : Int) (r : Int) (up Mc 47 6 (w : Int) 51 (5 * w + 4)) 51 = Mc 51 := by
    funext j
    by_cases c : j < 5 * w
    · rw [pw_old c, up_cell (by decide)]
    · have row := pw_row (M := up Mc 47 6 (w : Int)) (n := w) (x1 := 3) (x2 := (g : Int)) (x3 := (l : Int)) (x4 := (r : Int)) (x5 := up Mc 47 6 (w : Int) 51 (5 * w + 4))
      by_cases c0 : j = 5 * w
      · subst c0; rw [row.1, h1]
      by_cases c1 : j = 5 * w + 1
      · subst c1; rw [row.2.1, h2]
      by_cases c2 : j = 5 * w + 2
      · subst c2; rw [row.2.2.1, h4]
      by_cases c3 : j = 5 * w + 3
      · subst c3; rw [row.2.2.2.1, h5]
      by_cases c4 : j = 5 * w + 4
      · subst c4; rw [row.2.2.2.2, up_cell (by decide)]
      unfold pw
      rw [up_cell (by decide), up_at c4, up_at c3, up_at c2, up_at c1, up_at c0, up_cell (by decide)]
  have e49 : pw (up Mc 47 6 (w : Int)) w 3 (g : Int) (l : Int) (r : Int) (up Mc 47 6 (w : Int) 51 (5 * w + 4)) 49 = Mc 49 := by rw [pw_cell (by decide) (by decide), up_cell (by decide)]
  generalize hM : pw (up Mc 47 6 (w : Int)) w 3 (g : Int) (l : Int) (r : Int) (up Mc 47 6 (w : Int) 51 (5 * w + 4)) = M' at *
  have h49 : ∀ j, j < 5 * n → M' 49 j = Mc 49 j := fun j _ => by rw [e49]
  have wf := WFr_of sv.1
  have rp := RP_of sv.1
  have hρ : ∀ k, k < w + 1 → qF Mc k → ρ k < n := fun k hk hF => by have := (cr.1 k hk hF).1; omega
  have rr : RwS Mc M' (w + 1) := ⟨e49, fun j _ => by rw [e51]⟩
  refine ⟨p.1, Or.inr (Or.inr (Or.inr ⟨rfl, ?_⟩))⟩
  rw [hM]
  refine ⟨ρ, σ, lo, nu, ep, en, th, dd, N, a, b, c1, Nf, ⟨CR_g hC cr rr (Nat.le_refl _) (Nat.le_refl _) (fun k a b => by omega) (fun S _ q _ => ⟨q, fun k' x a b => by omega⟩) (fun k x a b => by omega), ⟨FLG_g f1 rr (Nat.le_refl _) (fun k a b => by omega), ?_, ?_, ?_, ?_, ?_, ?_, ?_⟩, CTr_g ct rr (Nat.le_refl _) (fun k a b => by omega), CS_t1 wf cs e51 h49 (fun q => by rw [rw_K rr]; exact q)⟩, fun k hk => ?_, ?_⟩
  · rw [rw_W rr, rw_F rr, rw_K rr, rw_cr rr]; exact f2
  · rw [rw_K rr, rw_sm rr, rw_sm rr]; exact f3
  · rw [rw_sm rr]; exact f4
  · rw [rw_rf rr]; exact f5
  · rw [rw_K rr]; exact f6
  · rw [rw_K rr]; exact f7
  · refine f8.imp id (fun q i hi hw => ?_)
    unfold wC1 at hw
    rw [e49] at hw
    exact q i hi hw
  · have hk' := tp_t1 e51 hk
    obtain ⟨q1, q2⟩ := sh k hk'
    rw [rw_r rr hk.1, rw_l rr hk.1, rw_len rr, e49]
    exact ⟨q1, fun q => (q2 q).imp id (fun z => HH_g rr hk.1 z)⟩
  · refine hd.imp id (fun ⟨k, k1, k2, k3, k4⟩ => ⟨k, k1, (rw_q rr (by omega)).mpr k2, by rw [e51]; exact k3, k4⟩)
end STV
