/-! Run: the other side's cells stay under 6000. Evaluating. -/
section STE
variable {M0 R0 : Mm} {N0 NT : Nat} {G : Nat → UGt} {lim : Nat}
theorem Pc_E {Mc : Mm} {τ ω : Nat → Ty} {n m w s a b c d : Nat} (h : Pc 0 Mc τ ω n m w s a b c d) : IE Mc τ ω n m w s := by
  rcases h.2 with ⟨_, h⟩ | ⟨h, _⟩ | ⟨h, _⟩ | ⟨h, _⟩
  · exact h
  · omega
  · omega
  · omega
theorem Pc_V {Mc : Mm} {τ ω : Nat → Ty} {n m w s a b c d : Nat} (h : Pc 1 Mc τ ω n m w s a b c d) : ∃ v : Nat, Mc 47 14 = (v : Int) ∧ IV Mc τ ω n m w s v := by
  rcases h.2 with ⟨h, _⟩ | ⟨_, h⟩ | ⟨h, _⟩ | ⟨h, _⟩
  · omega
  · exact h
  · omega
  · omega
theorem Pc_C {Mc : Mm} {τ ω : Nat → Ty} {n m w s a b c d : Nat} (h : Pc 2 Mc τ ω n m w s a b c d) : IC Mc τ ω n m w s a b := by
  rcases h.2 with ⟨h, _⟩ | ⟨h, _⟩ | ⟨_, h⟩ | ⟨h, _⟩
  · omega
  · omega
  · exact h
  · omega
theorem Pc_F {Mc : Mm} {τ ω : Nat → Ty} {n m w s a b c d : Nat} (h : Pc 3 Mc τ ω n m w s a b c d) : IV (pw Mc w 3 (a : Int) (c : Int) (d : Int) (Mc 51 (5 * w + 4))) τ ω n m (w + 1) s b := by
  rcases h.2 with ⟨h, _⟩ | ⟨h, _⟩ | ⟨h, _⟩ | ⟨_, h⟩
  · omega
  · omega
  · omega
  · exact h
theorem cells_E1 (hl : lim ≤ 300) : CloE1 M0 R0 N0 NT G lim Pc := by
  intro Mc Mr φ τ κ Es n m nf ne ω w s Mc' Mr' φ' τ' κ' Es' n' m' nf' ne' se p hs sv hτ hm h51 h49 hnew
  obtain ⟨ρ, σ, lo, nu, ep, en, th, dd, N, a, b, c1, Nf, g, pe1, pe2⟩ := Pc_E p
  have hC := se.1.1.2.2.2.2
  have hC' := sv.1.1.2.2.2.2
  have wf := WFr_of se.1
  have rp := RP_of se.1
  have wf' := WFr_of sv.1
  obtain ⟨v, hv, hv14, _, _⟩ := sv.2.2.2
  obtain ⟨cr, cc, ct, cs⟩ := g
  have hρ : ∀ k, k < w → qF Mc k → ρ k < n := fun k hk hF => by have := (cr.1 k hk hF).1; omega
  obtain ⟨f1, f2, f3, f4, f5, f6, f7, f8⟩ := cc
  have dn : ∀ x, n ≤ x → dd x = false := fun x hx => by
    cases q : dd x with
    | false => rfl
    | true => have := (cr.2.2.2.2.2 x q).1; omega
  have shape : ∀ k, tpF Mc' w k → (k + 1 = w → nu k = 1 ∨ (∃ a, ω k = tL a) ∨ ((rF Mc' k : Int) = lenC Mc' (lF Mc' k) ∧ Mc' 49 (5 * ρ k + 4) = (v : Int))) ∧ (k + 1 < w → ep k = 1 ∨ HH Mc' τ' dd k v) := fun k hk => by
    obtain ⟨q1, q2, _⟩ := pe1 k (tp_t1 h51 hk)
    exact ⟨fun _ => Or.inl q2, fun _ => Or.inl q1⟩
  have fin : ∀ e2, Gst Mc' τ' ω n' m' w (s + 1) 1 e2 (fun x => x = v) ρ σ lo nu ep en th dd N a b c1 Nf → dd v = false → Pc 1 Mc' τ' ω n' m' w (s + 1) 0 0 0 0 := fun e2 gg hd => by
    have m6 := fin_of hC' wf' (by omega) gg (Or.inl (by omega))
    refine ⟨m6, Or.inr (Or.inl ⟨rfl, v, hv14, ρ, σ, lo, nu, ep, en, th, dd, N, a, b, c1, Nf, ?_, shape, Or.inl hd⟩)⟩
    obtain ⟨g1, ⟨u1, u2, u3, u4, u5⟩, g3⟩ := gg
    exact ⟨g1, ⟨u1, u2, u3, by omega, u5⟩, g3⟩
  rcases hnew with ⟨rfl, h14, hk⟩ | ⟨rfl, hS⟩
  · obtain rfl : v = n := by omega
    have lt' : ∀ i x, v ≤ i → i < v + 1 → fld Mc' i x → x < v := fun i x h1 h2 hf => by
      obtain rfl : i = v := by omega
      exact fld_lt (hC' i (by omega)) hf
    have nk : Mc' 49 (5 * v) ≠ 2 := by omega
    refine fin 0 ⟨CR_t1 hC wf rp cr (by omega) h51 h49 (fun S h1 h2 h3 h4 => ⟨fun i x q1 q2 hf => ?_, fun x hx => by rw [hx]; exact h4 v (by omega) (by omega), fun k' x q1 q2 => by omega⟩) (fun _ _ => rfl) (fun x hx hd => by rw [dn x hx] at hd; cases hd) pe2 lt', ⟨?_, ?_, ?_, ?_, ?_, ?_, ?_, ?_⟩, CTr_t1 wf hρ ct (by omega) h51 h49 hτ (fun _ _ => rfl) (fun x q1 q2 q3 => ?_) (fun q => ?_), CS_t1 wf cs h51 h49 (fun q => by rw [Kc_s, Kc_fr h49]; omega)⟩ (dn v (by omega))
    · obtain rfl : i = v := by omega
      rcases hf with ⟨q, _⟩ | ⟨_, q⟩ | ⟨q, q3⟩
      · omega
      · rcases hk with hk | hk | ⟨_, hk⟩ | ⟨hk, _⟩
        · omega
        · omega
        · exact h2 x (by rw [← hk]; exact q)
        · omega
      · rcases hk with hk | hk | ⟨hk, _⟩ | ⟨_, hk⟩
        · omega
        · omega
        · omega
        · rcases q3 with q3 | q3 <;> omega
    · exact FLG_t1 wf f1 h51 h49
    · rw [W2_s, F1_s, Kc_s, W2_fr h49 (fun _ _ => rfl), F1_fr h49, Kc_fr h49, cr_t1 h51, if_neg (by omega), if_neg (by omega), if_neg nk]
      omega
    · rw [Kc_s, Kc_fr h49, sm_t1 h51, sm_t1 h51, if_neg nk]
      omega
    · rw [sm_t1 h51]
      omega
    · rw [rf_t1 h51]
      omega
    · rw [Kc_s, Kc_fr h49, if_neg nk]
      exact f6
    · rw [Kc_s, Kc_fr h49, if_neg nk]
      exact f7
    · refine f8.imp id (fun q i hi hw => ?_)
      by_cases c : i < v
      · unfold wC1 at hw
        rw [h49 _ (by omega), h49 _ (by omega), h49 _ (by omega)] at hw
        exact q i c hw
      · obtain rfl : i = v := by omega
        have := hw.2.2
        have := hw.1
        omega
    · obtain rfl : x = v := by omega
      have := q3.1
      have := q3.2.2
      omega
    · rw [Kc_s, Kc_fr h49, if_neg nk] at q
      obtain ⟨y, z, y1, z1, y2, y3, y4⟩ := ct.2.2.2.2.2.2 q
      exact ⟨y, z, by omega, by omega, (wF1_x h49 y1).mpr y2, by rw [h49 _ (by omega)]; exact y3, by rw [h49 _ (by omega)]; exact y4⟩
  · have dv : dd v = false := hS (fun x => dd x = false) (fun i x h1 _ h3 => cr.2.2.2.1 i x h1 h3) pe2 v hv14
    refine fin 0 ⟨CR_t1 hC wf rp cr (Nat.le_refl _) h51 h49 (fun S h1 h2 h3 h4 => ⟨fun i x q1 q2 => by omega, fun x hx => by rw [hx]; exact hS S h1 h2 v hv14, fun k' x q1 q2 => by omega⟩) (fun _ _ => rfl) (fun x hx hd => by rw [dn x hx] at hd; cases hd) pe2 (fun i x h1 h2 => by omega), ⟨?_, ?_, ?_, ?_, ?_, ?_, ?_, ?_⟩, CTr_t1 wf hρ ct (Nat.le_refl _) h51 h49 hτ (fun _ _ => rfl) (fun x q1 q2 => by omega) (fun q => ?_), CS_t1 wf cs h51 h49 (fun q => by rw [Kc_fr h49]; exact q)⟩ dv
    · exact FLG_t1 wf f1 h51 h49
    · rw [W2_fr h49 (fun _ _ => rfl), F1_fr h49, Kc_fr h49, cr_t1 h51]
      omega
    · rw [Kc_fr h49, sm_t1 h51, sm_t1 h51]
      omega
    · rw [sm_t1 h51]
      omega
    · rw [rf_t1 h51]
      omega
    · rw [Kc_fr h49]
      exact f6
    · rw [Kc_fr h49]
      exact f7
    · refine f8.imp id (fun q i hi hw => ?_)
      unfold wC1 at hw
      rw [h49 _ (by omega), h49 _ (by omega), h49 _ (by omega)] at hw
      exact q i hi hw
    · rw [Kc_fr h49] at q
      obtain ⟨y, z, y1, z1, y2, y3, y4⟩ := ct.2.2.2.2.2.2 q
      exact ⟨y, z, by omega, by omega, (wF1_x h49 y1).mpr y2, by rw [h49 _ (by omega)]; exact y3, by rw [h49 _ (by omega)]; exact y4⟩
end STE
