/-! Run: the other side's cells stay under 6000. Calls. -/
section STC
variable {M0 R0 : Mm} {N0 NT : Nat} {G : Nat → UGt} {lim : Nat}
theorem CTr_ep {M : Mm} {τ : Nat → Ty} {n w a : Nat} {ρ ep ep' th : Nat → Nat} {dd : Nat → Bool} (h : CTr M τ n w ρ ep th dd a) (h1 : ∀ k, k + 1 < w → ep k = 1 → ep' k = 1) (hg : ∀ k, k < w → qF M k → ep' k = 1 → ep k = 1 ∨ gok M (gF M k)) : CTr M τ n w ρ ep' th dd a := by
  obtain ⟨t1, t2, t3, t4, t5, t6, t7⟩ := h
  refine ⟨fun k k' a b c d e f => (t1 k k' a b c d e f).imp (fun q => h1 k (by omega) q) id, t2, t3, t4, fun k hk hF ho => ?_, t6, t7⟩
  rcases ho with ho | ho
  · rcases hg k hk hF ho with q | q
    · exact t5 k hk hF (Or.inl q)
    · exact q
  · exact t5 k hk hF (Or.inr ho)
theorem CS_ep {M : Mm} {ω : Nat → Ty} {n w : Nat} {ρ nu nu' ep ep' : Nat → Nat} (h : CS M ω n w ρ nu ep) (h1 : ∀ k, k + 1 < w → ep k = 1 → ep' k = 1) (h2 : ∀ k, k + 1 < w → nu' k = nu k) (h3 : ∀ k, k < w → qF M k → nu k = 1 → nu' k = 1 ∨ ∃ a, ω k = tL a) : CS M ω n w ρ nu' ep' := by
  obtain ⟨s1, s2, s3⟩ := h
  refine ⟨s1, fun k hF hk => ?_, fun k hk hF => ?_⟩
  · obtain ⟨q1, q2, q3⟩ := s2 k hF hk
    exact ⟨by rw [h2 k hk]; exact q1, q2, q3.imp (fun q => h1 k hk q) id⟩
  · rcases s3 k hk hF with q | q
    · exact (h3 k hk hF q).imp id (fun z => Or.inr z)
    · exact Or.inr q
theorem cr_one {M : Mm} {k w : Nat} {nu nu' ep ep' th th' : Nat → Nat} (hk : k < w) (hF : qF M k) (h : ∀ j, j ≠ k → nu' j = nu j ∧ ep' j = ep j ∧ th' j = th j) : sm (crA M nu' ep' th') w + (nu k + ep k + th k) = sm (crA M nu ep th) w + (nu' k + ep' k + th' k) := by
  have e : ∀ nu ep th : Nat → Nat, crA M nu ep th k = nu k + ep k + th k := fun nu ep th => by
    unfold qF at hF
    unfold crA
    rw [if_neg (by omega), if_neg (by omega), if_pos hF]
  have := sm_one (f := crA M nu' ep' th') (g := crA M nu ep th) hk (fun j _ hj => by
    unfold crA
    rw [(h j hj).1, (h j hj).2.1, (h j hj).2.2])
  rw [e, e] at this
  exact this
theorem ff_one {M : Mm} {k w : Nat} {f f' : Nat → Nat} (hk : k < w) (hF : qF M k) (h : ∀ j, j ≠ k → f' j = f j) : sm (fF M f') w + f k = sm (fF M f) w + f' k := by
  have e : ∀ f : Nat → Nat, fF M f k = f k := fun f => if_pos hF
  have := sm_one (f := fF M f') (g := fF M f) hk (fun j _ hj => by
    unfold fF
    rw [h j hj])
  rw [e, e] at this
  exact this
theorem cells_C1 (hl : lim ≤ 300) : CloC1 M0 R0 N0 NT G lim Pc := by
  intro Mc Mr φ τ κ Es n m nf ne ω w s i j Mc' Mr' φ' κ' sc p hsl hi hj ht hk3 se' h51 h49 hk5 hf1 hf2 h12
  obtain ⟨ρ, σ, lo, nu, ep, en, th, dd, N, a, b, c1, Nf, o, ⟨cr, ⟨f1, f2, f3, f4, f5, f6, f7, f8⟩, ct, cs⟩, dj, ho⟩ := Pc_C p
  have hC := sc.1.2.2.2.2
  have hC' := se'.1.1.2.2.2.2
  have wf := WFr_of sc
  have rp := RP_of sc
  have wf' := WFr_of se'.1
  have hρ : ∀ k, k < w → qF Mc k → ρ k < n := fun k hk hF => by have := (cr.1 k hk hF).1; omega
  have dn : ∀ x, n ≤ x → dd x = false := fun x hx => by
    cases q : dd x with
    | false => rfl
    | true => have := (cr.2.2.2.2.2 x q).1; omega
  have di : dd i = false := by
    cases q : dd i with
    | false => rfl
    | true => have := (cr.2.2.2.2.2 i q).2.1; omega
  have lt' : ∀ i x, n ≤ i → i < n + 1 → fld Mc' i x → x < n := fun i x h1 h2 hf => by
    obtain rfl : i = n := by omega
    exact fld_lt (hC' i (by omega)) hf
  have hτ : ∀ x, x < n → fu τ n tX x = τ x := fun x hx => fu_ne (by omega)
  have key : ∃ ep' : Nat → Nat, (∀ k, ep k = 1 → ep' k = 1) ∧ (∀ k, k < w → qF Mc k → ep' k = 1 → ep k = 1 ∨ gok Mc (gF Mc k)) ∧ (∀ k, k < w → qF Mc k → ep k ≤ ep' k ∧ ep' k ≤ 1) ∧ sm (crA Mc nu ep' th) w ≤ sm (crA Mc nu ep th) w + (if o = 0 then 3 else 1) ∧ ∀ k, tpF Mc w k → ep' k = 1 ∧ nu k = 1 ∧ (rF Mc k : Int) < lenC Mc (lF Mc k) := by
    have one : ∀ k, k < w → qF Mc k → (∀ j, k < j → j < w → ¬ qF Mc j) → o ≠ 0 → nu k = 1 → (rF Mc k : Int) < lenC Mc (lF Mc k) → (ep k = 1 ∨ gok Mc (gF Mc k)) → ∃ ep' : Nat → Nat, (∀ k, ep k = 1 → ep' k = 1) ∧ (∀ k, k < w → qF Mc k → ep' k = 1 → ep k = 1 ∨ gok Mc (gF Mc k)) ∧ (∀ k, k < w → qF Mc k → ep k ≤ ep' k ∧ ep' k ≤ 1) ∧ sm (crA Mc nu ep' th) w ≤ sm (crA Mc nu ep th) w + (if o = 0 then 3 else 1) ∧ ∀ k, tpF Mc w k → ep' k = 1 ∧ nu k = 1 ∧ (rF Mc k : Int) < lenC Mc (lF Mc k) := fun k k1 k2 k3 k4 k5 k6 k7 => by
      refine ⟨fu ep k 1, fun x hx => ?_, fun x x1 x2 x3 => ?_, fun x x1 x2 => ?_, ?_, fun x ⟨x1, x2, x3⟩ => ?_⟩
      · by_cases e : x = k
        · subst e; exact fu_eq
        · rw [fu_ne e]; exact hx
      · by_cases e : x = k
        · subst e; exact k7
        · rw [fu_ne e] at x3; exact Or.inl x3
      · have := f1 x x1 x2
        by_cases e : x = k
        · subst e; rw [fu_eq]; omega
        · rw [fu_ne e]; omega
      · have := cr_one (nu := nu) (nu' := nu) (ep := ep) (ep' := fu ep k 1) (th := th) (th' := th) k1 k2 (fun j hj => ⟨rfl, fu_ne hj, rfl⟩)
        rw [fu_eq] at this
        rw [if_neg k4]
        omega
      · obtain rfl : x = k := by
          by_cases e : x < k
          · exact absurd k2 (x3 k e k1)
          · by_cases e2 : k < x
            · exact absurd x2 (k3 x e2 x1)
            · omega
        exact ⟨fu_eq, k5, k6⟩
    rcases ho with ⟨rfl, _, h3⟩ | ⟨rfl, _, _, k, k1, k2, k3, k4, k5, k6, k7, k8, k9⟩ | ⟨rfl, _, k, k1, k2, k3, k4, k5, k6, k7⟩
    · exact ⟨ep, fun _ q => q, fun _ _ _ q => Or.inl q, fun k a b => ⟨Nat.le_refl _, (f1 k a b).2.1⟩, by rw [if_pos rfl]; omega, h3⟩
    · exact one k (by omega) k2 (fun j h1 h2 h3 => by
        obtain rfl : j = k + 1 := by omega
        unfold qF at h3
        omega) (by decide) k4 k6 (Or.inr (Or.inl (by rw [k7]; exact hk3)))
    · refine one k (by omega) k2 (fun j h1 h2 => by omega) (by decide) k3 k4 ?_
      rcases k5 with q | ⟨_, q, _⟩
      · exact Or.inl q
      · by_cases z : gok Mc (gF Mc k)
        · exact Or.inr z
        · exact absurd hk3 (q z).1
  obtain ⟨ep', e1, e2, e3, e4, e5⟩ := key
  have nk : ¬ Mc' 49 (5 * n) = 2 := by omega
  have gg : Gst Mc' (fu τ n tX) ω (n + 1) (m + 1) w s 0 0 (fun x => Mc' 47 12 = (x : Int)) ρ σ lo nu ep' en th dd N a b c1 Nf := by
    refine ⟨CR_t1 hC wf rp cr (by omega) h51 h49 (fun S h1 h2 h3 h4 => ⟨fun i' x q1 q2 hf => ?_, fun x hx => ?_, fun k' x q1 q2 => by omega⟩) (fun _ _ => rfl) (fun x hx hd => by rw [dn x hx] at hd; cases hd) (fun x hx => by
      rcases hx with rfl | rfl
      · exact di
      · exact dj) lt', ⟨?_, ?_, ?_, ?_, ?_, ?_, ?_, ?_⟩, CTr_ep (CTr_t1 wf hρ ct (by omega) h51 h49 hτ (fun _ _ => rfl) (fun x q1 q2 q3 => ?_) (fun q => ?_)) (fun k _ q => e1 k q) (fun k hk hF q => ?_), CS_ep (CS_t1 wf cs h51 h49 (fun q => by rw [Kc_s, Kc_fr h49]; omega)) (fun k _ q => e1 k q) (fun _ _ => rfl) (fun _ _ _ q => Or.inl q)⟩
    · obtain rfl : i' = n := by omega
      rcases hf with ⟨_, q | q⟩ | ⟨q, _⟩ | ⟨q, _⟩
      · exact h2 x (Or.inr (by omega))
      · exact h1 i x hi (h2 i (Or.inl rfl)) (Or.inr (Or.inl ⟨hk3, by rw [← hf2]; exact q⟩))
      · omega
      · omega
    · obtain rfl : x = n := by omega
      exact h4 x (by omega) (by omega)
    · intro k hk hF
      obtain ⟨a1, a2, a3, a4⟩ := FLG_t1 wf f1 h51 h49 k hk hF
      unfold qF at hF
      rw [h51] at hF
      have := e3 k hk hF
      exact ⟨a1, by omega, by omega, a4⟩
    · rw [W2_s, F1_s, Kc_s, W2_fr h49 (fun _ _ => rfl), F1_fr h49, Kc_fr h49, cr_t1 h51, if_neg (by omega), if_neg (by omega), if_neg nk]
      omega
    · rw [Kc_s, Kc_fr h49, sm_t1 h51, sm_t1 h51, if_neg nk]
      omega
    · rw [sm_t1 h51]
      omega
    · rw [rf_t1 h51]
      omega
    · rw [Kc_s, Kc_fr h49, if_neg nk]
      exact f6
    · rw [Kc_s, Kc_fr h49, if_neg nk]
      exact f7
    · refine f8.imp id (fun q i hi hw => ?_)
      by_cases c : i < n
      · unfold wC1 at hw
        rw [h49 _ (by omega), h49 _ (by omega), h49 _ (by omega)] at hw
        exact q i c hw
      · obtain rfl : i = n := by omega
        have := hw.1
        omega
    · obtain rfl : x = n := by omega
      have := q3.1
      omega
    · rw [Kc_s, Kc_fr h49, if_neg nk] at q
      obtain ⟨y, z, y1, z1, y2, y3, y4⟩ := ct.2.2.2.2.2.2 q
      exact ⟨y, z, by omega, by omega, (wF1_x h49 y1).mpr y2, by rw [h49 _ (by omega)]; exact y3, by rw [h49 _ (by omega)]; exact y4⟩
    · unfold qF at hF
      rw [h51] at hF
      have eg : gF Mc' k = gF Mc k := by unfold gF; rw [h51]
      rcases e2 k hk hF q with z | z
      · exact Or.inl z
      · rw [eg]
        exact Or.inr ((gok_x h49 (wf k hk hF).1).mpr z)
  have tp' : ∀ k, tpF Mc' w k → ep' k = 1 ∧ nu k = 1 ∧ (rF Mc' k : Int) < lenC Mc' (lF Mc' k) := fun k hk => by
    have hk0 := tp_t1 h51 hk
    obtain ⟨q1, q2, q3⟩ := e5 k hk0
    have el : lF Mc' k = lF Mc k := by unfold lF; rw [h51]
    have er : rF Mc' k = rF Mc k := by unfold rF; rw [h51]
    rw [el, er, len_x h49 (wf k hk0.1 hk0.2.1).2.1]
    exact ⟨q1, q2, q3⟩
  have s3 : s ≤ 300 := by omega
  refine ⟨fin_of hC' wf' s3 gg (Or.inr (fun k hk => (tp' k hk).2.1)), Or.inl ⟨rfl, ρ, σ, lo, nu, ep', en, th, dd, N, a, b, c1, Nf, gg, tp', fun x hx => ?_⟩⟩
  obtain rfl : x = n := by omega
  exact dn x (by omega)
end STC
