/-! Run: the other side's cells stay under 6000. Calls of primitives. -/
theorem ty_f7 {X B : Ty} (h : PTy 7 (tF X (tF B B))) : False := by
  obtain ⟨a, b, e⟩ := (PTy_k h).2.2.2.2 rfl
  obtain ⟨_, e1⟩ := tF_inj e
  obtain ⟨e2, e3⟩ := tF_inj e1
  rw [e2] at e3
  have := congrArg sz e3
  rw [sz_F] at this
  omega
theorem ty_fC {X Y B : Ty} (h : PTy 6 (tF X (tF Y (tF B B)))) : False := by
  obtain ⟨a, e⟩ := (PTy_k h).2.2.2.1 rfl
  obtain ⟨_, e1⟩ := tF_inj e
  obtain ⟨_, e3⟩ := tF_inj e1
  cases e3
theorem ty_f71 {X Y B : Ty} (h : PTy 7 (tF X (tF Y (tF B B)))) : ∃ a, B = tL a ∧ Y = B := by
  obtain ⟨a, b, e⟩ := (PTy_k h).2.2.2.2 rfl
  obtain ⟨_, e1⟩ := tF_inj e
  obtain ⟨e2, e3⟩ := tF_inj e1
  obtain ⟨e4, e5⟩ := tF_inj e3
  exact ⟨a, e4, by rw [e2, e5]⟩
theorem ty_s0 {k : Nat} {B : Ty} (hk : 2 ≤ k ∧ k < 8 ∧ k ≠ 5) (h : PTy k (tF B B)) : False := by
  obtain ⟨t2, t3, t4, t6, t7⟩ := PTy_k h
  have z : k = 2 ∨ k = 3 ∨ k = 4 ∨ k = 6 ∨ k = 7 := by omega
  rcases z with z | z | z | z | z
  · obtain ⟨e1, e2⟩ := tF_inj (t2 z)
    rw [e1] at e2; cases e2
  · obtain ⟨e1, e2⟩ := tF_inj (t3 z)
    rw [e1] at e2; cases e2
  · obtain ⟨a, e⟩ := t4 z
    obtain ⟨e1, e2⟩ := tF_inj e
    rw [e1] at e2; cases e2
  · obtain ⟨a, e⟩ := t6 z
    obtain ⟨e1, e2⟩ := tF_inj e
    rw [e1] at e2
    have := congrArg sz e2
    rw [sz_F, sz_L] at this
    omega
  · obtain ⟨a, b, e⟩ := t7 z
    obtain ⟨e1, e2⟩ := tF_inj e
    rw [e1] at e2
    obtain ⟨e3, e4⟩ := tF_inj e2
    obtain ⟨e5, _⟩ := tF_inj e4
    have h1 := congrArg sz e3
    have h2 := congrArg sz e5
    rw [sz_L] at h2
    omega
theorem ty_s1 {k : Nat} {X B : Ty} (hk : k = 4 ∨ k = 7) (h : PTy k (tF X (tF B B))) : False := by
  obtain ⟨t2, t3, t4, t6, t7⟩ := PTy_k h
  rcases hk with z | z
  · obtain ⟨a, e⟩ := t4 z
    obtain ⟨_, e1⟩ := tF_inj e
    obtain ⟨e2, e3⟩ := tF_inj e1
    rw [e2] at e3
    have := congrArg sz e3
    rw [sz_F] at this
    omega
  · subst z
    exact ty_f7 h
section STP
variable {M0 R0 : Mm} {N0 NT : Nat} {G : Nat → UGt} {lim : Nat}
theorem cells_C2 (hl : lim ≤ 300) : CloC2 M0 R0 N0 NT G lim Pc := by
  intro Mc Mr φ τ κ Es n m nf ne ω w s i j Mc' Mr' φ' τ' κ' n' m' sc p hsl hi hj ht hk4 hn72 sv hτ hm htn h51 h49 po
  obtain ⟨ρ, σ, lo, nu, ep, en, th, dd, N, a, b, c1, Nf, o, ⟨cr, ⟨f1, f2, f3, f4, f5, f6, f7, f8⟩, ct, cs⟩, dj, ho⟩ := Pc_C p
  have hC := sc.1.2.2.2.2
  have hC' := sv.1.1.2.2.2.2
  have wf := WFr_of sc
  have rp := RP_of sc
  have wf' := WFr_of sv.1
  obtain ⟨v, hv, hv14, _, hvt⟩ := sv.2.2.2
  have hρ : ∀ k, k < w → qF Mc k → ρ k < n := fun k hk hF => by have := (cr.1 k hk hF).1; omega
  have dn : ∀ x, n ≤ x → dd x = false := fun x hx => by
    cases q : dd x with
    | false => rfl
    | true => have := (cr.2.2.2.2.2 x q).1; omega
  obtain ⟨_, _, kk, hk8, a3, _, a5⟩ := COK_4 (hC i hi) hk4
  have hn' : n' = n ∨ n' = n + 1 := by
    rcases po with ⟨h, _⟩ | ⟨h, _⟩
    · exact Or.inl h
    · exact Or.inr h
  have lt' : ∀ i x, n ≤ i → i < n' → fld Mc' i x → x < n := fun i x h1 h2 hf => by
    have := fld_lt (hC' i (by omega)) hf
    omega
  -- what is new is in reach
  have nw : Nw Mc Mc' n n' w w w (fun x => x = i ∨ x = j) (fun x => x = v) := fun S s1 s2 s3 s4 => by
    have Si := s2 i (Or.inl rfl)
    have Sj := s2 j (Or.inr rfl)
    have Sx : ∀ x : Nat, 1 ≤ Mc 49 (5 * i + 2) → Mc 49 (5 * i + 3) = (x : Int) → S x := fun x q1 q2 => s1 i x hi Si (Or.inr (Or.inr ⟨hk4, Or.inl ⟨q1, q2⟩⟩))
    rcases po with ⟨rfl, b1, b2, u, b3, b4⟩ | ⟨rfl, b1, b2⟩
    · refine ⟨fun i x h1 h2 => by omega, fun x hx => ?_, fun k x h1 h2 => by omega⟩
      obtain rfl : x = u := by omega
      rcases b4 with rfl | b4
      · exact Sj
      · exact s1 i x hi Si b4
    · refine ⟨fun i' x h1 h2 hf => ?_, fun x hx => by rw [hx]; exact s4 v (by omega) (by omega), fun k x h1 h2 => by omega⟩
      obtain rfl : i' = n := by omega
      rcases b2 with ⟨c0, _⟩ | ⟨c0, _, c2⟩ | ⟨c0, _, c1, c2, c3⟩
      · rcases hf with ⟨hf, _⟩ | ⟨hf, _⟩ | ⟨hf, _⟩ <;> omega
      · rcases hf with ⟨hf, _⟩ | ⟨hf, _⟩ | ⟨_, hf⟩
        · omega
        · omega
        · rcases c2 with ⟨d1, d2, d3⟩ | ⟨d0, d1, d2, d3, d4⟩
          · rcases hf with ⟨_, hf⟩ | ⟨hf, _⟩
            · obtain rfl : x = j := by omega
              exact Sj
            · omega
          · rcases hf with ⟨_, hf⟩ | ⟨_, hf⟩
            · exact Sx x (by omega) (by omega)
            · obtain rfl : x = j := by omega
              exact Sj
      · rcases hf with ⟨_, hf⟩ | ⟨hf, _⟩ | ⟨hf, _⟩
        · rcases hf with hf | hf
          · exact Sx x (by omega) (by omega)
          · obtain rfl : x = j := by omega
            exact Sj
        · omega
        · omega
  -- dead cells
  have hfd : ∀ i' x, n ≤ i' → i' < n' → fld Mc' i' x → dd x = false := fun i' x h1 h2 hf => by
    have xn := lt' i' x h1 h2 hf
    have fx : ∀ x : Nat, 1 ≤ Mc 49 (5 * i + 2) → Mc 49 (5 * i + 3) = (x : Int) → dd x = false := fun x q1 q2 => cr.2.2.2.1 i x hi (Or.inr (Or.inr ⟨hk4, Or.inl ⟨q1, q2⟩⟩))
    rcases po with ⟨rfl, _⟩ | ⟨rfl, b1, b2⟩
    · omega
    · obtain rfl : i' = n := by omega
      rcases b2 with ⟨c0, _⟩ | ⟨c0, _, c2⟩ | ⟨c0, _, c1, c2, c3⟩
      · rcases hf with ⟨hf, _⟩ | ⟨hf, _⟩ | ⟨hf, _⟩ <;> omega
      · rcases hf with ⟨hf, _⟩ | ⟨hf, _⟩ | ⟨_, hf⟩
        · omega
        · omega
        · rcases c2 with ⟨d1, d2, d3⟩ | ⟨d0, d1, d2, d3, d4⟩
          · rcases hf with ⟨_, hf⟩ | ⟨hf, _⟩
            · obtain rfl : x = j := by omega
              exact dj
            · omega
          · rcases hf with ⟨_, hf⟩ | ⟨_, hf⟩
            · exact fx x (by omega) (by omega)
            · obtain rfl : x = j := by omega
              exact dj
      · rcases hf with ⟨_, hf⟩ | ⟨hf, _⟩ | ⟨hf, _⟩
        · rcases hf with hf | hf
          · exact fx x (by omega) (by omega)
          · obtain rfl : x = j := by omega
            exact dj
        · omega
        · omega
  have s3 : s ≤ 300 := by omega
  -- all together
  have mk : ∀ (nu' ep' : Nat → Nat) (dd' : Nat → Bool) (a' b' c1' : Nat), (∀ x, x < n → dd' x = dd x) → (∀ x, n ≤ x → dd' x = true → x < n' ∧ Mc' 49 (5 * x) = 4 ∧ Mc' 49 (5 * x + 2) = 2) → 2 * W2c Mc' dd' n' + 2 * F1c Mc' n' + 2 * c1' + a' + Kc Mc' n' + sm (crA Mc nu' ep' th) w + Nf + 1 ≤ s → N + b' ≤ Kc Mc' n' + sm (fF Mc nu') w + sm (fF Mc en) w + Nf → (0 < Kc Mc' n' → c1' = 1 ∧ 1 ≤ b') → (b' ≤ a' ∧ a' ≤ Kc Mc' n') → (c1' = 1 ∨ ∀ i, i < n' → ¬ wC1 Mc' i) → PRV Mc' n' a' → (∀ k, k < w → qF Mc k → nu' k ≤ 1 ∧ ep' k ≤ 1 ∧ en k ≤ ep' k) → (∀ k, k + 1 < w → ep k = 1 → ep' k = 1) → (∀ k, ep' k = 1 → ep k = 1) → (∀ k, k + 1 < w → nu' k = nu k) → (∀ k, k < w → qF Mc k → nu k = 1 → nu' k = 1 ∨ ∃ a, ω k = tL a) →
      (∀ k, tpF Mc w k → (k + 1 = w → nu' k = 1 ∨ (∃ a, ω k = tL a)) ∧ (k + 1 < w → ep' k = 1 ∨ HH Mc' τ' dd' k v)) → (dd' v = false ∨ ∃ k, k + 2 = w ∧ qF Mc k ∧ Mc 51 (5 * (k + 1)) = 2 ∧ ep' k = 0) → Pc 1 Mc' τ' ω n' m' w s 0 0 0 0 := by
    intro nu' ep' dd' a' b' c1' u1 u2 u3 u4 u5 u6 u7 u8 u9 u10 u11 u12 u13 u14 u15
    have gg : Gst Mc' τ' ω n' m' w s 1 0 (fun x => x = v) ρ σ lo nu' ep' en th dd' N a' b' c1' Nf := by
      refine ⟨CR_t2 hC wf rp cr (by omega) h51 h49 nw u1 u2 hfd lt', ⟨?_, ?_, ?_, ?_, ?_, u5, u6, u7⟩, CTr_ep (CTr_t1 wf hρ ct (by omega) h51 h49 hτ u1 (fun x q1 q2 q3 => ?_) u8) u10 (fun k _ _ q => Or.inl (u11 k q)), CS_ep (CS_t1 wf cs h51 h49 (fun q => ?_)) u10 u12 (fun k hk hF q => ?_)⟩
      · intro k hk hF
        obtain ⟨_, _, _, q4⟩ := FLG_t1 wf f1 h51 h49 k hk hF
        unfold qF at hF
        rw [h51] at hF
        obtain ⟨q1, q2, q3⟩ := u9 k hk hF
        exact ⟨q1, q2, q3, q4⟩
      · rw [cr_t1 h51]; exact u3
      · rw [sm_t1 h51, sm_t1 h51]; exact u4
      · rw [sm_t1 h51]; omega
      · rw [rf_t1 h51]; omega
      · rcases po with ⟨rfl, _⟩ | ⟨rfl, b1, b2⟩
        · omega
        · obtain rfl : x = n := by omega
          obtain ⟨w1, w2, w3⟩ := q3
          rcases b2 with ⟨c0, _⟩ | ⟨c0, c1, c2⟩ | ⟨c0, _⟩
          · omega
          · rcases c2 with ⟨d1, d2, d3⟩ | ⟨d0, d1, d2, d3, d4⟩
            · omega
            · exact ⟨i, hi, ⟨hk4, by omega, d1⟩, d3.symm⟩
          · omega
      · have := Kc_mono (M := Mc') (a := n) (b := n') (by omega)
        rw [Kc_fr h49] at this
        omega
      · unfold qF at hF
        rw [h51] at hF
        exact u13 k hk hF q
    refine ⟨fin_of hC' wf' s3 gg (Or.inl (by omega)), Or.inr (Or.inl ⟨rfl, v, hv14, ρ, σ, lo, nu', ep', en, th, dd', N, a', b', c1', Nf, gg, fun k hk => ?_, ?_⟩)⟩
    · obtain ⟨q1, q2⟩ := u14 k (tp_t1 h51 hk)
      exact ⟨fun q => (q1 q).imp id Or.inl, q2⟩
    · refine u15.imp id (fun ⟨k, k1, k2, k3, k4⟩ => ⟨k, k1, ?_, by rw [h51]; exact k3, k4⟩)
      unfold qF at k2 ⊢
      rw [h51]
      exact k2
  have wc : ∀ c1' : Nat, (c1' = 1 ∨ ¬ wC1 Mc' n) → (c1 = 1 → c1' = 1) → c1' = 1 ∨ ∀ i, i < n' → ¬ wC1 Mc' i := fun c1' q1 q2 => by
    rcases q1 with q1 | q1
    · exact Or.inl q1
    · rcases f8 with z | z
      · exact Or.inl (q2 z)
      · refine Or.inr (fun i hi hw => ?_)
        by_cases c : i < n
        · unfold wC1 at hw
          rw [h49 _ (by omega), h49 _ (by omega), h49 _ (by omega)] at hw
          exact z i c hw
        · obtain rfl : i = n := by omega
          exact q1 hw
  have prv : ∀ a', (a' < Kc Mc' n' → a < Kc Mc n) → PRV Mc' n' a' := fun a' q z => by
    obtain ⟨y, z, y1, z1, y2, y3, y4⟩ := ct.2.2.2.2.2.2 (q z)
    exact ⟨y, z, by omega, by omega, (wF1_x h49 y1).mpr y2, by rw [h49 _ (by omega)]; exact y3, by rw [h49 _ (by omega)]; exact y4⟩
  have fl : ∀ k, k < w → qF Mc k → nu k ≤ 1 ∧ ep k ≤ 1 ∧ en k ≤ ep k := fun k hk hF => ⟨(f1 k hk hF).1, (f1 k hk hF).2.1, (f1 k hk hF).2.2.1⟩
  have vd : n' = n → dd v = false := fun q => by
    rcases po with ⟨_, b1, b2, u, b3, b4⟩ | ⟨h, _⟩
    · obtain rfl : v = u := by omega
      rcases b4 with rfl | b4
      · exact dj
      · exact cr.2.2.2.1 i v hi b4
    · omega
  have W0 : W2c Mc' dd n = W2c Mc dd n := W2_fr h49 (fun _ _ => rfl)
  have F0 : F1c Mc' n = F1c Mc n := F1_fr h49
  have K0 : Kc Mc' n = Kc Mc n := Kc_fr h49
  rcases ho with ⟨rfl, di, h3⟩ | ⟨rfl, di, hK, k, k1, k2, k3, k4, k5, k6, k7, k8, k9⟩ | ⟨rfl, hK, k, k1, k2, k3, k4, k5, k6, k7⟩
  · -- an application
    rw [if_pos rfl] at f2
    have sh : ∀ dd' : Nat → Bool, ∀ k, tpF Mc w k → (k + 1 = w → nu k = 1 ∨ (∃ a, ω k = tL a)) ∧ (k + 1 < w → ep k = 1 ∨ HH Mc' τ' dd' k v) := fun dd' k hk => by
      obtain ⟨q1, q2, _⟩ := h3 k hk
      exact ⟨fun _ => Or.inl q2, fun _ => Or.inl q1⟩
    rcases po with ⟨rfl, b1, b2, u, b3, b4⟩ | ⟨rfl, b1, b2⟩
    · exact mk nu ep dd a b c1 (fun _ _ => rfl) (fun x q1 q2 => by rw [dn x q1] at q2; cases q2) (by rw [W0, F0, K0]; omega) (by rw [K0]; exact f3) (by rw [K0]; exact f6) (by rw [K0]; exact f7) (f8.imp id (fun z i hi hw => by
        unfold wC1 at hw
        rw [h49 _ (by omega), h49 _ (by omega), h49 _ (by omega)] at hw
        exact z i hi hw)) (prv a (fun q => by rw [K0] at q; exact q)) fl (fun _ _ q => q) (fun _ q => q) (fun _ _ => rfl) (fun _ _ _ q => Or.inl q) (sh dd) (Or.inl (vd rfl))
    · obtain rfl : v = n := by omega
      have dv := dn v (by omega)
      have u2 : ∀ x, v ≤ x → dd x = true → x < v + 1 ∧ Mc' 49 (5 * x) = 4 ∧ Mc' 49 (5 * x + 2) = 2 := fun x q1 q2 => by rw [dn x q1] at q2; cases q2
      rcases b2 with ⟨c0, _⟩ | ⟨c0, c1e, c2⟩ | ⟨c0, d6, d1, _⟩
      · have Ke : Kc Mc' (v + 1) = Kc Mc v := by rw [Kc_s, K0, if_neg (by omega)]; rfl
        exact mk nu ep dd a b c1 (fun _ _ => rfl) u2 (by rw [W2_s, F1_s, Ke, W0, F0, if_neg (by omega), if_neg (by omega)]; omega) (by rw [Ke]; exact f3) (by rw [Ke]; exact f6) (by rw [Ke]; exact f7) (wc c1 (Or.inr (fun q => by have := q.1; omega)) id) (prv a (fun q => by rw [Ke] at q; exact q)) fl (fun _ _ q => q) (fun _ q => q) (fun _ _ => rfl) (fun _ _ _ q => Or.inl q) (sh dd) (Or.inl dv)
      · have Ke : Kc Mc' (v + 1) = Kc Mc v := by rw [Kc_s, K0, if_neg (by omega)]; rfl
        rcases c2 with ⟨d1, d2, d3⟩ | ⟨d0, d1, d2, d3, d4⟩
        · by_cases k6 : Mc 49 (5 * i + 1) = 6
          · exact mk nu ep dd a b 1 (fun _ _ => rfl) u2 (by rw [W2_s, F1_s, Ke, W0, F0, if_neg (by omega), if_neg (by omega)]; omega) (by rw [Ke]; exact f3) (by rw [Ke]; exact fun q => ⟨rfl, (f6 q).2⟩) (by rw [Ke]; exact f7) (Or.inl rfl) (prv a (fun q => by rw [Ke] at q; exact q)) fl (fun _ _ q => q) (fun _ q => q) (fun _ _ => rfl) (fun _ _ _ q => Or.inl q) (sh dd) (Or.inl dv)
          · have F1e : F1c Mc' (v + 1) ≤ F1c Mc v + 1 := by
              rw [F1_s, F0]
              split <;> omega
            exact mk nu ep dd a b c1 (fun _ _ => rfl) u2 (by rw [W2_s, Ke, W0, if_neg (by omega)]; omega) (by rw [Ke]; exact f3) (by rw [Ke]; exact f6) (by rw [Ke]; exact f7) (wc c1 (Or.inr (fun q => by have := q.2.1; omega)) id) (prv a (fun q => by rw [Ke] at q; exact q)) fl (fun _ _ q => q) (fun _ q => q) (fun _ _ => rfl) (fun _ _ _ q => Or.inl q) (sh dd) (Or.inl dv)
        · have W2e : W2c Mc' dd (v + 1) ≤ W2c Mc dd v + 1 := by
            rw [W2_s, W0]
            split <;> omega
          exact mk nu ep dd a b c1 (fun _ _ => rfl) u2 (by rw [F1_s, Ke, F0, if_neg (by omega)]; omega) (by rw [Ke]; exact f3) (by rw [Ke]; exact f6) (by rw [Ke]; exact f7) (wc c1 (Or.inr (fun q => by have := q.2.2; omega)) id) (prv a (fun q => by rw [Ke] at q; exact q)) fl (fun _ _ q => q) (fun _ q => q) (fun _ _ => rfl) (fun _ _ _ q => Or.inl q) (sh dd) (Or.inl dv)
      · have Ke : Kc Mc' (v + 1) = Kc Mc v + 1 := by rw [Kc_s, K0, if_pos c0]
        have c11 : c1 = 1 := by
          rcases f8 with z | z
          · exact z
          · exact absurd ⟨hk4, d6, d1⟩ (z i hi)
        exact mk nu ep dd (a + 1) (b + 1) c1 (fun _ _ => rfl) u2 (by rw [W2_s, F1_s, Ke, W0, F0, if_neg (by omega), if_neg (by omega)]; omega) (by rw [Ke]; omega) (by rw [Ke]; exact fun _ => ⟨c11, by omega⟩) (by rw [Ke]; omega) (Or.inl c11) (prv (a + 1) (fun q => by rw [Ke] at q; omega)) fl (fun _ _ q => q) (fun _ q => q) (fun _ _ => rfl) (fun _ _ _ q => Or.inl q) (sh dd) (Or.inl dv)
  · -- a fold's first call
    rw [if_neg (by decide)] at f2
    have eg : gF Mc' k = i := by rw [← k7]; unfold gF; rw [h51]
    have wk := wf k (by omega) k2
    have el : τ' (lF Mc' k) = tL (τ j) := by
      have : lF Mc' k = lF Mc k := by unfold lF; rw [h51]
      rw [this, hτ _ wk.2.1, k8]
    have hω : ω w = tF (ω k) (ω k) := (tF_inj (ht.symm.trans k9)).2
    have i49 : ∀ d, d < 5 → Mc' 49 (5 * i + d) = Mc 49 (5 * i + d) := fun d hd => h49 _ (by omega)
    have i3 : Mc' 49 (5 * i) ≠ 3 := by rw [h49 _ (by omega)]; omega
    have sh : ∀ dd' : Nat → Bool, HH Mc' τ' dd' k v → ∀ k', tpF Mc w k' → (k' + 1 = w → nu k' = 1 ∨ (∃ a, ω k' = tL a)) ∧ (k' + 1 < w → ep k' = 1 ∨ HH Mc' τ' dd' k' v) := fun dd' q k' ⟨q1, q2, q3⟩ => by
      obtain rfl : k' = k := by
        by_cases e : k' < k
        · exact absurd k2 (q3 k e (by omega))
        · by_cases e2 : k' = k + 1
          · subst e2
            unfold qF at q2
            omega
          · omega
      exact ⟨fun _ => by omega, fun _ => Or.inr q⟩
    have hsec : ∀ dd' : Nat → Bool, dd' v = false ∨ ∃ k, k + 2 = w ∧ qF Mc k ∧ Mc 51 (5 * (k + 1)) = 2 ∧ ep k = 0 := fun _ => Or.inr ⟨k, k1, k2, k3, k5⟩
    obtain ⟨hc1, hb1⟩ := f6 hK
    rcases po with ⟨rfl, b1, b2, u, b3, b4⟩ | ⟨rfl, b1, b2⟩
    · have hhv : HH Mc' τ' dd k v := by
        refine ⟨fun bb _ y2 => ?_, fun y1 => ?_, fun y1 => ?_, by rw [eg]; exact i3⟩
        · rw [hvt, el] at y2
          rcases a5 with ⟨z, _⟩ | ⟨x, _, z, _⟩ | ⟨x, y, _, _, _, _, _, _, _, _, _, z⟩
          · omega
          · omega
          · obtain rfl : kk = 4 := by omega
            obtain ⟨aa, e⟩ := (PTy_k z).2.2.1 rfl
            obtain ⟨_, e1⟩ := tF_inj e
            obtain ⟨_, e2⟩ := tF_inj e1
            rw [e2] at ht
            obtain ⟨e3, e4⟩ := tF_inj ht
            rw [← e4, ← e3] at y2
            have := congrArg sz y2
            rw [sz_F, sz_L] at this
            omega
        · rw [eg] at y1
          exact absurd (Or.inr (Or.inl ⟨by rw [h49 _ (by omega)]; exact hk4, by rw [h49 _ (by omega)]; exact b1, by rw [h49 _ (by omega)]; exact b2⟩)) y1
        · rw [vd rfl] at y1
          cases y1
      exact mk nu ep dd a b c1 (fun _ _ => rfl) (fun x q1 q2 => by rw [dn x q1] at q2; cases q2) (by rw [W0, F0, K0]; omega) (by rw [K0]; exact f3) (by rw [K0]; exact f6) (by rw [K0]; exact f7) (Or.inl hc1) (prv a (fun q => by rw [K0] at q; exact q)) fl (fun _ _ q => q) (fun _ q => q) (fun _ _ => rfl) (fun _ _ _ q => Or.inl q) (sh dd hhv) (hsec dd)
    · obtain rfl : v = n := by omega
      have dv := dn v (by omega)
      have u2 : ∀ x, v ≤ x → dd x = true → x < v + 1 ∧ Mc' 49 (5 * x) = 4 ∧ Mc' 49 (5 * x + 2) = 2 := fun x q1 q2 => by rw [dn x q1] at q2; cases q2
      rcases b2 with ⟨c0, _⟩ | ⟨c0, c1e, c2⟩ | ⟨c0, d6, d1, _⟩
      · have Ke : Kc Mc' (v + 1) = Kc Mc v := by rw [Kc_s, K0, if_neg (by omega)]; rfl
        have hhv : HH Mc' τ' dd k v := ⟨fun bb y1 _ => by have := y1.1; omega, fun _ => ⟨by omega, fun y1 => by have := y1.1; omega⟩, fun y1 => absurd (dv.symm.trans y1) Bool.false_ne_true, by rw [eg]; exact i3⟩
        exact mk nu ep dd a b c1 (fun _ _ => rfl) u2 (by rw [W2_s, F1_s, Ke, W0, F0, if_neg (by omega), if_neg (by omega)]; omega) (by rw [Ke]; exact f3) (by rw [Ke]; exact f6) (by rw [Ke]; exact f7) (Or.inl hc1) (prv a (fun q => by rw [Ke] at q; exact q)) fl (fun _ _ q => q) (fun _ q => q) (fun _ _ => rfl) (fun _ _ _ q => Or.inl q) (sh dd hhv) (hsec dd)
      · have Ke : Kc Mc' (v + 1) = Kc Mc v := by rw [Kc_s, K0, if_neg (by omega)]; rfl
        rcases c2 with ⟨d1, d2, d3⟩ | ⟨d0, d1, d2, d3, d4⟩
        · have n7 : Mc 49 (5 * i + 1) ≠ 7 := fun q => by
            rcases a5 with ⟨_, _, z⟩ | ⟨x, _, z, _⟩ | ⟨x, y, _, _, _, z, _⟩
            · obtain rfl : kk = 7 := by omega
              rw [k9] at z
              exact ty_f7 z
            · omega
            · omega
          have hhv : HH Mc' τ' dd k v := ⟨fun bb y1 _ => by have := y1.2.2; omega, fun _ => ⟨by omega, fun y1 => by have := y1.2.2; omega⟩, fun y1 => absurd (dv.symm.trans y1) Bool.false_ne_true, by rw [eg]; exact i3⟩
          exact mk nu ep dd a b c1 (fun _ _ => rfl) u2 (by rw [W2_s, F1_s, Ke, W0, F0, if_neg (by omega), if_neg (by omega)]; omega) (by rw [Ke]; exact f3) (by rw [Ke]; exact f6) (by rw [Ke]; exact f7) (Or.inl hc1) (prv a (fun q => by rw [Ke] at q; exact q)) fl (fun _ _ q => q) (fun _ q => q) (fun _ _ => rfl) (fun _ _ _ q => Or.inl q) (sh dd hhv) (hsec dd)
        · have dd1 : ∀ x, x < v → (fun x => dd x || (x == v)) x = dd x := fun x hx => by
            show (dd x || (x == v)) = dd x
            rw [show (x == v) = false from decide_eq_false (by omega), Bool.or_false]
          have ddv : (fun x => dd x || (x == v)) v = true := by
            show (dd v || (v == v)) = true
            rw [beq_self_eq_true, Bool.or_true]
          have u2' : ∀ x, v ≤ x → (fun x => dd x || (x == v)) x = true → x < v + 1 ∧ Mc' 49 (5 * x) = 4 ∧ Mc' 49 (5 * x + 2) = 2 := fun x q1 q2 => by
            rcases Bool.or_eq_true_iff.mp q2 with q2 | q2
            · rw [dn x q1] at q2; cases q2
            · obtain rfl : x = v := of_decide_eq_true q2
              exact ⟨by omega, c0, d2⟩
          have hhv : HH Mc' τ' (fun x => dd x || (x == v)) k v := by
            refine ⟨fun bb y1 y2 => ?_, fun y1 => ?_, fun _ => ?_, by rw [eg]; exact i3⟩
            · rw [hvt, el, hω] at y2
              have k77 : Mc 49 (5 * i + 1) = 7 := by have := y1.2.1; omega
              rcases a5 with ⟨z, _⟩ | ⟨x, _, _, _, _, _, z⟩ | ⟨x, y, _, _, _, z, _⟩
              · omega
              · obtain rfl : kk = 7 := by omega
                rw [k9] at z
                obtain ⟨aa, e1, e2⟩ := ty_f71 z
                obtain ⟨e3, _⟩ := tF_inj y2
                rw [e2] at e3
                exact False.elim (tL_ne e3)
              · omega
            · rw [eg] at y1
              refine ⟨by omega, fun y2 => ?_⟩
              have k77 : Mc 49 (5 * i + 1) = 7 := by have := y2.2.1; omega
              exact y1 (Or.inr (Or.inr (Or.inr ⟨by rw [h49 _ (by omega)]; exact hk4, by rw [h49 _ (by omega)]; exact k77, by rw [h49 _ (by omega)]; exact d1⟩)))
            · rcases d0 with d0 | d0
              · exact Or.inr ⟨c0, by omega, d2⟩
              · rw [eg]
                exact Or.inl ⟨⟨by rw [h49 _ (by omega)]; exact hk4, by rw [h49 _ (by omega)]; exact d0, by rw [h49 _ (by omega)]; exact d1⟩, c0, by omega, d2⟩
          have We : W2c Mc' (fun x => dd x || (x == v)) (v + 1) = W2c Mc dd v := by
            rw [W2_s, W2_fr h49 dd1, if_neg (fun q => Bool.false_ne_true (q.2.2.symm.trans ddv))]
            rfl
          exact mk nu ep (fun x => dd x || (x == v)) a b c1 dd1 u2' (by rw [We, F1_s, Ke, F0, if_neg (by omega)]; omega) (by rw [Ke]; exact f3) (by rw [Ke]; exact f6) (by rw [Ke]; exact f7) (Or.inl hc1) (prv a (fun q => by rw [Ke] at q; exact q)) fl (fun _ _ q => q) (fun _ q => q) (fun _ _ => rfl) (fun _ _ _ q => Or.inl q) (sh _ hhv) (hsec (fun x => dd x || (x == v)))
      · exfalso
        rcases a5 with ⟨z, _⟩ | ⟨x, _, _, _, _, _, z⟩ | ⟨x, y, _, _, _, z, _⟩
        · omega
        · obtain rfl : kk = 6 := by omega
          rw [k9] at z
          exact ty_fC z
        · omega
  · -- a fold's second call
    rw [if_neg (by decide)] at f2
    obtain ⟨e1, e2⟩ := tF_inj (ht.symm.trans k7)
    have wk := wf k (by omega) k2
    have tpk : ∀ k', tpF Mc w k' → k' = k := fun k' ⟨q1, q2, q3⟩ => by
      by_cases e : k' < k
      · exact absurd k2 (q3 k e (by omega))
      · omega
    have sh : ∀ (nu' : Nat → Nat) (ep' : Nat → Nat) (dd' : Nat → Bool), (nu' k = 1 ∨ ∃ a, ω k = tL a) → ∀ k', tpF Mc w k' → (k' + 1 = w → nu' k' = 1 ∨ (∃ a, ω k' = tL a)) ∧ (k' + 1 < w → ep' k' = 1 ∨ HH Mc' τ' dd' k' v) := fun nu' ep' dd' q k' hk => by
      have := tpk k' hk
      subst this
      exact ⟨fun _ => q, fun _ => by omega⟩
    obtain ⟨hc1, hb1⟩ := f6 hK
    rcases po with ⟨rfl, b1, b2, u, b3, b4⟩ | ⟨rfl, b1, b2⟩
    · exact mk nu ep dd a b c1 (fun _ _ => rfl) (fun x q1 q2 => by rw [dn x q1] at q2; cases q2) (by rw [W0, F0, K0]; omega) (by rw [K0]; exact f3) (by rw [K0]; exact f6) (by rw [K0]; exact f7) (Or.inl hc1) (prv a (fun q => by rw [K0] at q; exact q)) fl (fun _ _ q => q) (fun _ q => q) (fun _ _ => rfl) (fun _ _ _ q => Or.inl q) (sh nu ep dd (Or.inl k3)) (Or.inl (vd rfl))
    · obtain rfl : v = n := by omega
      have dv := dn v (by omega)
      have u2 : ∀ x, v ≤ x → dd x = true → x < v + 1 ∧ Mc' 49 (5 * x) = 4 ∧ Mc' 49 (5 * x + 2) = 2 := fun x q1 q2 => by rw [dn x q1] at q2; cases q2
      rcases b2 with ⟨c0, _⟩ | ⟨c0, c1e, c2⟩ | ⟨c0, d6, d1, _⟩
      · have Ke : Kc Mc' (v + 1) = Kc Mc v := by rw [Kc_s, K0, if_neg (by omega)]; rfl
        exact mk nu ep dd a b c1 (fun _ _ => rfl) u2 (by rw [W2_s, F1_s, Ke, W0, F0, if_neg (by omega), if_neg (by omega)]; omega) (by rw [Ke]; exact f3) (by rw [Ke]; exact f6) (by rw [Ke]; exact f7) (Or.inl hc1) (prv a (fun q => by rw [Ke] at q; exact q)) fl (fun _ _ q => q) (fun _ q => q) (fun _ _ => rfl) (fun _ _ _ q => Or.inl q) (sh nu ep dd (Or.inl k3)) (Or.inl dv)
      · exfalso
        rcases c2 with ⟨d1, d2, d3⟩ | ⟨d0, d1, d2, d3, d4⟩
        · rcases a5 with ⟨_, _, z⟩ | ⟨x, _, z, _⟩ | ⟨x, y, _, _, _, z, _⟩
          · rw [k7] at z
            exact ty_s0 hk8 z
          · omega
          · omega
        · rcases a5 with ⟨z, _⟩ | ⟨x, _, _, _, _, _, z⟩ | ⟨x, y, _, _, _, z, _⟩
          · omega
          · rw [k7] at z
            exact ty_s1 (by omega) z
          · omega
      · have Ke : Kc Mc' (v + 1) = Kc Mc v + 1 := by rw [Kc_s, K0, if_pos c0]
        have hL : ∃ a, ω k = tL a := by
          obtain ⟨_, _, x, t, _, _, _, _, _, _, tt, _⟩ := COK_2 (hC' v (by omega)) c0
          exact ⟨_, by rw [← e2, ← hvt]; exact tt⟩
        have fk := f1 k (by omega) k2
        have cF := ff_one (M := Mc) (f := nu) (f' := fu nu k 0) (show k < w by omega) k2 (fun j hj => fu_ne hj)
        rw [fu_eq, k3] at cF
        have nu2 : ∀ k', k' + 1 < w → fu nu k 0 k' = nu k' := fun k' q => fu_ne (by omega)
        have nu3 : ∀ k', k' < w → qF Mc k' → nu k' = 1 → fu nu k 0 k' = 1 ∨ ∃ a, ω k' = tL a := fun k' _ _ q => by
          by_cases e : k' = k
          · subst e; exact Or.inr hL
          · exact Or.inl (by rw [fu_ne e]; exact q)
        by_cases pB : ep k = 1 ∧ en k = 0
        · -- something else happened too
          have cc := cr_one (M := Mc) (nu := nu) (nu' := fu nu k 0) (ep := ep) (ep' := fu ep k 0) (th := th) (th' := th) (show k < w by omega) k2 (fun j hj => ⟨fu_ne hj, fu_ne hj, rfl⟩)
          rw [fu_eq, fu_eq, k3, pB.1] at cc
          refine mk (fu nu k 0) (fu ep k 0) dd (a + 1) b c1 (fun _ _ => rfl) u2 (by rw [W2_s, F1_s, Ke, W0, F0, if_neg (by omega), if_neg (by omega)]; omega) (by rw [Ke]; omega) (by rw [Ke]; exact fun _ => ⟨hc1, hb1⟩) (by rw [Ke]; omega) (Or.inl hc1) (prv (a + 1) (fun q => by rw [Ke] at q; omega)) (fun k' q1 q2 => ?_) (fun k' q1 q2 => by rw [fu_ne (by omega)]; exact q2) (fun k' q => ?_) nu2 nu3 (sh _ _ dd (Or.inr hL)) (Or.inl dv)
          · by_cases e : k' = k
            · subst e; rw [fu_eq, fu_eq]; omega
            · rw [fu_ne e, fu_ne e]; exact fl k' q1 q2
          · by_cases e : k' = k
            · subst e; rw [fu_eq] at q; omega
            · rw [fu_ne e] at q; exact q
        · have cc := cr_one (M := Mc) (nu := nu) (nu' := fu nu k 0) (ep := ep) (ep' := ep) (th := th) (th' := th) (show k < w by omega) k2 (fun j hj => ⟨fu_ne hj, rfl, rfl⟩)
          rw [fu_eq, k3] at cc
          have g3 : Mc 49 (5 * gF Mc k) ≠ 3 := by
            rcases k5 with q | q
            · exact fk.2.2.2 (by omega)
            · exact q.2.2.2
          refine mk (fu nu k 0) ep dd a b c1 (fun _ _ => rfl) u2 (by rw [W2_s, F1_s, Ke, W0, F0, if_neg (by omega), if_neg (by omega)]; omega) (by rw [Ke]; omega) (by rw [Ke]; exact fun _ => ⟨hc1, hb1⟩) (by rw [Ke]; omega) (Or.inl hc1) (fun _ => ?_) (fun k' q1 q2 => ?_) (fun _ _ q => q) (fun _ q => q) nu2 nu3 (sh _ _ dd (Or.inr hL)) (Or.inl dv)
          · have hr := cr.2.2.1 k (by omega) k2
            obtain ⟨y, y1, y2, y3⟩ := ct.2.2.2.2.2.1 (ρ k) (hρ k (by omega) k2) ⟨hr.1, hr.2.1, hr.2.2.1⟩
            rw [hr.2.2.2, wk.2.2.1] at y3
            exact ⟨y, gF Mc k, by omega, by have := wk.1; omega, (wF1_x h49 y1).mpr y2, by rw [h49 _ (by omega)]; exact y3, by rw [h49 _ (by have := wk.1; omega)]; exact g3⟩
          · have := fl k' q1 q2
            by_cases e : k' = k
            · subst e; rw [fu_eq]; omega
            · rw [fu_ne e]; exact this
end STP
