/-! Run: the other side's cells stay under 6000. A fold ends, a fold goes on. -/
section STN
variable {M0 R0 : Mm} {N0 NT : Nat} {G : Nat → UGt} {lim : Nat}
theorem cells_F0 : CloF0 M0 R0 N0 NT G lim Pc := by
  intro Mc Mr φ τ κ Es n m nf ne ω w s g z l Mc' Mr' fo p sv h51 h49 h14
  have iv := Pc_F p
  have row := pw_row (M := Mc) (n := w) (x1 := 3) (x2 := (g : Int)) (x3 := (l : Int)) (x4 := ((0 : Nat) : Int)) (x5 := Mc 51 (5 * w + 4))
  have r : RwS (pw Mc w 3 (g : Int) (l : Int) ((0 : Nat) : Int) (Mc 51 (5 * w + 4))) Mc' w := ⟨by rw [pw_cell (by decide) (by decide), h49], fun j hj => by rw [pw_old hj, h51]⟩
  obtain ⟨bas, _⟩ := Bas_fr (Mc' := pw Mc w 3 (g : Int) (l : Int) ((0 : Nat) : Int) (Mc 51 (5 * w + 4))) (Mr' := Mr) (fun a h1 h2 => pw_cell h1 h2) (pw_47 (by decide)) (fun _ _ _ => rfl) (fun _ _ => rfl) fo.1.1
  have hC := bas.2.2.2.2
  generalize hM : pw Mc w 3 (g : Int) (l : Int) ((0 : Nat) : Int) (Mc 51 (5 * w + 4)) = M at *
  obtain ⟨ρ, σ, lo, nu, ep, en, th, dd, N, a, b, c1, Nf, ⟨cr, ⟨f1, f2, f3, f4, f5, f6, f7, f8⟩, ct, cs⟩, sh, hd⟩ := iv
  have qw : qF M w := row.1
  have r0 : rF M w = 0 := by unfold rF; rw [row.2.2.2.1, Int.toNat_natCast]
  have tw : tpF M (w + 1) w := ⟨by omega, qw, fun j h1 h2 => by omega⟩
  have dz : dd z = false := by
    rcases hd with hd | ⟨k, k1, k2, k3, k4⟩
    · exact hd
    · obtain rfl : k + 1 = w := by omega
      omega
  have fw := f1 w (by omega) qw
  have cw : crA M nu ep th w = nu w + ep w + th w := by
    unfold crA
    rw [if_neg (by omega), if_neg (by omega), if_pos row.1]
  have cr' : CR Mc' n w (fun x => x = z) ρ σ lo dd := CR_g hC cr r (by omega) (Nat.le_refl _) (fun k h1 h2 => by omega) (fun S _ q _ => ⟨q, fun k' x a b => by omega⟩) (fun k x h1 h2 => by omega)
  have ct' : CTr Mc' τ n w ρ ep th dd a := CTr_g ct r (by omega) (fun k h1 h2 => by omega)
  have cs' : CS Mc' ω n w ρ nu ep := by
    obtain ⟨s1, s2, s3⟩ := cs
    refine ⟨fun k hk h2 => ?_, fun k hF hk => ?_, fun k hk hF => ?_⟩
    · rw [r.2 _ (by omega)] at h2
      obtain ⟨q1, q2, q3, q4⟩ := s1 k (by omega) h2
      exact ⟨q1, (rw_q r (by omega)).mpr q2, q3, by rw [rw_K r]; exact q4⟩
    · have k0 : k < w := by omega
      obtain ⟨q1, q2, q3⟩ := s2 k ((rw_q r k0).mp hF) (by omega)
      rw [rw_r r k0, rw_l r k0, rw_len r, rw_g r k0]
      refine ⟨q1, q2, ?_⟩
      rcases q3 with q | q | ⟨q, q4⟩
      · exact Or.inl q
      · exact Or.inr (Or.inl ((rw_q r (by omega)).mpr q))
      · refine Or.inr (Or.inr ⟨by rw [r.2 _ (by omega)]; exact q, ?_⟩)
        rcases q4 with q4 | ⟨q5, q6, q7⟩
        · omega
        · by_cases e : k + 2 = w
          · exact Or.inl e.symm
          · exact Or.inr ⟨(rw_q r (by omega)).mpr q5, q6, q7⟩
    · rw [rw_r r hk, rw_l r hk, rw_len r]
      exact s3 k (by omega) ((rw_q r hk).mp hF)
  have f1' : FLG Mc' w nu ep en := FLG_g f1 r (by omega) (fun k h1 h2 => by omega)
  have f8' : c1 = 1 ∨ ∀ i, i < n → ¬ wC1 Mc' i := f8.imp id (fun q i hi hw => by
    unfold wC1 at hw
    rw [r.1] at hw
    exact q i hi hw)
  have sF : ∀ f : Nat → Nat, sm (fF M f) (w + 1) = sm (fF Mc' f) w + f w := fun f => by
    rw [sm_s, rw_sm r]
    have : fF M f w = f w := if_pos qw
    rw [this]
  have sR : sm (fF M (rF M)) (w + 1) = sm (fF Mc' (rF Mc')) w := by
    rw [sm_s, rw_rf r]
    have : fF M (rF M) w = rF M w := if_pos qw
    rw [this, r0]
    rfl
  have sC : sm (crA M nu ep th) (w + 1) = sm (crA Mc' nu ep th) w + (nu w + ep w + th w) := by
    rw [sm_s, rw_cr r, cw]
  rw [sC] at f2
  rw [sF, sF] at f3
  rw [sF] at f4
  rw [sR] at f5
  -- the fold under it
  have tpd : ∀ k, tpF Mc' w k → nu k = 1 ∧ (k + 1 < w → ep k = 1 ∨ (k + 2 = w ∧ ρ w = gF M k ∧ ∃ x y, ω w = tF x y)) := fun k ⟨q1, q2, q3⟩ => by
    have q2' := (rw_q r q1).mp q2
    obtain ⟨u1, u2, u3⟩ := cs.2.1 k q2' (by omega)
    refine ⟨u1, fun hk => ?_⟩
    rcases u3 with q | q | ⟨q, q4⟩
    · exact Or.inl q
    · exact absurd ((rw_q r hk).mpr q) (q3 (k + 1) (by omega) hk)
    · rcases q4 with q4 | ⟨q5, q6, q7⟩
      · omega
      · by_cases e : k + 2 = w
        · rw [e] at q6 q7
          exact Or.inr ⟨e, q6, q7⟩
        · exact absurd ((rw_q r (by omega)).mpr q5) (q3 (k + 2) (by omega) (by omega))
  have rho := cr.2.2.1 w (by omega) qw
  refine ⟨p.1, Or.inr (Or.inl ⟨rfl, z, h14, ?_⟩)⟩
  by_cases tr : nu w = 1 ∧ ∃ k, tpF Mc' w k ∧ k + 1 < w ∧ ep k = 0
  · -- something happened in it
    obtain ⟨nw1, k, tk, kw, e0⟩ := tr
    obtain ⟨q1, q2, q3⟩ := tk
    have tk0 : tpF Mc' w k := ⟨q1, q2, q3⟩
    obtain ⟨u1, u2⟩ := tpd k tk0
    obtain ⟨k2w, rg, hω⟩ : k + 2 = w ∧ ρ w = gF M k ∧ ∃ x y, ω w = tF x y := by
      rcases u2 kw with q | q
      · omega
      · exact q
    have wg : wF2 Mc' (gF Mc' k) := by
      rw [rw_g r q1, ← rg]
      exact (rw_f2 r).mpr ⟨rho.1, rho.2.1, rho.2.2.1⟩
    have fk := f1' k q1 q2
    have en0 : en k = 0 := by omega
    have cc := cr_one (M := Mc') (nu := nu) (nu' := nu) (ep := ep) (ep' := fu ep k 1) (th := th) (th' := th) q1 q2 (fun j hj => ⟨rfl, fu_ne hj, rfl⟩)
    rw [fu_eq, e0] at cc
    have ce := ff_one (M := Mc') (f := en) (f' := fu en k 1) q1 q2 (fun j hj => fu_ne hj)
    rw [fu_eq, en0] at ce
    have mono : ∀ x, ep x = 1 → fu ep k 1 x = 1 := fun x hx => by
      by_cases e : x = k
      · subst e; exact fu_eq
      · rw [fu_ne e]; exact hx
    refine ⟨ρ, σ, lo, nu, fu ep k 1, fu en k 1, th, dd, N, a, b, c1, Nf + en w, ⟨cr', ⟨fun x x1 x2 => ?_, ?_, ?_, ?_, ?_, ?_, ?_, f8'⟩, CTr_ep ct' (fun x _ q => mono x q) (fun x x1 x2 x3 => ?_), CS_ep cs' (fun x _ q => mono x q) (fun _ _ => rfl) (fun _ _ _ q => Or.inl q)⟩, fun x hx => ?_, Or.inl dz⟩
    · by_cases e : x = k
      · subst e
        rw [fu_eq, fu_eq]
        exact ⟨fk.1, by omega, by omega, fun _ => by have := wg.1; omega⟩
      · rw [fu_ne e, fu_ne e]
        exact f1' x x1 x2
    · rw [← rw_W r, ← rw_F r, ← rw_K r] at f2
      omega
    · rw [← rw_K r] at f3
      omega
    · omega
    · omega
    · rw [rw_K r]; exact f6
    · rw [rw_K r]; exact f7
    · by_cases e : x = k
      · subst e; exact Or.inr (Or.inr (Or.inr (Or.inl wg)))
      · rw [fu_ne e] at x3; exact Or.inl x3
    · have e : x = k := by
        obtain ⟨x1, x2, x3⟩ := hx
        by_cases e1 : x < k
        · exact absurd q2 (x3 k e1 q1)
        · by_cases e2 : k < x
          · exact absurd x2 (q3 x e2 x1)
          · omega
      subst e
      exact ⟨fun _ => Or.inl u1, fun _ => Or.inl fu_eq⟩
  · refine ⟨ρ, σ, lo, nu, ep, en, th, dd, N, a, b, c1, Nf + nu w + en w, ⟨cr', ⟨f1', ?_, ?_, ?_, ?_, ?_, ?_, f8'⟩, ct', cs'⟩, fun k hk => ?_, Or.inl dz⟩
    · rw [← rw_W r, ← rw_F r, ← rw_K r] at f2
      omega
    · rw [← rw_K r] at f3
      omega
    · omega
    · omega
    · rw [rw_K r]; exact f6
    · rw [rw_K r]; exact f7
    · obtain ⟨u1, u2⟩ := tpd k hk
      refine ⟨fun _ => Or.inl u1, fun kw => ?_⟩
      rcases u2 kw with q | ⟨k2w, rg, x, y, hω⟩
      · exact Or.inl q
      · by_cases e1 : ep k = 1
        · exact Or.inl e1
        · have fk := f1' k hk.1 hk.2.1
          rcases (sh w tw).1 rfl with q | ⟨a, q⟩ | ⟨q1, q2⟩
          · exact absurd ⟨q, k, hk, kw, by omega⟩ tr
          · rw [hω] at q; cases q
          · have wg : wF2 Mc' (gF Mc' k) := by
              rw [rw_g r hk.1, ← rg]
              exact (rw_f2 r).mpr ⟨rho.1, rho.2.1, rho.2.2.1⟩
            refine Or.inr ⟨fun bb _ _ => ⟨wg, ?_⟩, fun q => absurd (Or.inr (Or.inr (Or.inl wg))) q, fun q => absurd (dz.symm.trans q) Bool.false_ne_true, by have := wg.1; omega⟩
            rw [rw_g r hk.1, ← rg, r.1]
            exact q2
theorem CTr_h {M M' : Mm} {τ : Nat → Ty} {n w w' w0 a : Nat} {ρ ep ep' th : Nat → Nat} {dd : Nat → Bool} (h : CTr M τ n w ρ ep th dd a) (e49 : M' 49 = M 49) (hq : ∀ k, k < w0 → (qF M' k ↔ qF M k)) (hg : ∀ k, k < w0 → gF M' k = gF M k) (hl : ∀ k, k < w0 → lF M' k = lF M k) (hw : w0 ≤ w) (hnf : ∀ k, w0 ≤ k → k < w' → ¬ qF M' k) (he : ∀ k, k + 1 < w0 → ep' k = ep k) (he2 : ∀ k, k < w0 → ep' k = 1 → ep k = 1) : CTr M' τ n w' ρ ep' th dd a := by
  obtain ⟨t1, t2, t3, t4, t5, t6, t7⟩ := h
  have low : ∀ k, k < w' → qF M' k → k < w0 := fun k hk hF => by
    by_cases c : k < w0
    · exact c
    · exact absurd hF (hnf k (by omega) hk)
  have f2 : ∀ x, wF2 M' x ↔ wF2 M x := fun x => by unfold wF2; rw [e49]
  have f1 : ∀ x, wF1 M' x ↔ wF1 M x := fun x => by unfold wF1; rw [e49]
  have fg : ∀ x, gok M' x ↔ gok M x := fun x => by unfold gok wI2 wF2 wF1; rw [e49]
  have fK : Kc M' n = Kc M n := Kc_fr (fun j _ => by rw [e49])
  refine ⟨fun k k' h1 h2 h3 h4 h5 h6 => ?_, fun k hk hF hd => ?_, fun k hk hF hb => ?_, fun k hk hF hw2 => ?_, fun k hk hF ho => ?_, fun x hx h2 => ?_, fun q => ?_⟩
  · have k0 := low k' h2 h4
    rw [hl k (by omega), hl k' k0] at h6
    rw [he k (by omega)]
    rcases t1 k k' h1 (by omega) ((hq k (by omega)).mp h3) ((hq k' k0).mp h4) (fun j a b c => h5 j a b ((hq j (by omega)).mpr c)) h6 with z | z
    · exact Or.inl z
    · refine Or.inr ?_
      unfold HSb at z ⊢
      rw [hg k (by omega), e49]
      exact z
  · have k0 := low k hk hF
    obtain ⟨j, j1, j2, j3, j4, j5⟩ := t2 k (by omega) ((hq k k0).mp hF) hd
    exact ⟨j, j1, (hq j (by omega)).mpr j2, fun i a b c => j3 i a b ((hq i (by omega)).mp c), j4, by rw [hl j (by omega), hl k k0]; exact j5⟩
  · have k0 := low k hk hF
    exact t3 k (by omega) ((hq k k0).mp hF) (fun j hj hqq => hb j hj ((hq j (by omega)).mpr hqq))
  · have k0 := low k hk hF
    rw [hg k k0] at hw2
    exact t4 k (by omega) ((hq k k0).mp hF) ((f1 _).mp hw2)
  · have k0 := low k hk hF
    rw [hg k k0]
    exact (fg _).mpr (t5 k (by omega) ((hq k k0).mp hF) (ho.imp (fun q => he2 k k0 q) (fun ⟨k', a, b, c⟩ => ⟨k', a, by have := low k' b c; omega, (hq k' (low k' b c)).mp c⟩)))
  · obtain ⟨y, y1, y2, y3⟩ := t6 x hx ((f2 x).mp h2)
    exact ⟨y, y1, (f1 y).mpr y2, by rw [e49]; exact y3⟩
  · rw [fK] at q
    obtain ⟨y, z, y1, z1, y2, y3, y4⟩ := t7 q
    exact ⟨y, z, y1, z1, (f1 y).mpr y2, by rw [e49]; exact y3, by rw [e49]; exact y4⟩
theorem cells_F1 : CloF1 M0 R0 N0 NT G lim Pc := by
  intro Mc Mr φ τ κ Es n m nf ne ω w s g z l r e A B ω' fo p hs sj he ht hω h51 a0 a1 a2 a3 b0 b1 hoth
  have iv := Pc_F p
  have row := pw_row (M := Mc) (n := w) (x1 := 3) (x2 := (g : Int)) (x3 := (l : Int)) (x4 := ((r + 1 : Nat) : Int)) (x5 := Mc 51 (5 * w + 4))
  have r0 : RwS (pw Mc w 3 (g : Int) (l : Int) ((r + 1 : Nat) : Int) (Mc 51 (5 * w + 4))) A w := ⟨by rw [pw_cell (by decide) (by decide), hoth 49 (by decide) (by decide)], fun j hj => by rw [pw_old hj, h51 j hj]⟩
  obtain ⟨bas, _⟩ := Bas_fr (Mc' := pw Mc w 3 (g : Int) (l : Int) ((r + 1 : Nat) : Int) (Mc 51 (5 * w + 4))) (Mr' := Mr) (fun a h1 h2 => pw_cell h1 h2) (pw_47 (by decide)) (fun _ _ _ => rfl) (fun _ _ => rfl) fo.1.1
  have hC := bas.2.2.2.2
  have mc49 : pw Mc w 3 (g : Int) (l : Int) ((r + 1 : Nat) : Int) (Mc 51 (5 * w + 4)) 49 = Mc 49 := pw_cell (by decide) (by decide)
  generalize hM : pw Mc w 3 (g : Int) (l : Int) ((r + 1 : Nat) : Int) (Mc 51 (5 * w + 4)) = M at *
  obtain ⟨ρ, σ, lo, nu, ep, en, th, dd, N, a, b, c1, Nf, ⟨cr, ⟨f1, f2, f3, f4, f5, f6, f7, f8⟩, ct, cs⟩, sh, hd⟩ := iv
  obtain ⟨sc, h71, h103, h104, h78, ch, ⟨ta, tg, tl⟩, tz, hr, hg, hz, hl⟩ := fo
  have hCm := sc.1.2.2.2.2
  have e49 : A 49 = M 49 := r0.1
  have lenE : ∀ x, lenC M x = lenC Mc x := fun x => by unfold lenC; rw [mc49]
  have tlE : ∀ x, tlC M x l = tlC Mc x l := fun x => tlC_fr mc49 x l
  have lenl : ((r + 1 : Nat) : Int) ≤ lenC Mc l := hr
  obtain ⟨el1, el2, el3⟩ := el_ok hCm hl (k := r) (by omega)
  rw [← he] at el1 el2 el3
  obtain ⟨t1, t2, t3, t4⟩ := tl_ok hCm r l hl (by omega)
  have qw : qF M w := row.1
  have gw : gF M w = g := by unfold gF; rw [row.2.1, Int.toNat_natCast]
  have lw : lF M w = l := by unfold lF; rw [row.2.2.1, Int.toNat_natCast]
  have rwE : rF M w = r + 1 := by unfold rF; rw [row.2.2.2.1, Int.toNat_natCast]
  have qa : qF A w := a0
  have ga : gF A w = g := by unfold gF; rw [a1, Int.toNat_natCast]
  have la : lF A w = l := by unfold lF; rw [a2, Int.toNat_natCast]
  have ra : rF A w = r := by unfold rF; rw [a3, Int.toNat_natCast]
  have na : ¬ qF A (w + 1) := by unfold qF; omega
  have dz : dd z = false := by
    rcases hd with hd | ⟨k, k1, k2, k3, k4⟩
    · exact hd
    · obtain rfl : k + 1 = w := by omega
      omega
  have hlt : ∀ i x, i < n → fld M i x → x < i := fun i x hi hf => fld_lt (hC i hi) hf
  have pg : rptr M w g := Or.inr (Or.inr ⟨qw, Or.inl row.2.1⟩)
  have pl : rptr M w l := Or.inr (Or.inr ⟨qw, Or.inr row.2.2.1⟩)
  have dg : dd g = false := cr.2.2.2.2.1 w g (by omega) pg
  have dl : dd l = false := cr.2.2.2.2.1 w l (by omega) pl
  have fe : fld M (tlC Mc r l) e := Or.inl ⟨Or.inl (by rw [mc49]; exact t2), Or.inl (by rw [mc49, el2])⟩
  have de : dd e = false := cr.2.2.2.1 _ e (by omega) fe
  have elt : e < tlC Mc r l := hlt _ e (by omega) fe
  have K1 : 0 < Kc A n := by
    have := Kc_mono (M := A) (a := tlC Mc r l + 1) (b := n) (by omega)
    rw [Kc_s, e49, mc49, if_pos t2] at this
    omega
  have KE : Kc A n = Kc M n := rw_K r0 n
  have fw := f1 w (by omega) qw
  obtain ⟨⟨ac1, ac2, ac3, ac4⟩, ac5, ac6, ac7⟩ := cr.1 w (by omega) qw
  have rho := cr.2.2.1 w (by omega) qw
  have gρ : g < ρ w := hlt (ρ w) g (by omega) (Or.inr (Or.inr ⟨rho.1, Or.inl ⟨by omega, by rw [rho.2.2.2]; exact row.2.1⟩⟩))
  have tgA : τ g = tF (τ e) (tF (ω w) (ω w)) := by
    rw [tg]
    have : ta = τ e := tL_inj (tl.symm.trans el3)
    rw [this]
  have ω2 : ω' (w + 2) = tF (ω w) (ω w) := (tF_inj (ht.symm.trans tgA)).2
  have nex : ∀ k, k < w → k ≠ w := fun k hk => by omega
  have mono : ∀ x, Sk (lo w) (σ w) x → Sk (max (lo w) (tlC Mc r l + 1)) (σ w) x := fun x hx => by
    rcases hx with hx | hx
    · exact Or.inl (by omega)
    · exact Or.inr hx
  have hq : ∀ k, k < w + 1 → (qF A k ↔ qF M k) := fun k hk => by
    by_cases c : k = w
    · subst c; exact ⟨fun _ => qw, fun _ => qa⟩
    · exact rw_q r0 (by omega)
  have hgE : ∀ k, k < w + 1 → gF A k = gF M k := fun k hk => by
    by_cases c : k = w
    · subst c; rw [ga, gw]
    · exact rw_g r0 (by omega)
  have hlE : ∀ k, k < w + 1 → lF A k = lF M k := fun k hk => by
    by_cases c : k = w
    · subst c; rw [la, lw]
    · exact rw_l r0 (by omega)
  refine ⟨p.1, Or.inr (Or.inr (Or.inl ⟨rfl, ρ, σ, fu lo w (max (lo w) (tlC Mc r l + 1)), fu nu w 1, fu ep w 0, fu en w 0, th, dd, N + 1, a, b, c1, Nf + nu w + en w, 1, ⟨⟨?_, ?_, ?_, ?_⟩, ⟨?_, ?_, ?_, ?_, ?_, ?_, ?_, ?_⟩, CTr_h (w0 := w + 1) ct e49 hq hgE hlE (Nat.le_refl _) (fun k h1 h2 => ?_) (fun k hk => fu_ne (by omega)) (fun k hk q => ?_), ⟨?_, ?_, ?_⟩⟩, de, Or.inr (Or.inl ⟨rfl, dg, K1, w, rfl, qa, b0, fu_eq, fu_eq, ?_, ga, ?_, ?_⟩)⟩))⟩
  · -- reach
    have ac := ACC_step (M' := A) (n' := n) (w' := w + 2) (w0 := w) (Rg' := fun x => x = g ∨ x = e) hlt (ACC_cg (ρ' := ρ) (σ' := σ) (lo' := lo) cr.1 (fun k hk => ⟨rfl, rfl, rfl⟩)) (Nat.le_refl _) (fun j _ => by rw [e49]) (by omega) r0.2 (fun S s1 s2 s3 _ => by
      have Sg := s3 w g (by omega) (by omega) pg
      have Sl := s3 w l (by omega) (by omega) pl
      have Se : S e := by
        have := tl_S hC s1 r l hl (by rw [lenE]; omega) Sl
        rw [tlE] at this
        exact s1 _ e (by omega) this fe
      refine ⟨fun i x h1 h2 => by omega, fun x hx => ?_, fun k' x h1 h2 hx => ?_⟩
      · rcases hx with rfl | rfl
        · exact Sg
        · exact Se
      · by_cases c : k' = w
        · subst c
          rcases hx with ⟨hx, _⟩ | ⟨hx, _⟩ | ⟨_, hx | hx⟩
          · omega
          · omega
          · obtain rfl : x = g := by omega
            exact Sg
          · obtain rfl : x = l := by omega
            exact Sl
        · obtain rfl : k' = w + 1 := by omega
          rcases hx with ⟨hx, _⟩ | ⟨_, hx⟩ | ⟨hx, _⟩
          · omega
          · exact s2 x (by omega)
          · omega) (fun k hk hF k' h1 h2 h3 => by
      by_cases c : k' = w
      · subst c
        exact ((cr.1 k (by omega) hF).2.2.1 k' hk (by omega)).2 qw
      · obtain rfl : k' = w + 1 := by omega
        exact absurd h3 na)
    intro k hk hF
    by_cases c : k = w
    · subst c
      rw [fu_eq, la]
      refine ⟨⟨ac1, ac2, by omega, by rw [lw] at ac4; exact ac4⟩, fun x hx => ?_, fun k' h1 h2 => ?_, fun i x h1 h2 hf => mono x (ac7 i x h1 h2 ((rw_fld r0).mp hf))⟩
      · rcases hx with rfl | rfl
        · exact Or.inl (by omega)
        · exact Or.inl (by omega)
      · obtain rfl : k' = k + 1 := by omega
        refine ⟨fun x hx => ?_, fun q => absurd q na⟩
        rcases hx with ⟨hx, _⟩ | ⟨_, hx⟩ | ⟨hx, _⟩
        · omega
        · exact mono x (ac5 x (by omega))
        · omega
    · have k0 : k < w := by
        by_cases c2 : k = w + 1
        · subst c2; exact absurd hF na
        · omega
      rw [fu_ne c]
      exact ac k k0 hF
  · intro k hk hF
    by_cases c : k = w
    · subst c
      rw [fu_eq, la, ra]
      by_cases q : tlC Mc r l + 1 ≤ lo k
      · rw [Nat.max_eq_left q]
        refine (cr.2.1 k (by omega) qw).imp id (fun z j hj => ?_)
        rw [rwE, lw] at z
        rw [tlC_fr e49]
        exact z j (by omega)
      · rw [Nat.max_eq_right (by omega)]
        refine Or.inr (fun j hj => ?_)
        have := tl_lt hCm hl hj (by omega)
        rw [tlC_fr e49, tlE]
        omega
    · have k0 : k < w := by
        by_cases c2 : k = w + 1
        · subst c2; exact absurd hF na
        · omega
      rw [fu_ne c, rw_l r0 k0, rw_r r0 k0]
      exact (cr.2.1 k (by omega) ((rw_q r0 k0).mp hF)).imp id (fun q j hj => by rw [tlC_fr e49]; exact q j hj)
  · intro k hk hF
    by_cases c : k = w
    · subst c
      rw [e49, a1, ← row.2.1]
      exact rho
    · have k0 : k < w := by
        by_cases c2 : k = w + 1
        · subst c2; exact absurd hF na
        · omega
      rw [e49, r0.2 _ (by omega)]
      exact cr.2.2.1 k (by omega) ((rw_q r0 k0).mp hF)
  · obtain ⟨d1, d2, d3⟩ := cr.2.2.2
    refine ⟨fun i x hi hf => d1 i x hi ((rw_fld r0).mp hf), fun k x hk hx => ?_, fun x hx => by rw [e49]; exact d3 x hx⟩
    by_cases c : k = w
    · subst c
      rcases hx with ⟨hx, _⟩ | ⟨hx, _⟩ | ⟨_, hx | hx⟩
      · omega
      · omega
      · obtain rfl : x = g := by omega
        exact dg
      · obtain rfl : x = l := by omega
        exact dl
    · by_cases c2 : k = w + 1
      · subst c2
        rcases hx with ⟨hx, _⟩ | ⟨_, hx⟩ | ⟨hx, _⟩
        · omega
        · obtain rfl : x = z := by omega
          exact dz
        · omega
      · exact d2 k x (by omega) ((rptr_fr (fun j h1 h2 => r0.2 j (by omega))).mp hx)
  · intro k hk hF
    by_cases c : k = w
    · subst c
      rw [fu_eq, fu_eq, fu_eq]
      exact ⟨by omega, by omega, by omega, fun q => by omega⟩
    · have k0 : k < w := by
        by_cases c2 : k = w + 1
        · subst c2; exact absurd hF na
        · omega
      rw [fu_ne c, fu_ne c, fu_ne c, rw_g r0 k0, e49]
      exact f1 k (by omega) ((rw_q r0 k0).mp hF)
  · have cA : sm (crA A (fu nu w 1) (fu ep w 0) th) (w + 2) + (nu w + ep w) = sm (crA M nu ep th) (w + 1) + 1 := by
      rw [sm_s, sm_s, sm_s]
      have e : sm (crA A (fu nu w 1) (fu ep w 0) th) w = sm (crA M nu ep th) w := sm_eq (fun k hk => by
        unfold crA
        rw [r0.2 _ (by omega), fu_ne (nex k hk), fu_ne (nex k hk)])
      have e1 : crA A (fu nu w 1) (fu ep w 0) th w = 1 + 0 + th w := by
        unfold crA
        rw [if_neg (by omega), if_neg (by omega), if_pos a0, fu_eq, fu_eq]
      have e2 : crA A (fu nu w 1) (fu ep w 0) th (w + 1) = 0 := by
        unfold crA
        rw [if_neg (by omega), if_neg (by omega), if_neg (by omega)]
      have e3 : crA M nu ep th w = nu w + ep w + th w := by
        unfold crA
        rw [if_neg (by omega), if_neg (by omega), if_pos row.1]
      rw [e, e1, e2, e3]
      omega
    rw [if_neg (by decide), rw_W r0, rw_F r0, rw_K r0]
    omega
  · have e : ∀ (f : Nat → Nat) (y : Nat), sm (fF A (fu f w y)) (w + 2) + f w = sm (fF M f) (w + 1) + y := fun f y => by
      rw [sm_s, sm_s, sm_s]
      have e : sm (fF A (fu f w y)) w = sm (fF M f) w := sm_eq (fun k hk => by
        unfold fF
        rw [r0.2 _ (by omega), fu_ne (nex k hk)])
      have e1 : fF A (fu f w y) w = y := by
        unfold fF
        rw [if_pos a0, fu_eq]
      have e2 : fF A (fu f w y) (w + 1) = 0 := if_neg na
      have e3 : fF M f w = f w := if_pos qw
      rw [e, e1, e2, e3]
      omega
    have x1 := e nu 1
    have x2 := e en 0
    rw [KE]
    omega
  · have e : sm (fF A (fu en w 0)) (w + 2) + en w = sm (fF M en) (w + 1) := by
      rw [sm_s, sm_s, sm_s]
      have e : sm (fF A (fu en w 0)) w = sm (fF M en) w := sm_eq (fun k hk => by
        unfold fF
        rw [r0.2 _ (by omega), fu_ne (nex k hk)])
      have e1 : fF A (fu en w 0) w = 0 := by
        unfold fF
        rw [if_pos a0, fu_eq]
      have e2 : fF A (fu en w 0) (w + 1) = 0 := if_neg na
      have e3 : fF M en w = en w := if_pos qw
      rw [e, e1, e2, e3]
      omega
    omega
  · have e : sm (fF A (rF A)) (w + 2) + 1 = sm (fF M (rF M)) (w + 1) := by
      rw [sm_s, sm_s, sm_s, rw_rf r0]
      have e1 : fF A (rF A) w = r := by
        unfold fF
        rw [if_pos a0, ra]
      have e2 : fF A (rF A) (w + 1) = 0 := if_neg na
      have e3 : fF M (rF M) w = r + 1 := by
        unfold fF
        rw [if_pos row.1, rwE]
      rw [e1, e2, e3]
      omega
    omega
  · rw [KE]; exact f6
  · rw [KE]; exact f7
  · refine f8.imp id (fun q i hi hw => ?_)
    unfold wC1 at hw
    rw [e49] at hw
    exact q i hi hw
  · obtain rfl : k = w + 1 := by omega
    exact na
  · by_cases c : k = w
    · subst c; rw [fu_eq] at q; omega
    · rw [fu_ne c] at q; exact q
  · intro k hk h2
    by_cases c : k = w + 1
    · subst c
      refine ⟨by omega, qa, ?_, K1⟩
      show ω' (w + 2) = tF (ω' w) (ω' w)
      rw [ω2, hω w (Nat.le_refl _)]
    · have c2 : k ≠ w := fun q => by subst q; omega
      rw [r0.2 _ (by omega)] at h2
      obtain ⟨q1, q2, q3, q4⟩ := cs.1 k (by omega) h2
      exact ⟨q1, (rw_q r0 (by omega)).mpr q2, by rw [hω _ (by omega), hω _ (by omega)]; exact q3, K1⟩
  · intro k hF hk
    by_cases c : k = w
    · subst c
      rw [fu_eq, fu_eq, ra, la, rw_len r0, lenE]
      exact ⟨rfl, by omega, Or.inr (Or.inr ⟨b0, Or.inl rfl⟩)⟩
    · have k0 : k < w := by omega
      obtain ⟨q1, q2, q3⟩ := cs.2.1 k ((rw_q r0 k0).mp hF) (by omega)
      rw [fu_ne c, fu_ne c, rw_r r0 k0, rw_l r0 k0, rw_len r0, rw_g r0 k0]
      refine ⟨q1, q2, ?_⟩
      rcases q3 with q | q | ⟨q, q4⟩
      · exact Or.inl q
      · exact Or.inr (Or.inl ((hq (k + 1) (by omega)).mpr q))
      · have kw : k + 1 ≠ w := fun e => by rw [e] at q; omega
        refine Or.inr (Or.inr ⟨by rw [r0.2 _ (by omega)]; exact q, ?_⟩)
        rcases q4 with q4 | ⟨q5, q6, q7⟩
        · omega
        · exact Or.inr ⟨(hq (k + 2) (by omega)).mpr q5, q6, by rw [hω _ (by omega)]; exact q7⟩
  · intro k hk hF
    by_cases c : k = w
    · subst c
      exact Or.inl fu_eq
    · have k0 : k < w := by
        by_cases c2 : k = w + 1
        · subst c2; exact absurd hF na
        · omega
      rw [fu_ne c, rw_r r0 k0, rw_l r0 k0, rw_len r0, hω _ (by omega)]
      exact cs.2.2 k (by omega) ((rw_q r0 k0).mp hF)
  · rw [ra, la, rw_len r0, lenE]
    omega
  · rw [la]
    exact el3
  · rw [hω w (Nat.le_refl _)]
    exact tgA
end STN
