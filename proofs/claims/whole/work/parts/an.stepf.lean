/-! Run: the other side's cells stay under 6000. A fold begins. -/
theorem ACC_cg {M : Mm} {n w : Nat} {ρ σ lo ρ' σ' lo' : Nat → Nat} {Rg : Nat → Prop} (h : ACC M n w ρ σ lo Rg) (e : ∀ k, k < w → ρ' k = ρ k ∧ σ' k = σ k ∧ lo' k = lo k) : ACC M n w ρ' σ' lo' Rg := by
  intro k hk hF
  obtain ⟨e1, e2, e3⟩ := e k hk
  obtain ⟨a1, a2, a3, a4⟩ := h k hk hF
  rw [e1, e2, e3]
  exact ⟨a1, a2, fun k' h1 h2 => ⟨(a3 k' h1 h2).1, fun q => by rw [(e k' h2).1]; exact (a3 k' h1 h2).2 q⟩, a4⟩
section STF
variable {M0 R0 : Mm} {N0 NT : Nat} {G : Nat → UGt} {lim : Nat}
theorem cells_C3 (hl : lim ≤ 300) : CloC3 M0 R0 N0 NT G lim Pc := by
  intro Mc Mr φ τ κ Es n m nf ne ω w s i j g z r sc p hsl hi hj ht hk4 hk7 hk2 hg hz hr
  obtain ⟨ρ, σ, lo, nu, ep, en, th, dd, N, a, b, c1, Nf, o, ⟨cr, ⟨f1, f2, f3, f4, f5, f6, f7, f8⟩, ct, cs⟩, dj, ho⟩ := Pc_C p
  have hC := sc.1.2.2.2.2
  have wf := WFr_of sc
  have r0 : RwS Mc (pw Mc w 3 (g : Int) (j : Int) (r : Int) (Mc 51 (5 * w + 4))) w := ⟨pw_cell (by decide) (by decide), fun j hj => pw_old hj⟩
  have row := pw_row (M := Mc) (n := w) (x1 := 3) (x2 := (g : Int)) (x3 := (j : Int)) (x4 := (r : Int)) (x5 := Mc 51 (5 * w + 4))
  obtain ⟨bas, _⟩ := Bas_fr (Mc' := pw Mc w 3 (g : Int) (j : Int) (r : Int) (Mc 51 (5 * w + 4))) (Mr' := Mr) (fun a h1 h2 => pw_cell h1 h2) (pw_47 (by decide)) (fun _ _ _ => rfl) (fun _ _ => rfl) sc.1
  have hC' := bas.2.2.2.2
  have e49 : pw Mc w 3 (g : Int) (j : Int) (r : Int) (Mc 51 (5 * w + 4)) 49 = Mc 49 := r0.1
  have pcE : Pc 3 Mc τ ω n (m + r) w s g z j r ↔ (m + r < 6000 ∧ IV (pw Mc w 3 (g : Int) (j : Int) (r : Int) (Mc 51 (5 * w + 4))) τ ω n (m + r) (w + 1) s z) := by
    constructor
    · exact fun q => ⟨q.1, Pc_F q⟩
    · exact fun q => ⟨q.1, Or.inr (Or.inr (Or.inr ⟨rfl, q.2⟩))⟩
  refine pcE.mpr ?_
  generalize hM : pw Mc w 3 (g : Int) (j : Int) (r : Int) (Mc 51 (5 * w + 4)) = M' at *
  have qw : qF M' w := row.1
  have gw : gF M' w = g := by unfold gF; rw [row.2.1, Int.toNat_natCast]
  have lw : lF M' w = j := by unfold lF; rw [row.2.2.1, Int.toNat_natCast]
  have rw' : rF M' w = r := by unfold rF; rw [row.2.2.2.1, Int.toNat_natCast]
  -- types
  obtain ⟨_, _, kk, hk8, a3, _, a5⟩ := COK_4 (hC i hi) hk4
  obtain rfl : kk = 7 := by omega
  have tys : g < i ∧ z < i ∧ ∃ aa, τ g = tF aa (tF (ω w) (ω w)) ∧ τ j = tL aa := by
    rcases a5 with ⟨q, _⟩ | ⟨x, _, q, _⟩ | ⟨x, y, x1, x2, _, _, _, c3, _, c5, _, c7⟩
    · omega
    · omega
    · obtain rfl : x = g := by omega
      obtain rfl : y = z := by omega
      obtain ⟨aa, bb, e⟩ := (PTy_k c7).2.2.2.2 rfl
      obtain ⟨e1, e2⟩ := tF_inj e
      obtain ⟨e3, e4⟩ := tF_inj e2
      rw [e4] at ht
      obtain ⟨e5, e6⟩ := tF_inj ht
      exact ⟨x1, x2, aa, by rw [e1, e6], e5.symm⟩
  obtain ⟨gi, zi, aa, tg, tj⟩ := tys
  have fz : fld Mc i z := Or.inr (Or.inr ⟨hk4, Or.inr ⟨hk2, hz⟩⟩)
  have fg : fld Mc i g := Or.inr (Or.inr ⟨hk4, Or.inl ⟨by omega, hg⟩⟩)
  have dz : dd z = false := cr.2.2.2.1 i z hi fz
  have dg : dd g = false := cr.2.2.2.1 i g hi fg
  have wi : wF2 Mc i := ⟨hk4, hk7, hk2⟩
  have hlt : ∀ i x, i < n → fld Mc i x → x < i := fun i x hi hf => fld_lt (hC i hi) hf
  -- the fold under it
  have under : ∀ k, tpF Mc w k → nu k = 1 ∧ (rF Mc k : Int) < lenC Mc (lF Mc k) ∧ gok Mc (gF Mc k) ∧ (τ (lF Mc k) = τ j → ep k = 1 ∨ (wF2 Mc (gF Mc k) ∧ Mc 49 (5 * gF Mc k + 4) = (i : Int))) ∧ (ep k = 1 ∨ k + 1 = w ∨ (k + 2 = w ∧ Mc 51 (5 * (k + 1)) = 2 ∧ gF Mc k = i ∧ ∃ x y, ω w = tF x y)) := fun k hk => by
    have hk0 := hk
    obtain ⟨q1, q2, q3⟩ := hk
    rcases ho with ⟨rfl, di, h3⟩ | ⟨rfl, di, hK, k0, k1, k2, k3, k4, k5, k6, k7, k8, k9⟩ | ⟨rfl, hK, k0, k1, k2, k3, k4, k5, k6, k7⟩
    · obtain ⟨z1, z2, z3⟩ := h3 k hk0
      exact ⟨z2, z3, ct.2.2.2.2.1 k q1 q2 (Or.inl z1), fun _ => Or.inl z1, Or.inl z1⟩
    · obtain rfl : k = k0 := by
        by_cases e : k < k0
        · exact absurd k2 (q3 k0 e (by omega))
        · by_cases e2 : k = k0 + 1
          · subst e2
            unfold qF at q2
            omega
          · omega
      refine ⟨k4, k6, by rw [k7]; exact Or.inr (Or.inr (Or.inl wi)), fun q => ?_, Or.inr (Or.inr ⟨k1, k3, k7, _, _, (tF_inj (ht.symm.trans k9)).2⟩)⟩
      rw [k8] at q
      exact False.elim (tL_ne q.symm)
    · obtain rfl : k = k0 := by
        by_cases e : k < k0
        · exact absurd k2 (q3 k0 e (by omega))
        · omega
      refine ⟨k3, k4, ?_, fun q => ?_, Or.inr (Or.inl k1)⟩
      · rcases k5 with z | ⟨_, z, _⟩
        · exact ct.2.2.2.2.1 k q1 q2 (Or.inl z)
        · by_cases e : gok Mc (gF Mc k)
          · exact e
          · exact absurd wi (z e).2
      · rcases k5 with z | ⟨z, _⟩
        · exact Or.inl z
        · exact Or.inr (z _ wi (by rw [q]; exact ht))
  have topx : ∀ k, k < w → qF Mc k → (∀ j, k < j → j < w → ¬ qF Mc j) → tpF Mc w k := fun k a b c => ⟨a, b, c⟩
  have ne : ∀ k, k < w → k ≠ w := fun k hk => by omega
  have s3 : s ≤ 300 := by omega
  have wf' : WFr M' τ ω n (w + 1) := fun k hk hF => by
    by_cases c : k = w
    · subst c
      rw [gw, lw, rw', row.2.1, row.2.2.1, row.2.2.2.1, rw_len r0, hr]
      exact ⟨by omega, hj, rfl, rfl, rfl, Int.le_refl _, aa, tg, tj⟩
    · have k0 : k < w := by omega
      rw [rw_g r0 k0, rw_l r0 k0, rw_r r0 k0, rw_len r0, r0.2 _ (by omega), r0.2 _ (by omega), r0.2 _ (by omega)]
      exact wf k k0 ((rw_q r0 k0).mp hF)
  have gg : Gst M' τ ω n (m + r) (w + 1) s 1 0 (fun x => x = z) (fu ρ w i) (fu σ w n) (fu lo w i) (fu nu w 0) (fu ep w 0) (fu en w 0) (fu th w (if o = 0 then 2 else 0)) dd N a b c1 Nf := by
    refine ⟨⟨?_, ?_, ?_, ?_⟩, ⟨?_, ?_, ?_, ?_, ?_, ?_, ?_, ?_⟩, ⟨?_, ?_, ?_, ?_, ?_, ?_, ?_⟩, ⟨?_, ?_, ?_⟩⟩
    · -- reach
      have ac := ACC_step (M' := M') (n' := n) (w' := w + 1) (w0 := w) (Rg' := fun x => x = z) hlt (ACC_cg (ρ' := fu ρ w i) (σ' := fu σ w n) (lo' := fu lo w i) cr.1 (fun k hk => ⟨fu_ne (ne k hk), fu_ne (ne k hk), fu_ne (ne k hk)⟩)) (Nat.le_refl _) (fun j _ => by rw [e49]) (Nat.le_refl _) r0.2 (fun S s1 s2 _ _ => by
        have Si := s2 i (Or.inl rfl)
        refine ⟨fun i x h1 h2 => by omega, fun x hx => by rw [hx]; exact s1 i z hi Si fz, fun k' x h1 h2 hx => ?_⟩
        obtain rfl : k' = w := by omega
        rcases hx with ⟨hx, _⟩ | ⟨hx, _⟩ | ⟨_, hx | hx⟩
        · omega
        · omega
        · obtain rfl : x = g := by omega
          exact s1 i x hi Si fg
        · obtain rfl : x = j := by omega
          exact s2 x (Or.inr rfl)) (fun k hk hF k' h1 h2 _ => by
        obtain rfl : k' = w := by omega
        rw [fu_ne (ne k hk), fu_ne (ne k hk), fu_eq]
        exact (cr.1 k hk hF).2.1 i (Or.inl rfl))
      intro k hk hF
      by_cases c : k = w
      · subst c
        rw [fu_eq, fu_eq, fu_eq, lw]
        exact ⟨⟨hi, Nat.le_refl _, Nat.le_refl _, hj⟩, fun x hx => Or.inl (by omega), fun k' h1 h2 => by omega, fun i x h1 h2 => by omega⟩
      · exact ac k (by omega) hF
    · intro k hk hF
      by_cases c : k = w
      · subst c
        rw [fu_eq, fu_eq]
        exact Or.inl rfl
      · have k0 : k < w := by omega
        rw [fu_ne c, fu_ne c, rw_l r0 k0, rw_r r0 k0]
        exact (cr.2.1 k k0 ((rw_q r0 k0).mp hF)).imp id (fun q j hj => by rw [tlC_fr e49]; exact q j hj)
    · intro k hk hF
      by_cases c : k = w
      · subst c
        rw [fu_eq, e49, row.2.1]
        exact ⟨hk4, hk7, hk2, hg⟩
      · have k0 : k < w := by omega
        rw [fu_ne c, e49, r0.2 _ (by omega)]
        exact cr.2.2.1 k k0 ((rw_q r0 k0).mp hF)
    · obtain ⟨d1, d2, d3⟩ := cr.2.2.2
      refine ⟨fun i x hi hf => d1 i x hi ((rw_fld r0).mp hf), fun k x hk hx => ?_, fun x hx => by rw [e49]; exact d3 x hx⟩
      by_cases c : k = w
      · subst c
        rcases hx with ⟨hx, _⟩ | ⟨hx, _⟩ | ⟨_, hx | hx⟩
        · omega
        · omega
        · obtain rfl : x = g := by omega
          exact dg
        · obtain rfl : x = j := by omega
          exact dj
      · exact d2 k x (by omega) ((rptr_fr (fun j h1 h2 => r0.2 j (by omega))).mp hx)
    · intro k hk hF
      by_cases c : k = w
      · subst c
        rw [fu_eq, fu_eq, fu_eq]
        exact ⟨by omega, by omega, by omega, fun q => by omega⟩
      · have k0 : k < w := by omega
        rw [fu_ne c, fu_ne c, fu_ne c, rw_g r0 k0, e49]
        exact f1 k k0 ((rw_q r0 k0).mp hF)
    · have cA : sm (crA M' (fu nu w 0) (fu ep w 0) (fu th w (if o = 0 then 2 else 0))) (w + 1) = sm (crA Mc nu ep th) w + (if o = 0 then 2 else 0) := by
        rw [sm_s]
        have e : sm (crA M' (fu nu w 0) (fu ep w 0) (fu th w (if o = 0 then 2 else 0))) w = sm (crA Mc nu ep th) w := sm_eq (fun k hk => by
          unfold crA
          rw [r0.2 _ (by omega), fu_ne (ne k hk), fu_ne (ne k hk), fu_ne (ne k hk)])
        rw [e]
        unfold crA
        rw [if_neg (by omega), if_neg (by omega), if_pos row.1, fu_eq, fu_eq, fu_eq]
        omega
      rw [rw_W r0, rw_F r0, rw_K r0, cA]
      by_cases c : o = 0
      · rw [if_pos c] at f2 ⊢; omega
      · rw [if_neg c] at f2 ⊢; omega
    · have e : ∀ f : Nat → Nat, sm (fF M' (fu f w 0)) (w + 1) = sm (fF Mc f) w := fun f => by
        rw [sm_s]
        have e : sm (fF M' (fu f w 0)) w = sm (fF Mc f) w := sm_eq (fun k hk => by
          unfold fF
          rw [r0.2 _ (by omega), fu_ne (ne k hk)])
        rw [e]
        unfold fF
        rw [if_pos row.1, fu_eq]
        rfl
      rw [rw_K r0, e, e]
      exact f3
    · have e : sm (fF M' (fu en w 0)) (w + 1) = sm (fF Mc en) w := by
        rw [sm_s]
        have e : sm (fF M' (fu en w 0)) w = sm (fF Mc en) w := sm_eq (fun k hk => by
          unfold fF
          rw [r0.2 _ (by omega), fu_ne (ne k hk)])
        rw [e]
        unfold fF
        rw [if_pos row.1, fu_eq]
        rfl
      rw [e]
      omega
    · have e : sm (fF M' (rF M')) (w + 1) = sm (fF Mc (rF Mc)) w + r := by
        rw [sm_s, rw_rf r0]
        have : fF M' (rF M') w = r := by
          unfold fF
          rw [if_pos row.1, rw']
        rw [this]
      rw [e]
      omega
    · rw [rw_K r0]; exact f6
    · rw [rw_K r0]; exact f7
    · refine f8.imp id (fun q i hi hw => ?_)
      unfold wC1 at hw
      rw [e49] at hw
      exact q i hi hw
    · -- folds next to each other
      intro k k' h1 h2 h3 h4 h5 h6
      have k0 : k < w := by omega
      have h3' := (rw_q r0 k0).mp h3
      rw [fu_ne (ne k k0)]
      by_cases c : k' = w
      · subst c
        rw [rw_l r0 k0, lw] at h6
        rcases (under k (topx k k0 h3' (fun j a b q => h5 j a b ((rw_q r0 b).mpr q)))).2.2.2.1 h6 with q | ⟨q1, q2⟩
        · exact Or.inl q
        · refine Or.inr ?_
          unfold HSb
          rw [rw_g r0 k0, e49, fu_eq]
          exact ⟨q1.1, q1.2.1, q1.2.2, q2⟩
      · have k0' : k' < w := by omega
        rw [rw_l r0 k0, rw_l r0 k0'] at h6
        rcases ct.1 k k' h1 k0' h3' ((rw_q r0 k0').mp h4) (fun j a b q => h5 j a b ((rw_q r0 (by omega)).mpr q)) h6 with q | q
        · exact Or.inl q
        · refine Or.inr ?_
          unfold HSb at q ⊢
          rw [rw_g r0 k0, e49, fu_ne c]
          exact q
    · intro k hk hF hd
      by_cases c : k = w
      · subst c
        rw [fu_eq] at hd
        rcases ho with ⟨_, di, _⟩ | ⟨_, di, _⟩ | ⟨_, hK, k0, k1, k2, k3, k4, k5, k6, k7⟩
        · rw [di] at hd; cases hd
        · rw [di] at hd; cases hd
        · have e0 : ep k0 = 0 := by
            rcases k6 with q | q
            · rw [q] at hd; cases hd
            · exact q
          have hh : HH Mc τ dd k0 i := by
            rcases k5 with q | q
            · omega
            · exact q
          have w1 : wF1 Mc (gF Mc k0) := by
            rcases hh.2.2.1 hd with q | q
            · exact q.1
            · have := q.2.1; omega
          obtain ⟨g1, g2, g3, g4, g5, g6, a', g7, g8⟩ := wf k0 (by omega) k2
          have tl : τ (lF Mc k0) = tL (τ j) := by
            obtain ⟨_, _, kk, _, q1, _, qq⟩ := COK_4 (hC _ g1) w1.1
            rcases qq with ⟨qq, _⟩ | ⟨x, _, _, _, _, _, qq⟩ | ⟨x, y, _, _, _, qq, _⟩
            · have := w1.2.2; omega
            · obtain rfl : kk = 7 := by have := w1.2.1; omega
              rw [g7] at qq
              obtain ⟨_, _, e2⟩ := ty_f71 qq
              rw [g8, e2, (tF_inj (ht.symm.trans k7)).1]
            · have := w1.2.2; omega
          refine ⟨k0, by omega, (rw_q r0 (by omega)).mpr k2, fun i h1 h2 => by omega, ?_, by rw [lw, rw_l r0 (by omega)]; exact tl⟩
          rw [fu_ne (by omega)]
          exact ct.2.2.2.1 k0 (by omega) k2 w1
      · have k0 : k < w := by omega
        rw [fu_ne c] at hd
        obtain ⟨x, x1, x2, x3, x4, x5⟩ := ct.2.1 k k0 ((rw_q r0 k0).mp hF) hd
        exact ⟨x, x1, (rw_q r0 (by omega)).mpr x2, fun y h1 h2 h3 => x3 y h1 h2 ((rw_q r0 (by omega)).mp h3), by rw [fu_ne (by omega)]; exact x4, by rw [rw_l r0 (by omega), rw_l r0 k0]; exact x5⟩
    · intro k hk hF hb
      by_cases c : k = w
      · subst c
        rw [fu_eq]
        rcases ho with ⟨q, _⟩ | ⟨_, _, _, k0, k1, k2, _⟩ | ⟨_, _, k0, k1, k2, _⟩
        · rw [if_pos q]
        · exact absurd ((rw_q r0 (by omega)).mpr k2) (hb k0 (by omega))
        · exact absurd ((rw_q r0 (by omega)).mpr k2) (hb k0 (by omega))
      · have k0 : k < w := by omega
        rw [fu_ne c]
        exact ct.2.2.1 k k0 ((rw_q r0 k0).mp hF) (fun j hj hq => hb j hj ((rw_q r0 (by omega)).mpr hq))
    · intro k hk hF hw
      by_cases c : k = w
      · subst c
        rw [fu_eq]
        rw [gw] at hw
        have w1 := (rw_f1 r0).mp hw
        have q7 : ∃ x : Nat, PTy 7 (tF (τ x) (τ g)) := by
          obtain ⟨_, _, kk, _, q1, _, qq⟩ := COK_4 (hC g (by omega)) w1.1
          rcases qq with ⟨qq, _⟩ | ⟨x, _, _, _, _, _, qq⟩ | ⟨x, y, _, _, _, qq, _⟩
          · have := w1.2.2; omega
          · obtain rfl : kk = 7 := by have := w1.2.1; omega
            exact ⟨x, qq⟩
          · have := w1.2.2; omega
        obtain ⟨x, q7⟩ := q7
        rw [tg] at q7
        obtain ⟨ab, e1, e2⟩ := ty_f71 q7
        rcases ho with ⟨q, _⟩ | ⟨_, _, _, k0, k1, k2, k3, k4, k5, k6, k7, k8, k9⟩ | ⟨_, _, k0, k1, k2, k3, k4, k5, k6, k7⟩
        · rw [if_pos q]
        · rw [(tF_inj (ht.symm.trans k9)).2] at e1
          cases e1
        · obtain ⟨e3, e4⟩ := tF_inj (ht.symm.trans k7)
          rw [tj, e2, e4] at e3
          exact False.elim (tL_ne e3.symm)
      · have k0 : k < w := by omega
        rw [fu_ne c]
        rw [rw_g r0 k0] at hw
        exact ct.2.2.2.1 k k0 ((rw_q r0 k0).mp hF) ((rw_f1 r0).mp hw)
    · intro k hk hF hq
      by_cases c : k = w
      · subst c
        rw [fu_eq] at hq
        rcases hq with q | ⟨k', h1, h2, _⟩ <;> omega
      · have k0 : k < w := by omega
        have hF0 := (rw_q r0 k0).mp hF
        rw [rw_g r0 k0]
        refine (rw_gok r0).mpr ?_
        by_cases cc : ∃ j, k < j ∧ j < w ∧ qF Mc j
        · exact ct.2.2.2.2.1 k k0 hF0 (Or.inr cc)
        · exact (under k ⟨k0, hF0, fun j a b q => cc ⟨j, a, b, q⟩⟩).2.2.1
    · intro x hx h2
      obtain ⟨y, y1, y2, y3⟩ := ct.2.2.2.2.2.1 x hx ((rw_f2 r0).mp h2)
      exact ⟨y, y1, (rw_f1 r0).mpr y2, by rw [e49]; exact y3⟩
    · intro q
      rw [rw_K r0] at q
      obtain ⟨y, z, y1, z1, y2, y3, y4⟩ := ct.2.2.2.2.2.2 q
      exact ⟨y, z, y1, z1, (rw_f1 r0).mpr y2, by rw [e49]; exact y3, by rw [e49]; exact y4⟩
    · intro k hk h2
      have c : k ≠ w := fun e => by subst e; omega
      rw [r0.2 _ (by omega)] at h2
      obtain ⟨q1, q2, q3, q4⟩ := cs.1 k (by omega) h2
      exact ⟨q1, (rw_q r0 (by omega)).mpr q2, q3, by rw [rw_K r0]; exact q4⟩
    · intro k hF hk
      have k0 : k < w := by omega
      have hF0 := (rw_q r0 k0).mp hF
      rw [fu_ne (ne k k0), fu_ne (ne k k0), rw_r r0 k0, rw_l r0 k0, rw_len r0, rw_g r0 k0]
      by_cases cc : ∃ j, k < j ∧ j < w ∧ qF Mc j
      · obtain ⟨y, y1, y2, y3⟩ := cc
        obtain ⟨q1, q2, q3⟩ := cs.2.1 k hF0 (by omega)
        refine ⟨q1, q2, ?_⟩
        rcases q3 with q | q | ⟨q, q4⟩
        · exact Or.inl q
        · exact Or.inr (Or.inl (by
            by_cases e : k + 1 = w
            · rw [e]; exact qw
            · exact (rw_q r0 (by omega)).mpr q))
        · by_cases e1 : k + 1 = y
          · subst e1
            exact Or.inr (Or.inl ((rw_q r0 y2).mpr y3))
          · rcases q4 with q4 | ⟨q5, q6, q7⟩
            · omega
            · refine Or.inr (Or.inr ⟨by rw [r0.2 _ (by omega)]; exact q, Or.inr ?_⟩)
              have z2 : k + 2 < w := by
                by_cases e : k + 2 < w
                · exact e
                · omega
              exact ⟨(rw_q r0 z2).mpr q5, by rw [fu_ne (by omega)]; exact q6, q7⟩
      · obtain ⟨u1, u2, u3, u4, u5⟩ := under k ⟨k0, hF0, fun j a b q => cc ⟨j, a, b, q⟩⟩
        refine ⟨u1, u2, ?_⟩
        rcases u5 with q | q | ⟨q1, q0, q2, q3⟩
        · exact Or.inl q
        · exact Or.inr (Or.inl (by rw [q]; exact qw))
        · exact Or.inr (Or.inr ⟨by rw [r0.2 _ (by omega)]; exact q0, Or.inr ⟨by rw [q1]; exact qw, by rw [q1, fu_eq]; exact q2.symm, by rw [q1]; exact q3⟩⟩)
    · intro k hk hF
      by_cases c : k = w
      · subst c
        rw [rw', lw, rw_len r0, hr]
        exact Or.inr (Or.inl rfl)
      · have k0 : k < w := by omega
        rw [fu_ne c, rw_r r0 k0, rw_l r0 k0, rw_len r0]
        exact cs.2.2 k k0 ((rw_q r0 k0).mp hF)
  refine ⟨fin_of hC' wf' s3 gg (Or.inl (by omega)), _, _, _, _, _, _, _, _, _, _, _, _, _, gg, fun k hk => ?_, Or.inl dz⟩
  obtain rfl : k = w := by
    obtain ⟨q1, q2, q3⟩ := hk
    by_cases e : k = w
    · exact e
    · exact absurd qw (q3 w (by omega) (by omega))
  refine ⟨fun _ => Or.inr (Or.inr ⟨?_, ?_⟩), fun _ => by omega⟩
  · rw [rw', lw, rw_len r0, hr]
  · rw [fu_eq, e49, hz]
end STF
