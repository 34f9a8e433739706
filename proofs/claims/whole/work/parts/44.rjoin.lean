/-! THE REFERENCE'S GRAPH: cells 76 (kinds), 77, 78 (parts), 79 (links), 82 (what waits), 53.28 (how many). -/
def GWr (M : Mm) (n : Nat) : Prop := M 53 28 = (n : Int) ∧ n ≤ 4000 ∧ ∀ x, x < n → (0 ≤ M 76 x ∧ M 76 x ≤ 5) ∧ ((3 ≤ M 76 x ∧ M 76 x ≤ 4) → 0 ≤ M 77 x ∧ M 77 x < (n : Int)) ∧ (M 76 x = 4 → 0 ≤ M 78 x ∧ M 78 x < (n : Int)) ∧ (0 ≤ M 79 x ∧ M 79 x < (n : Int))
def Lr (M : Mm) (n J : Nat) (ρ : Nat → Nat) : Prop := (∀ y, y < n → 0 ≤ M 79 y ∧ M 79 y < (n : Int)) ∧ ∀ y, y < n → rk (gN M 79) J y (ρ y)
theorem l217_ok {M : Mm} {n J : Nat} {ρ : Nat → Nat} (hn : n ≤ 4000) (hl : Lr M n J ρ) (x1 : Int) : ∀ (f k x r : Nat), k < f → x < n → rk (gN M 79) k x r → l217 f 2 M x1 (x : Int) = some (r : Int)
  | 0, _, _, _, h, _, _ => absurd h (Nat.not_lt_zero _)
  | f + 1, k, x, r, hk, hx, hr => by
    have h1 := hl.1 x hx
    rw [l217, if_pos (by omega), Int.toNat_natCast]
    by_cases e : M 79 x = (x : Int)
    · rw [if_pos e]
      have e2 : gN M 79 x = x := by show (M 79 x).toNat = x; omega
      rw [rk_fix e2 hr]
    · rw [if_neg e]
      have e2 : gN M 79 x ≠ x := by show (M 79 x).toNat ≠ x; omega
      have hy : gN M 79 x < n := by show (M 79 x).toNat < n; omega
      obtain ⟨k', rfl, hr2⟩ := rk_pred hr e2
      have := l217_ok hn hl x1 f k' _ r (by omega) hy hr2
      rw [show M 79 x = ((gN M 79 x : Nat) : Int) by show M 79 x = ((M 79 x).toNat : Int); omega]
      exact this
theorem f217_ok {M : Mm} {n J x : Nat} {ρ : Nat → Nat} (hn : n ≤ 4000) (hJ : J ≤ 4000) (hx : x < n) (hl : Lr M n J ρ) : f217 M (x : Int) = some (ρ x : Int) := l217_ok hn hl _ FU J x (ρ x) (by unfold FU; omega) hx (hl.2 x hx)
theorem Lr_link {M : Mm} {n J u w : Nat} {ρ : Nat → Nat} (hl : Lr M n J ρ) (hu : u < n) (hw : w < n) (hru : ρ u = u) (hrw : ρ w = w) (hne : u ≠ w) : Lr (up M 79 u (w : Int)) n (J + 1) (fun x => if ρ x = u then w else ρ x) := by
  have e1 : gN (up M 79 u (w : Int)) 79 u = w := by show (up M 79 u (w : Int) 79 u).toNat = w; rw [up_same]; rfl
  have e2 : ∀ y, y ≠ u → gN (up M 79 u (w : Int)) 79 y = gN M 79 y := fun y hy => by show (up M 79 u (w : Int) 79 y).toNat = (M 79 y).toNat; rw [up_at hy]
  have ru : gN M 79 u = u := by have := rk_root (hl.2 u hu); rw [hru] at this; exact this
  have rw' : gN M 79 w = w := by have := rk_root (hl.2 w hw); rw [hrw] at this; exact this
  refine ⟨fun y hy => ?_, fun y hy => ?_⟩
  · by_cases e : y = u
    · subst e
      rw [up_same]
      omega
    · rw [up_at e]
      exact hl.1 y hy
  · obtain ⟨a, b⟩ := rk_link ru rw' hne e1 e2 (hl.2 y hy)
    simp only
    by_cases q : ρ y = u
    · rw [if_pos q]
      exact b q
    · rw [if_neg q]
      exact Or.inl (a q)
def Gr (M : Mm) (n J : Nat) (ρ : Nat → Nat) (t cs : List (Nat × Nat)) : Prop := GWr M n ∧ Lr M n J ρ ∧ J + rc n ρ ≤ n ∧ Ui n (gN M 76) (gN M 77) (gN M 78) ρ t cs
/-- nothing has changed but links and what waits -/
def frr (M M' : Mm) (n : Nat) : Prop := (∀ a, a ≠ 79 → a ≠ 82 → M' a = M a) ∧ ∀ y, n ≤ y → M' 79 y = M 79 y
theorem frr_trans {M M1 M2 : Mm} {n : Nat} (a : frr M M1 n) (b : frr M1 M2 n) : frr M M2 n := ⟨fun c h1 h2 => (b.1 c h1 h2).trans (a.1 c h1 h2), fun y hy => (b.2 y hy).trans (a.2 y hy)⟩
theorem frr_refl (M : Mm) (n : Nat) : frr M M n := ⟨fun _ _ _ => rfl, fun _ _ => rfl⟩
theorem GWr_fr {M M' : Mm} {n J : Nat} {ρ : Nat → Nat} (h : frr M M' n) (hg : GWr M n) (hl : Lr M' n J ρ) : GWr M' n := by
  obtain ⟨a, c, d⟩ := hg
  have h25 := h.1 53 (by decide) (by decide)
  have h26 := h.1 76 (by decide) (by decide)
  have h27 := h.1 77 (by decide) (by decide)
  have h28 := h.1 78 (by decide) (by decide)
  refine ⟨by rw [h25]; exact a, c, fun x hx => ?_⟩
  obtain ⟨d1, d2, d4, d6⟩ := d x hx
  rw [h26, h27, h28]
  exact ⟨d1, d2, d4, hl.1 x hx⟩
theorem Gr_fr {M M' : Mm} {n J : Nat} {ρ : Nat → Nat} {t cs : List (Nat × Nat)} (h : Gr M n J ρ t cs) (hf : frr M M' n) (hl : Lr M' n J ρ) : Gr M' n J ρ t cs := by
  obtain ⟨a, b, c, d⟩ := h
  refine ⟨GWr_fr hf a hl, hl, c, ?_⟩
  rw [gN_fr (hf.1 76 (by decide) (by decide)), gN_fr (hf.1 77 (by decide) (by decide)), gN_fr (hf.1 78 (by decide) (by decide))]
  exact d
def rprs (M : Mm) (p q : Nat) : List (Nat × Nat) := if M 76 p = 3 then [(gN M 77 p, gN M 77 q)] else if M 76 p = 4 then [(gN M 78 p, gN M 78 q), (gN M 77 p, gN M 77 q)] else []
theorem rprs_ok {M : Mm} {n p q : Nat} (hg : GWr M n) (hp : p < n) (hq : q < n) (hk : M 76 p = M 76 q) : (∀ E, eqv E → ((∀ z ∈ rprs M p q, E z.1 z.2) ↔ (gN M 76 q ≠ 2 → ((3 ≤ gN M 76 q ∧ gN M 76 q ≤ 4) → E (gN M 77 q) (gN M 77 p)) ∧ (gN M 76 q = 4 → E (gN M 78 q) (gN M 78 p))))) ∧ (∀ z ∈ rprs M p q, z.1 < n ∧ z.2 < n) ∧ (rprs M p q).length ≤ 2 := by
  obtain ⟨-, -, hg⟩ := hg
  obtain ⟨a1, a2, a4, a6⟩ := hg p hp
  obtain ⟨b1, b2, b4, b6⟩ := hg q hq
  have e : ((gN M 76 q : Nat) : Int) = M 76 q := by unfold gN; omega
  unfold rprs
  by_cases k3 : M 76 p = 3
  · rw [if_pos k3]
    have e2 : gN M 76 q = 3 := by omega
    refine ⟨fun E hE => ?_, ?_, by simp⟩
    · simp [e2]
      exact ⟨hE.2.1 _ _, hE.2.1 _ _⟩
    · have := a2 (by omega)
      have := b2 (by omega)
      simp only [List.mem_singleton, forall_eq]
      unfold gN
      omega
  · rw [if_neg k3]
    by_cases k4 : M 76 p = 4
    · rw [if_pos k4]
      have e2 : gN M 76 q = 4 := by omega
      refine ⟨fun E hE => ?_, ?_, by simp⟩
      · simp [e2]
        exact ⟨fun h => ⟨hE.2.1 _ _ h.2, hE.2.1 _ _ h.1⟩, fun h => ⟨hE.2.1 _ _ h.2, hE.2.1 _ _ h.1⟩⟩
      · have := a2 (by omega)
        have := b2 (by omega)
        have := a4 (by omega)
        have := b4 (by omega)
        intro z hz
        rcases List.mem_cons.mp hz with rfl | hz
        · unfold gN; constructor <;> dsimp only <;> omega
        · rcases List.mem_cons.mp hz with rfl | hz
          · unfold gN; constructor <;> dsimp only <;> omega
          · cases hz
    · rw [if_neg k4]
      refine ⟨fun E _ => ?_, fun z hz => (nomatch hz), by simp⟩
      simp
      intro _
      constructor <;> intros <;> omega
def noway' (M : Mm) (n : Nat) (cs : List (Nat × Nat)) : Prop := ∀ E, clo n (gN M 76) (gN M 77) (gN M 78) E → (∀ p ∈ cs, E p.1 p.2) → clash n (gN M 76) E
theorem l216_ok {n R0 : Nat} {cs : List (Nat × Nat)} (x1 x2 : Int) (hR : R0 ≤ n) : ∀ (f : Nat) (M : Mm) (J : Nat) (ρ : Nat → Nat) (t : List (Nat × Nat)), 2 * rc n ρ + t.length < f → Gr M n J ρ t cs → stk M 82 t → rc n ρ ≤ R0 → t.length ≤ 1 + (R0 - rc n ρ) →
    wp (l216 f 21 M x1 x2 ((2 * t.length : Nat) : Int)) (fun q => frr M q.2 n ∧ ((q.1 = 1 ∧ ∃ J' ρ', Gr q.2 n J' ρ' [] cs) ∨ (q.1 = 0 ∧ noway' M n cs)))
  | 0, _, _, _, _, h, _, _, _, _ => absurd h (Nat.not_lt_zero _)
  | f + 1, M, J, ρ, [], hf, hG, hs, h1, h3 => by
    rw [l216]
    exact wp_T (by simp) (wp_some ⟨frr_refl M n, Or.inl ⟨rfl, J, ρ, hG⟩⟩)
  | f + 1, M, J, ρ, (a, b) :: t, hf, hG, hs, h1, h3 => by
    have hn := hG.1.2.1
    have el : ((a, b) :: t).length = t.length + 1 := rfl
    rw [el] at hf h3
    have hab : a < n ∧ b < n := hG.2.2.2.2.2.2.2.1 _ List.mem_cons_self
    have hJ : J ≤ 4000 := by have := hG.2.2.1; omega
    obtain ⟨hs1, hs2, hs3⟩ : M 82 (2 * t.length) = (a : Int) ∧ M 82 (2 * t.length + 1) = (b : Int) ∧ stk M 82 t := hs
    rw [l216, el]
    refine wp_F (by omega) (wp_chk (by omega) ?_)
    rw [show ((2 * (t.length + 1) : Nat) : Int) + -2 = ((2 * t.length : Nat) : Int) by omega]
    rw [show (((2 * t.length : Nat) : Int)).toNat = 2 * t.length from Int.toNat_natCast _, show (((2 * t.length : Nat) : Int) + 1).toNat = 2 * t.length + 1 by omega, show (((2 * t.length : Nat) : Int) + 2).toNat = 2 * (t.length + 1) by omega, show (((2 * t.length : Nat) : Int) + 2 + 1).toNat = 2 * (t.length + 1) + 1 by omega]
    rw [hs1]
    have hra := hG.2.2.2.1 a hab.1
    have hrb := hG.2.2.2.1 b hab.2
    refine wp_do ⟨_, f217_ok hn hJ hab.1 hG.2.1, rfl⟩ ?_
    rintro v rfl
    refine wp_chk (by omega) ?_
    rw [hs2]
    refine wp_do ⟨_, f217_ok hn hJ hab.2 hG.2.1, rfl⟩ ?_
    rintro v rfl
    rw [show (((ρ a : Nat) : Int)).toNat = ρ a from Int.toNat_natCast _, show (((ρ b : Nat) : Int)).toNat = ρ b from Int.toNat_natCast _]
    obtain ⟨a1, a2, a4, a6⟩ := hG.1.2.2 _ hra.1
    obtain ⟨b1, b2, b4, b6⟩ := hG.1.2.2 _ hrb.1
    -- what follows a link
    have go : ∀ (M3 : Mm) (u w : Nat) (ps : List (Nat × Nat)) (z3 : Int), u < n → w < n → ρ u = u → ρ w = w → u ≠ w → ((ρ a = u ∧ ρ b = w) ∨ (ρ a = w ∧ ρ b = u)) → (M 76 u = 2 ∧ ps = [] ∨ M 76 w = M 76 u ∧ ¬ M 76 u = 2 ∧ ps = rprs M w u) → (∀ a, a ≠ 82 → M3 a = (up M 79 u (w : Int)) a) → stk M3 82 (ps ++ t) → z3 = ((2 * (ps ++ t).length : Nat) : Int) →
        wp (l216 f 21 M3 x1 x2 z3) (fun q => frr M q.2 n ∧ ((q.1 = 1 ∧ ∃ J' ρ', Gr q.2 n J' ρ' [] cs) ∨ (q.1 = 0 ∧ noway' M n cs))) := by
      intro M3 u w ps z3 hu hw hru hrw hne hor hps h33 hst hz3
      subst hz3
      have hL := Lr_link hG.2.1 hu hw hru hrw hne
      have hrc := rc_link (n := n) hu hru hrw hne
      have F3 : frr M M3 n := by
        refine ⟨fun c c1 c2 => ?_, fun y hy => ?_⟩
        · rw [h33 c c2, up_cell c1]
        · rw [h33 79 (by decide), up_at (by omega)]
      have L3 : Lr M3 n (J + 1) (fun x => if ρ x = u then w else ρ x) := by
        have e9 : M3 79 = (up M 79 u (w : Int)) 79 := h33 79 (by decide)
        refine ⟨fun y hy => by rw [e9]; exact hL.1 y hy, fun y hy => ?_⟩
        rw [gN_fr e9]
        exact hL.2 y hy
      have p9 : ps.length ≤ 2 := by
        rcases hps with ⟨-, rfl⟩ | ⟨e, -, rfl⟩
        · simp
        · exact (rprs_ok hG.1 hw hu e).2.2
      have kn : ∀ x, x < n → ((gN M 76 x : Nat) : Int) = M 76 x := fun x hx => by
        have := (hG.1.2.2 x hx).1
        unfold gN
        omega
      have U3 : Ui n (gN M 76) (gN M 77) (gN M 78) (fun x => if ρ x = u then w else ρ x) (ps ++ t) cs := by
        refine Ui_link hG.2.2.2 hor ?_ ?_ ?_
        · have := kn u hu
          have := kn w hw
          rcases hps with ⟨e, -⟩ | ⟨e, -, -⟩ <;> omega
        · rcases hps with ⟨e, rfl⟩ | ⟨e, -, rfl⟩
          · intro E _
            have := kn u hu
            simp
            intro q
            omega
          · exact (rprs_ok hG.1 hw hu e).1
        · rcases hps with ⟨e, rfl⟩ | ⟨e, -, rfl⟩
          · intro p hp; cases hp
          · exact (rprs_ok hG.1 hw hu e).2.1
      have G3 : Gr M3 n (J + 1) (fun x => if ρ x = u then w else ρ x) (ps ++ t) cs := by
        refine ⟨GWr_fr F3 hG.1 L3, L3, by have := hG.2.2.1; omega, ?_⟩
        rw [gN_fr (F3.1 76 (by decide) (by decide)), gN_fr (F3.1 77 (by decide) (by decide)), gN_fr (F3.1 78 (by decide) (by decide))]
        exact U3
      have el2 : (ps ++ t).length = ps.length + t.length := List.length_append
      refine wp_mono (l216_ok x1 x2 hR f M3 (J + 1) _ (ps ++ t) (by omega) G3 hst (by omega) (by omega)) ?_
      rintro q ⟨q1, q2⟩
      refine ⟨frr_trans F3 q1, q2.imp_right (fun z => ⟨z.1, ?_⟩)⟩
      have := z.2
      unfold noway' at this ⊢
      rw [gN_fr (F3.1 76 (by decide) (by decide)), gN_fr (F3.1 77 (by decide) (by decide)), gN_fr (F3.1 78 (by decide) (by decide))] at this
      exact this
    refine wp_ite (fun hne => ?_) (fun heq => ?_)
    · have hne' : ρ a ≠ ρ b := fun q => hne (by rw [q])
      refine wp_chk (by omega) (wp_ite (fun k1 => ?_) (fun k1 => ?_))
      · refine wp_chk (by omega) (wp_ite (fun k2 => ?_) (fun k2 => ?_))
        · refine wp_ite (fun k3 => ?_) (fun k3 => ?_)
          · have g1 := fun (M3 : Mm) z3 => go M3 (ρ b) (ρ a) (rprs M (ρ a) (ρ b)) z3 hrb.1 hra.1 hrb.2 hra.2 hne'.symm (Or.inr ⟨rfl, rfl⟩) (Or.inr ⟨k3, k2, rfl⟩)
            refine wp_ite (fun k4 => ?_) (fun k4 => ?_)
            · refine wp_T (by omega) (wp_chk (by omega) ?_)
              have e9 : rprs M (ρ a) (ρ b) = [(gN M 77 (ρ a), gN M 77 (ρ b))] := if_pos k4
              rw [e9] at g1
              have := a2 (by omega)
              have := b2 (by omega)
              refine g1 _ _ (fun c hc => by rw [up_cell hc, up_cell hc]) ⟨?_, ?_, stk_eq (fun i hi => ?_) hs3⟩ (by simp; omega)
              · show (up (up (up M 79 (ρ b) ((ρ a : Nat) : Int)) 82 (2 * t.length) (M 77 (ρ a))) 82 (2 * t.length + 1) (M 77 (ρ b))) 82 (2 * t.length) = ((M 77 (ρ a)).toNat : Int)
                rw [up_at (by omega), up_same]; omega
              · show (up (up (up M 79 (ρ b) ((ρ a : Nat) : Int)) 82 (2 * t.length) (M 77 (ρ a))) 82 (2 * t.length + 1) (M 77 (ρ b))) 82 (2 * t.length + 1) = ((M 77 (ρ b)).toNat : Int)
                rw [up_same]; omega
              · have hi : i < 2 * t.length := hi
                rw [up_at (by omega), up_at (by omega), up_cell (by decide)]
            · refine wp_ite (fun k5 => ?_) (fun k5 => ?_)
              · refine wp_T k5 (wp_chk (by omega) ?_)
                have e9 : rprs M (ρ a) (ρ b) = [] := by unfold rprs; rw [if_neg k4, if_neg k5]
                rw [e9] at g1
                exact g1 _ _ (fun c hc => rfl) (stk_eq (fun i _ => by rw [up_cell (by decide)]) hs3) (by simp)
              · refine wp_F k5 (wp_chk (by omega) (wp_chk (by omega) (wp_chk (by omega) ?_)))
                have k5' : M 76 (ρ a) = 4 := Classical.byContradiction k5
                have e9 : rprs M (ρ a) (ρ b) = [(gN M 78 (ρ a), gN M 78 (ρ b)), (gN M 77 (ρ a), gN M 77 (ρ b))] := by unfold rprs; rw [if_neg k4, if_pos k5']
                rw [e9] at g1
                have := a2 (by omega)
                have := b2 (by omega)
                have := a4 (by omega)
                have := b4 (by omega)
                refine g1 _ _ (fun c hc => by rw [up_cell hc, up_cell hc, up_cell hc, up_cell hc]) ⟨?_, ?_, ?_, ?_, stk_eq (fun i hi => ?_) hs3⟩ (by simp; omega)
                · show (up (up (up (up (up M 79 (ρ b) ((ρ a : Nat) : Int)) 82 (2 * t.length) (M 77 (ρ a))) 82 (2 * t.length + 1) (M 77 (ρ b))) 82 (2 * (t.length + 1)) (M 78 (ρ a))) 82 (2 * (t.length + 1) + 1) (M 78 (ρ b))) 82 (2 * (t.length + 1)) = ((M 78 (ρ a)).toNat : Int)
                  rw [up_at (by omega), up_same]; omega
                · show (up (up (up (up (up M 79 (ρ b) ((ρ a : Nat) : Int)) 82 (2 * t.length) (M 77 (ρ a))) 82 (2 * t.length + 1) (M 77 (ρ b))) 82 (2 * (t.length + 1)) (M 78 (ρ a))) 82 (2 * (t.length + 1) + 1) (M 78 (ρ b))) 82 (2 * (t.length + 1) + 1) = ((M 78 (ρ b)).toNat : Int)
                  rw [up_same]; omega
                · show (up (up (up (up (up M 79 (ρ b) ((ρ a : Nat) : Int)) 82 (2 * t.length) (M 77 (ρ a))) 82 (2 * t.length + 1) (M 77 (ρ b))) 82 (2 * (t.length + 1)) (M 78 (ρ a))) 82 (2 * (t.length + 1) + 1) (M 78 (ρ b))) 82 (2 * t.length) = ((M 77 (ρ a)).toNat : Int)
                  rw [up_at (by omega), up_at (by omega), up_at (by omega), up_same]; omega
                · show (up (up (up (up (up M 79 (ρ b) ((ρ a : Nat) : Int)) 82 (2 * t.length) (M 77 (ρ a))) 82 (2 * t.length + 1) (M 77 (ρ b))) 82 (2 * (t.length + 1)) (M 78 (ρ a))) 82 (2 * (t.length + 1) + 1) (M 78 (ρ b))) 82 (2 * t.length + 1) = ((M 77 (ρ b)).toNat : Int)
                  rw [up_at (by omega), up_at (by omega), up_same]; omega
                · have hi : i < 2 * t.length := hi
                  rw [up_at (by omega), up_at (by omega), up_at (by omega), up_at (by omega), up_cell (by decide)]
          · refine wp_some ⟨⟨fun c c1 _ => up_cell c1, fun y hy => up_at (by omega)⟩, Or.inr ⟨rfl, ?_⟩⟩
            refine Ui_fail hG.2.2.2 ?_ ?_ ?_
            · unfold gN; omega
            · unfold gN; omega
            · unfold gN; omega
        · refine wp_chk (by omega) ?_
          exact go _ (ρ b) (ρ a) [] _ hrb.1 hra.1 hrb.2 hra.2 hne'.symm (Or.inr ⟨rfl, rfl⟩) (Or.inl ⟨Classical.byContradiction k2, rfl⟩) (fun _ _ => rfl) (stk_eq (fun i _ => by rw [up_cell (by decide)]) hs3) rfl
      · refine wp_chk (by omega) ?_
        exact go _ (ρ a) (ρ b) [] _ hra.1 hrb.1 hra.2 hrb.2 hne' (Or.inl ⟨rfl, rfl⟩) (Or.inl ⟨Classical.byContradiction k1, rfl⟩) (fun _ _ => rfl) (stk_eq (fun i _ => by rw [up_cell (by decide)]) hs3) rfl
    · have heq' : ρ a = ρ b := by omega
      refine wp_chk (by omega) ?_
      have G3 : Gr M n J ρ t cs := ⟨hG.1, hG.2.1, hG.2.2.1, Ui_skip hG.2.2.2 heq'⟩
      exact l216_ok x1 x2 hR f M J ρ t (by omega) G3 hs3 h1 (by omega)
theorem f216_ok {M : Mm} {n J x y : Nat} {ρ : Nat → Nat} {cs : List (Nat × Nat)} (h : Gr M n J ρ [] cs) (hx : x < n) (hy : y < n) : wp (f216 M (x : Int) (y : Int)) (fun q => frr M q.2 n ∧ ((q.1 = 1 ∧ ∃ J' ρ', Gr q.2 n J' ρ' [] ((x, y) :: cs)) ∨ (q.1 = 0 ∧ noway' M n ((x, y) :: cs)))) := by
  have hn := h.1.2.1
  unfold f216
  refine wp_chk (by decide) (wp_chk (by decide) ?_)
  have F : frr M (up (up M 82 (Int.toNat 0) (x : Int)) 82 (Int.toNat (0 + 1)) (y : Int)) n := ⟨fun a h1 h2 => by rw [up_cell h2, up_cell h2], fun z hz => by rw [up_cell (by decide), up_cell (by decide)]⟩
  have e29 : (up (up M 82 (Int.toNat 0) (x : Int)) 82 (Int.toNat (0 + 1)) (y : Int)) 79 = M 79 := by rw [up_cell (by decide), up_cell (by decide)]
  have L : Lr (up (up M 82 (Int.toNat 0) (x : Int)) 82 (Int.toNat (0 + 1)) (y : Int)) n J ρ := by
    refine ⟨fun z hz => by rw [e29]; exact h.2.1.1 z hz, fun z hz => ?_⟩
    rw [gN_fr e29]
    exact h.2.1.2 z hz
  have G := Gr_fr h F L
  have G2 : Gr (up (up M 82 (Int.toNat 0) (x : Int)) 82 (Int.toNat (0 + 1)) (y : Int)) n J ρ [(x, y)] ((x, y) :: cs) := ⟨G.1, G.2.1, G.2.2.1, Ui_ask G.2.2.2 hx hy⟩
  have hrc : rc n ρ ≤ n := cn_le _ n
  have hs : stk (up (up M 82 (Int.toNat 0) (x : Int)) 82 (Int.toNat (0 + 1)) (y : Int)) 82 [(x, y)] := ⟨by rw [up_at (by decide)]; exact up_same _ _ _ _, up_same _ _ _ _, trivial⟩
  refine wp_mono (l216_ok (x : Int) (y : Int) (Nat.le_refl n) FU _ J ρ [(x, y)] (by unfold FU; simp only [List.length_cons, List.length_nil]; omega) G2 hs hrc (by simp only [List.length_cons, List.length_nil]; omega)) ?_
  rintro q ⟨q1, q2⟩
  refine ⟨frr_trans F q1, q2.imp_right (fun z => ⟨z.1, ?_⟩)⟩
  have := z.2
  unfold noway' at this ⊢
  rw [gN_fr (F.1 76 (by decide) (by decide)), gN_fr (F.1 77 (by decide) (by decide)), gN_fr (F.1 78 (by decide) (by decide))] at this
  exact this
