/-! Joining in the class. -/
/-- the pairs of parts -/
def prs (M : Mm) (p q : Nat) : List (Nat × Nat) := if M 26 p = 3 then [(gN M 27 p, gN M 27 q)] else if M 26 p = 4 then [(gN M 28 p, gN M 28 q), (gN M 27 p, gN M 27 q)] else []
theorem prs_ok {M : Mm} {n p q : Nat} (hg : GW M n) (hp : p < n) (hq : q < n) (hk : M 26 p = M 26 q) : (∀ E, eqv E → ((∀ z ∈ prs M p q, E z.1 z.2) ↔ (gN M 26 p ≠ 2 → ((3 ≤ gN M 26 p ∧ gN M 26 p ≤ 4) → E (gN M 27 p) (gN M 27 q)) ∧ (gN M 26 p = 4 → E (gN M 28 p) (gN M 28 q))))) ∧ (∀ z ∈ prs M p q, z.1 < n ∧ z.2 < n) ∧ (prs M p q).length ≤ 2 := by
  obtain ⟨-, -, -, hg⟩ := hg
  obtain ⟨a1, a2, a3, a4, a5, a6⟩ := hg p hp
  obtain ⟨b1, b2, b3, b4, b5, b6⟩ := hg q hq
  have e : ((gN M 26 p : Nat) : Int) = M 26 p := by unfold gN; omega
  unfold prs
  by_cases k3 : M 26 p = 3
  · rw [if_pos k3]
    have e2 : gN M 26 p = 3 := by omega
    refine ⟨fun E _ => ?_, ?_, by simp⟩
    · simp [e2]
    · have := a2 (by omega)
      have := b2 (by omega)
      simp only [List.mem_singleton, forall_eq]
      unfold gN
      omega
  · rw [if_neg k3]
    by_cases k4 : M 26 p = 4
    · rw [if_pos k4]
      have e2 : gN M 26 p = 4 := by omega
      refine ⟨fun E _ => ?_, ?_, by simp⟩
      · simp [e2]
        exact ⟨fun h => ⟨h.2, h.1⟩, fun h => ⟨h.2, h.1⟩⟩
      · have := a2 (by omega)
        have := b2 (by omega)
        have := a4 (by omega)
        have := b4 (by omega)
        intro z hz
        rcases List.mem_cons.mp hz with rfl | hz
        · unfold gN; constructor <;> dsimp only <;> omega
        · rcases List.mem_cons.mp hz with rfl | hz
          · unfold gN; constructor <;> dsimp only <;> omega
          · cases hz
    · rw [if_neg k4]
      refine ⟨fun E _ => ?_, fun z hz => (nomatch hz), by simp⟩
      simp
      intro _
      constructor <;> intros <;> omega
theorem f81_ok {M : Mm} {n p q : Nat} {t : List (Nat × Nat)} (hg : GW M n) (hp : p < n) (hq : q < n) (hk : M 26 p = M 26 q) (ht : t.length ≤ 2503) (hs : stk M 33 t) : wp (f81 M (p : Int) (q : Int) ((2 * t.length : Nat) : Int)) (fun r => r.1 = ((2 * (prs M p q ++ t).length : Nat) : Int) ∧ (∀ a, a ≠ 33 → r.2 a = M a) ∧ stk r.2 33 (prs M p q ++ t)) := by
  obtain ⟨-, -, hn, hg⟩ := hg
  obtain ⟨a1, a2, a3, a4, a5, a6⟩ := hg p hp
  obtain ⟨b1, b2, b3, b4, b5, b6⟩ := hg q hq
  have tp : ((p : Int)).toNat = p := Int.toNat_natCast p
  have tq : ((q : Int)).toNat = q := Int.toNat_natCast q
  have t0 : (((2 * t.length : Nat) : Int)).toNat = 2 * t.length := Int.toNat_natCast _
  have t1 : (((2 * t.length : Nat) : Int) + 1).toNat = 2 * t.length + 1 := by omega
  have t2 : (((2 * t.length : Nat) : Int) + 1 + 1).toNat = 2 * (t.length + 1) := by omega
  have t3 : (((2 * t.length : Nat) : Int) + 1 + 1 + 1).toNat = 2 * (t.length + 1) + 1 := by omega
  unfold f81 prs
  rw [tp, tq, t0, t1, t2, t3]
  refine wp_chk (by omega) ?_
  by_cases k3 : M 26 p = 3
  · rw [if_pos k3]
    have h1 := a2 (by omega)
    have h2 := b2 (by omega)
    have h3 := a5 (by omega)
    refine wp_F (by omega) (wp_chk (by omega) (wp_F (by omega) (wp_chk (by omega) (wp_chk (by omega) (wp_T h3 (wp_chk (by omega) (wp_some ?_)))))))
    dsimp only
    have e9 : [(gN M 27 p, gN M 27 q)] ++ t = (gN M 27 p, gN M 27 q) :: t := rfl
    rw [e9]
    refine ⟨?_, fun a ha => ?_, ?_⟩
    · simp; omega
    · rw [up_cell ha, up_cell ha]
    · refine ⟨?_, ?_, stk_eq (fun i hi => ?_) hs⟩
      · rw [up_at (by omega), up_same]; show M 27 p = ((M 27 p).toNat : Int); omega
      · rw [up_same]; show M 27 q = ((M 27 q).toNat : Int); omega
      · rw [up_at (by omega), up_at (by omega)]
  · rw [if_neg k3]
    by_cases k4 : M 26 p = 4
    · rw [if_pos k4]
      have h1 := a2 (by omega)
      have h2 := b2 (by omega)
      have h3 := a4 (by omega)
      have h4 := b4 (by omega)
      refine wp_F (by omega) (wp_chk (by omega) (wp_F (by omega) (wp_chk (by omega) (wp_chk (by omega) (wp_F (by omega) (wp_F (by omega) (wp_chk (by omega) (wp_chk (by omega) (wp_chk (by omega) (wp_some ?_))))))))))
      dsimp only
      have e9 : [(gN M 28 p, gN M 28 q), (gN M 27 p, gN M 27 q)] ++ t = (gN M 28 p, gN M 28 q) :: (gN M 27 p, gN M 27 q) :: t := rfl
      rw [e9]
      refine ⟨?_, fun a ha => ?_, ?_⟩
      · simp; omega
      · rw [up_cell ha, up_cell ha, up_cell ha, up_cell ha]
      · have e : (((gN M 27 p, gN M 27 q) : Nat × Nat) :: t).length = t.length + 1 := rfl
        refine ⟨?_, ?_, ?_, ?_, stk_eq (fun i hi => ?_) hs⟩
        · rw [e, up_at (by omega), up_same]; show M 28 p = ((M 28 p).toNat : Int); omega
        · rw [e, up_same]; show M 28 q = ((M 28 q).toNat : Int); omega
        · rw [up_at (by omega), up_at (by omega), up_at (by omega), up_same]; show M 27 p = ((M 27 p).toNat : Int); omega
        · rw [up_at (by omega), up_at (by omega), up_same]; show M 27 q = ((M 27 q).toNat : Int); omega
        · rw [up_at (by omega), up_at (by omega), up_at (by omega), up_at (by omega)]
    · rw [if_neg k4]
      have h1 := a3 (by omega)
      have h2 := a5 (by omega)
      exact wp_T h1 (wp_T h2 (wp_some ⟨by simp, fun _ _ => rfl, hs⟩))
theorem Gc_rt {M : Mm} {n J : Nat} {ρ : Nat → Nat} {t cs : List (Nat × Nat)} (h : Gc M n J ρ t cs) {x : Nat} (hx : x < n) : ρ x < n ∧ ρ (ρ x) = ρ x := h.2.2.2.1 x hx
theorem Gc_fr {M M' : Mm} {n J : Nat} {ρ : Nat → Nat} {t cs : List (Nat × Nat)} (h : Gc M n J ρ t cs) (hf : frj M M' n) (hl : Lc M' n J ρ) : Gc M' n J ρ t cs := by
  obtain ⟨a, b, c, d⟩ := h
  refine ⟨GW_fr hf a hl, hl, c, ?_⟩
  rw [gN_fr (hf.1 26 (by decide) (by decide)), gN_fr (hf.1 27 (by decide) (by decide)), gN_fr (hf.1 28 (by decide) (by decide))]
  exact d
/-- what can't be joined, however it is tried -/
def noway (M : Mm) (n : Nat) (cs : List (Nat × Nat)) : Prop := ∀ E, clo n (gN M 26) (gN M 27) (gN M 28) E → (∀ p ∈ cs, E p.1 p.2) → clash n (gN M 26) E
theorem l79_ok {n R0 : Nat} {cs : List (Nat × Nat)} (x1 x2 : Int) (hR : R0 ≤ n) : ∀ (f : Nat) (M : Mm) (J : Nat) (ρ : Nat → Nat) (t : List (Nat × Nat)) (T : Nat), 2 * rc n ρ + t.length < f → Gc M n J ρ t cs → stk M 33 t → rc n ρ ≤ R0 → T + t.length ≤ 1 + 2 * (R0 - rc n ρ) → t.length ≤ 1 + (R0 - rc n ρ) →
    wp (l79 f 19 M x1 x2 ((2 * t.length : Nat) : Int) (T : Int)) (fun q => frj M q.2 n ∧ ((q.1 = 1 ∧ ∃ J' ρ', Gc q.2 n J' ρ' [] cs) ∨ (q.1 = 0 ∧ noway M n cs)))
  | 0, _, _, _, _, _, h, _, _, _, _, _ => absurd h (Nat.not_lt_zero _)
  | f + 1, M, J, ρ, [], T, hf, hG, hs, h1, h2, h3 => by
    rw [l79]
    exact wp_T (by simp) (wp_some ⟨frj_refl M n, Or.inl ⟨rfl, J, ρ, hG⟩⟩)
  | f + 1, M, J, ρ, (a, b) :: t, T, hf, hG, hs, h1, h2, h3 => by
    have hn := hG.1.2.2.1
    have el : ((a, b) :: t).length = t.length + 1 := rfl
    rw [el] at hf h2 h3
    have hab : a < n ∧ b < n := hG.2.2.2.2.2.2.2.1 _ List.mem_cons_self
    have hJ : J ≤ 2504 := by have := hG.2.2.1; omega
    rw [l79, el]
    refine wp_F (by omega) (wp_F (by omega) (wp_chk (by omega) ?_))
    rw [show ((2 * (t.length + 1) : Nat) : Int) + -2 = ((2 * t.length : Nat) : Int) by omega]
    rw [show (((2 * t.length : Nat) : Int)).toNat = 2 * t.length from Int.toNat_natCast _, show (((2 * t.length : Nat) : Int) + 1).toNat = 2 * t.length + 1 by omega]
    rw [hs.1]
    refine wp_do (f80_ok hn hJ hab.1 hG.2.1) ?_
    rintro ⟨v, M1⟩ ⟨e1, f1, l1⟩
    dsimp only at e1 f1 l1 ⊢
    subst e1
    refine wp_chk (by omega) ?_
    rw [f1.1 33 (by decide), hs.2.1]
    refine wp_do (f80_ok hn hJ hab.2 l1) ?_
    rintro ⟨v, M2⟩ ⟨e2, f2, l2⟩
    dsimp only at e2 f2 l2 ⊢
    subst e2
    have f3 := frj_of (fr29_trans f1 f2)
    have G2 := Gc_fr hG f3 l2
    have hra := Gc_rt hG hab.1
    have hrb := Gc_rt hG hab.2
    have hpos0 : 1 ≤ rc n ρ := cn_pos (u := ρ a) (by simp [hra.2]) hra.1
    have s2 : stk M2 33 t := by
      refine stk_eq (fun i hi => ?_) hs.2.2
      rw [f2.1 33 (by decide), f1.1 33 (by decide)]
    have m26 : M2 26 = M 26 := f3.1 26 (by decide) (by decide)
    have m27 : M2 27 = M 27 := f3.1 27 (by decide) (by decide)
    have m28 : M2 28 = M 28 := f3.1 28 (by decide) (by decide)
    have ta : (((ρ a : Nat) : Int)).toNat = ρ a := Int.toNat_natCast _
    have tb : (((ρ b : Nat) : Int)).toNat = ρ b := Int.toNat_natCast _
    rw [ta, tb]
    -- what follows a link
    have go : ∀ (M3 : Mm) (u w : Nat) (ps : List (Nat × Nat)), u < n → w < n → ρ u = u → ρ w = w → u ≠ w → ((ρ a = u ∧ ρ b = w) ∨ (ρ a = w ∧ ρ b = u)) → (M 26 u = 2 ∧ ps = [] ∨ M 26 u = M 26 w ∧ ¬ M 26 u = 2 ∧ ps = prs M u w) → (∀ a, a ≠ 33 → M3 a = (up M2 29 u (w : Int)) a) → stk M3 33 (ps ++ t) →
        wp (l79 f 19 M3 x1 x2 ((2 * (ps ++ t).length : Nat) : Int) ((T + 1 : Nat) : Int)) (fun q => frj M q.2 n ∧ ((q.1 = 1 ∧ ∃ J' ρ', Gc q.2 n J' ρ' [] cs) ∨ (q.1 = 0 ∧ noway M n cs))) := by
      intro M3 u w ps hu hw hru hrw hne hor hps h33 hst
      have hL := Lc_link l2 hu hw hru hrw hne
      have hrc := rc_link (n := n) hu hru hrw hne
      have hpos : 1 ≤ rc n (fun x => if ρ x = u then w else ρ x) := cn_pos (u := w) (by simp [hrw]) hw
      have F3 : frj M M3 n := by
        refine ⟨fun c c1 c2 => ?_, fun y hy => ?_⟩
        · rw [h33 c c2, up_cell c1]; exact f3.1 c c1 c2
        · rw [h33 29 (by decide), up_at (by omega)]; exact f3.2 y hy
      have L3 : Lc M3 n (J + 1) (fun x => if ρ x = u then w else ρ x) := by
        have e9 : M3 29 = (up M2 29 u (w : Int)) 29 := h33 29 (by decide)
        refine ⟨fun y hy => by rw [e9]; exact hL.1 y hy, fun y hy => ?_⟩
        rw [gN_fr e9]
        exact hL.2 y hy
      have p9 : ps.length ≤ 2 := by
        rcases hps with ⟨-, rfl⟩ | ⟨e, -, rfl⟩
        · simp
        · exact (prs_ok hG.1 hu hw e).2.2
      have kn : ∀ x, x < n → ((gN M 26 x : Nat) : Int) = M 26 x := fun x hx => by
        have := (hG.1.2.2.2 x hx).1
        unfold gN
        omega
      have U3 : Ui n (gN M 26) (gN M 27) (gN M 28) (fun x => if ρ x = u then w else ρ x) (ps ++ t) cs := by
        refine Ui_link hG.2.2.2 hor ?_ ?_ ?_
        · have := kn u hu
          have := kn w hw
          rcases hps with ⟨e, -⟩ | ⟨e, -, -⟩ <;> omega
        · rcases hps with ⟨e, rfl⟩ | ⟨e, -, rfl⟩
          · intro E _
            have := kn u hu
            simp
            intro q
            omega
          · exact (prs_ok hG.1 hu hw e).1
        · rcases hps with ⟨e, rfl⟩ | ⟨e, -, rfl⟩
          · intro p hp; cases hp
          · exact (prs_ok hG.1 hu hw e).2.1
      have G3 : Gc M3 n (J + 1) (fun x => if ρ x = u then w else ρ x) (ps ++ t) cs := by
        refine ⟨GW_fr F3 hG.1 L3, L3, by have := hG.2.2.1; omega, ?_⟩
        rw [gN_fr (F3.1 26 (by decide) (by decide)), gN_fr (F3.1 27 (by decide) (by decide)), gN_fr (F3.1 28 (by decide) (by decide))]
        exact U3
      have el2 : (ps ++ t).length = ps.length + t.length := List.length_append
      refine wp_mono (l79_ok x1 x2 hR f M3 (J + 1) _ (ps ++ t) (T + 1) (by omega) G3 hst (by omega) (by omega) (by omega)) ?_
      rintro q ⟨q1, q2⟩
      refine ⟨frj_trans F3 q1, q2.imp_right (fun z => ⟨z.1, ?_⟩)⟩
      have := z.2
      unfold noway at this ⊢
      rw [gN_fr (F3.1 26 (by decide) (by decide)), gN_fr (F3.1 27 (by decide) (by decide)), gN_fr (F3.1 28 (by decide) (by decide))] at this
      exact this
    have cT : ((T : Int) + 1) = ((T + 1 : Nat) : Int) := by omega
    refine wp_ite (fun hne => ?_) (fun heq => ?_)
    · have hne' : ρ a ≠ ρ b := fun q => hne (by rw [q])
      refine wp_chk (by omega) (wp_ite (fun k1 => ?_) (fun k1 => ?_))
      · refine wp_chk (by omega) (wp_ite (fun k2 => ?_) (fun k2 => ?_))
        · refine wp_ite (fun k3 => ?_) (fun k3 => ?_)
          · refine wp_chk (by omega) ?_
            rw [m26] at k1 k2 k3
            have gU : GW (up M2 29 (ρ a) ((ρ b : Nat) : Int)) n := GW_fr (M := M2) ⟨fun c c1 _ => up_cell c1, fun y hy => up_at (by omega)⟩ G2.1 (Lc_link l2 hra.1 hrb.1 hra.2 hrb.2 hne')
            have sU : stk (up M2 29 (ρ a) ((ρ b : Nat) : Int)) 33 t := stk_eq (fun i _ => by rw [up_cell (by decide)]) s2
            have e26 : (up M2 29 (ρ a) ((ρ b : Nat) : Int)) 26 = M 26 := by rw [up_cell (by decide)]; exact m26
            have epr : prs (up M2 29 (ρ a) ((ρ b : Nat) : Int)) (ρ a) (ρ b) = prs M (ρ a) (ρ b) := by
              unfold prs gN
              rw [e26, up_cell (show 27 ≠ 29 by decide), up_cell (show 28 ≠ 29 by decide), m27, m28]
            refine wp_do (f81_ok gU hra.1 hrb.1 (by rw [e26]; exact k3) (by omega) sU) ?_
            rintro ⟨v, M3⟩ ⟨g1, g2, g3⟩
            dsimp only at g1 g2 g3 ⊢
            subst g1
            rw [epr] at g3 ⊢
            rw [cT]
            exact wp_chk (by omega) (go M3 _ _ _ hra.1 hrb.1 hra.2 hrb.2 hne' (Or.inl ⟨rfl, rfl⟩) (Or.inr ⟨k3, k1, rfl⟩) g2 g3)
          · refine wp_some ⟨f3, Or.inr ⟨rfl, ?_⟩⟩
            rw [m26] at k1 k2 k3
            have ka := (hG.1.2.2.2 _ hra.1).1
            have kb := (hG.1.2.2.2 _ hrb.1).1
            refine Ui_fail hG.2.2.2 ?_ ?_ ?_
            · unfold gN; omega
            · unfold gN; omega
            · unfold gN; omega
        · rw [m26] at k2
          rw [cT]
          refine wp_chk (by omega) (wp_chk (by omega) ?_)
          exact go _ (ρ b) (ρ a) [] hrb.1 hra.1 hrb.2 hra.2 hne'.symm (Or.inr ⟨rfl, rfl⟩) (Or.inl ⟨Classical.byContradiction k2, rfl⟩) (fun _ _ => rfl) (stk_eq (fun i _ => by rw [up_cell (by decide)]) s2)
      · rw [m26] at k1
        rw [cT]
        refine wp_chk (by omega) (wp_chk (by omega) ?_)
        exact go _ (ρ a) (ρ b) [] hra.1 hrb.1 hra.2 hrb.2 hne' (Or.inl ⟨rfl, rfl⟩) (Or.inl ⟨Classical.byContradiction k1, rfl⟩) (fun _ _ => rfl) (stk_eq (fun i _ => by rw [up_cell (by decide)]) s2)
    · have heq' : ρ a = ρ b := by omega
      rw [cT]
      refine wp_chk (by omega) (wp_chk (by omega) ?_)
      have G3 : Gc M2 n J ρ t cs := ⟨G2.1, G2.2.1, G2.2.2.1, Ui_skip G2.2.2.2 heq'⟩
      refine wp_mono (l79_ok x1 x2 hR f M2 J ρ t (T + 1) (by omega) G3 s2 h1 (by omega) (by omega)) ?_
      rintro q ⟨q1, q2⟩
      refine ⟨frj_trans f3 q1, q2.imp_right (fun z => ⟨z.1, ?_⟩)⟩
      have := z.2
      unfold noway at this ⊢
      rw [gN_fr m26, gN_fr m27, gN_fr m28] at this
      exact this
theorem f79_ok {M : Mm} {n J x y : Nat} {ρ : Nat → Nat} {cs : List (Nat × Nat)} (h : Gc M n J ρ [] cs) (hx : x < n) (hy : y < n) : wp (f79 M (x : Int) (y : Int)) (fun q => frj M q.2 n ∧ ((q.1 = 1 ∧ ∃ J' ρ', Gc q.2 n J' ρ' [] ((x, y) :: cs)) ∨ (q.1 = 0 ∧ noway M n ((x, y) :: cs)))) := by
  have hn := h.1.2.2.1
  unfold f79
  have F : frj M (up (up M 33 (Int.toNat 0) (x : Int)) 33 (Int.toNat 1) (y : Int)) n := ⟨fun a h1 h2 => by rw [up_cell h2, up_cell h2], fun z hz => by rw [up_cell (by decide), up_cell (by decide)]⟩
  have e29 : (up (up M 33 (Int.toNat 0) (x : Int)) 33 (Int.toNat 1) (y : Int)) 29 = M 29 := by rw [up_cell (by decide), up_cell (by decide)]
  have L : Lc (up (up M 33 (Int.toNat 0) (x : Int)) 33 (Int.toNat 1) (y : Int)) n J ρ := by
    refine ⟨fun z hz => by rw [e29]; exact h.2.1.1 z hz, fun z hz => ?_⟩
    rw [gN_fr e29]
    exact h.2.1.2 z hz
  have G := Gc_fr h F L
  have G2 : Gc (up (up M 33 (Int.toNat 0) (x : Int)) 33 (Int.toNat 1) (y : Int)) n J ρ [(x, y)] ((x, y) :: cs) := ⟨G.1, G.2.1, G.2.2.1, Ui_ask G.2.2.2 hx hy⟩
  have hrc : rc n ρ ≤ n := cn_le _ n
  have hs : stk (up (up M 33 (Int.toNat 0) (x : Int)) 33 (Int.toNat 1) (y : Int)) 33 [(x, y)] := ⟨by rw [up_at (by decide)]; exact up_same _ _ _ _, up_same _ _ _ _, trivial⟩
  refine wp_mono (l79_ok (x : Int) (y : Int) (Nat.le_refl n) FU _ J ρ [(x, y)] 0 (by unfold FU; simp only [List.length_cons, List.length_nil]; omega) G2 hs hrc (by simp only [List.length_cons, List.length_nil]; omega) (by simp only [List.length_cons, List.length_nil]; omega)) ?_
  rintro q ⟨q1, q2⟩
  refine ⟨frj_trans F q1, q2.imp_right (fun z => ⟨z.1, ?_⟩)⟩
  have := z.2
  unfold noway at this ⊢
  rw [gN_fr (F.1 26 (by decide) (by decide)), gN_fr (F.1 27 (by decide) (by decide)), gN_fr (F.1 28 (by decide) (by decide))] at this
  exact this
