/-! Run: the other side's cells stay under 6000. The sum of it all. -/
def W2c (M : Mm) (dd : Nat → Bool) (n : Nat) : Nat := cn (fun i => decide (M 49 (5 * i) = 4) && (decide (M 49 (5 * i + 2) = 2) && ! dd i)) n
def F1c (M : Mm) (n : Nat) : Nat := cn (fun i => decide (M 49 (5 * i) = 4) && (decide (M 49 (5 * i + 1) = 7) && decide (M 49 (5 * i + 2) = 1))) n
def crA (M : Mm) (nu ep th : Nat → Nat) (k : Nat) : Nat := if M 51 (5 * k) = 0 then 1 else if M 51 (5 * k) = 1 then 2 else if M 51 (5 * k) = 3 then nu k + ep k + th k else 0
theorem mulA : ∀ D, D < 74 → D * (292 - 4 * D) + 884 ≤ 5996 + 6 * D := by decide
theorem mulB : ∀ D, D < 76 → D * (149 - 2 * D) ≤ 4000 := by decide
/-- a cell that is to be taken most often -/
theorem most (f : Nat → Nat) : ∀ n, ∃ D, (∀ c, c < n → f c ≤ D) ∧ (D = 0 ∨ ∃ c, c < n ∧ f c = D) := by
  intro n
  induction n with
  | zero => exact ⟨0, fun c hc => by omega, Or.inl rfl⟩
  | succ n ih =>
    obtain ⟨D, d1, d2⟩ := ih
    by_cases e : f n ≤ D
    · refine ⟨D, fun c hc => ?_, d2.imp id (fun ⟨c, c1, c2⟩ => ⟨c, by omega, c2⟩)⟩
      by_cases q : c = n
      · subst q; exact e
      · exact d1 c (by omega)
    · refine ⟨f n, fun c hc => ?_, Or.inr ⟨n, by omega, rfl⟩⟩
      by_cases q : c = n
      · subst q; exact Nat.le_refl _
      · have := d1 c (by omega)
        omega
section FIN
variable {M0 : Mm} {N0 : Nat} {G : Nat → UGt} {M Mr : Mm} {φ : Nat → Nat} {τ : Nat → Ty} {κ : Nat → Nat × Nat × Nat} {Es : Nat → Int → Ty} {n m0 nf ne : Nat} {w : Nat} {ρ nu ep en th : Nat → Nat} {dd : Nat → Bool}
theorem crF_le (w : Nat) : sm (crF M nu ep th) w ≤ sm (crA M nu ep th) w := sm_le (fun k _ => by
  unfold crF fF crA
  by_cases e : M 51 (5 * k) = 3
  · rw [if_pos e, if_neg (by omega), if_neg (by omega)]
    exact Nat.le_refl _
  · rw [if_neg e]
    exact Nat.zero_le _)
theorem crF_sum (w : Nat) : sm (crF M nu ep th) w = sm (fF M nu) w + sm (fF M ep) w + sm (fF M th) w := by
  rw [← sm_add, ← sm_add]
  refine sm_eq (fun k _ => ?_)
  unfold crF fF
  by_cases e : M 51 (5 * k) = 3
  · rw [if_pos e, if_pos e, if_pos e, if_pos e]
  · rw [if_neg e, if_neg e, if_neg e, if_neg e]
theorem fF_le (h : ∀ k, k < w → qF M k → nu k ≤ 1) : sm (fF M nu) w ≤ w := by
  have : sm (fF M nu) w ≤ sm (fun _ => 1) w := sm_le (fun k hk => by
    unfold fF
    by_cases e : M 51 (5 * k) = 3
    · rw [if_pos e]; exact h k hk e
    · rw [if_neg e]; omega)
  have z : ∀ w, sm (fun _ => 1) w = w := by
    intro w
    induction w with
    | zero => rfl
    | succ w ih => rw [sm_s, ih]
  rw [z] at this
  exact this
theorem bound {N a b c1 Nf e1 s m : Nat} (hC : ∀ i, i < n → COK M0 N0 G M Mr φ τ κ Es m0 nf ne i) (hr : ∀ k, k < w → qF M k → lF M k < n ∧ (rF M k : Int) ≤ lenC M (lF M k)) (hs : s ≤ 300) (h1 : ∀ c, HDs M w c ρ) (h2 : ∀ c, HTy M τ w c ρ) (h3 : HAd M τ w ρ ep) (h4 : HNu M w nu) (h5 : HNx M τ w ρ th dd) (h6 : HBt M w th) (h7 : RHO M w ρ) (h8 : HGd M n w ρ dd)
    (hnu : ∀ k, k < w → qF M k → nu k ≤ 1 ∧ en k ≤ ep k) (htk : ∀ k k', k < k' → k' < w → qF M k → qF M k' → (rF M k : Int) < lenC M (lF M k)) (he : 1 ≤ e1 ∨ ∀ k, k < w → qF M k → nu k = 1) (hal : ∀ k k', k < k' → k' < w → qF M k → qF M k' → a < Kc M n → 2 ≤ F1c M n ∨ (1 ≤ F1c M n ∧ ∃ x, x < n ∧ M 49 (5 * x) = 4 ∧ M 49 (5 * x + 1) = 4 ∧ M 49 (5 * x + 2) = 2 ∧ dd x = false))
    (le1 : 2 * W2c M dd n + 2 * F1c M n + 2 * c1 + a + Kc M n + sm (crA M nu ep th) w + Nf + e1 ≤ s) (le2 : N + b ≤ Kc M n + sm (fF M nu) w + sm (fF M en) w + Nf) (lg : n + w + sm (fF M en) w ≤ s + N) (mm : m = n + N + sm (fF M (rF M)) w) (hk : 0 < Kc M n → c1 = 1 ∧ 1 ≤ b) (hba : b ≤ a ∧ a ≤ Kc M n) : m < 6000 := by
  obtain ⟨D, d1, d2⟩ := most (fun c => cn (fun k => inB M k c) w) n
  have rm := Rm_le hC hr d1 (fun c hc z => cn_le1 (fun x y hxy hy px py => by
    obtain ⟨qx, j, jx, ex⟩ := inB_iff.mp px
    obtain ⟨qy, _⟩ := inB_iff.mp py
    obtain ⟨r1, r2⟩ := hr x (by omega) qx
    have tk := htk x y hxy hy qx qy
    have t1 := tl_lt hC r1 jx tk
    have t2 := tl_ok hC (rF M x) _ r1 tk
    rw [ex] at t1
    have := Kc_mono (M := M) (a := tlC M (rF M x) (lF M x) + 1) (b := c) (by omega)
    rw [Kc_s, if_pos t2.2.1] at this
    omega))
  have c0 := crF_le (M := M) (nu := nu) (ep := ep) (th := th) w
  have cs := crF_sum (M := M) (nu := nu) (ep := ep) (th := th) w
  have cw := fF_le (M := M) (nu := nu) (w := w) (fun k hk hq => (hnu k hk hq).1)
  have ce : sm (fF M en) w ≤ sm (fF M ep) w := sm_le (fun k hk => by
    unfold fF
    by_cases e : M 51 (5 * k) = 3
    · rw [if_pos e, if_pos e]; exact (hnu k hk e).2
    · rw [if_neg e, if_neg e]; omega)
  generalize hR : sm (fF M (rF M)) w = R at *
  generalize hA1 : sm (fF M nu) w = A1 at *
  generalize hA2 : sm (fF M en) w = A2 at *
  generalize hA3 : sm (fF M ep) w = A3 at *
  generalize hA4 : sm (fF M th) w = A4 at *
  generalize hA5 : sm (crF M nu ep th) w = A5 at *
  generalize hA6 : sm (crA M nu ep th) w = A6 at *
  by_cases k0 : Kc M n = 0
  · rw [if_pos k0] at rm
    omega
  · rw [if_neg k0] at rm
    obtain ⟨hc1, hb⟩ := hk (by omega)
    by_cases dl : D ≤ 1
    · have : D * (Kc M n - 1) ≤ 1 * (Kc M n - 1) := Nat.mul_le_mul_right _ dl
      omega
    · rcases d2 with d2 | ⟨c, hc, d2⟩
      · omega
      · obtain ⟨V, v1, v2⟩ := lev (h1 c) (h2 c) h3 h4 h5 h6 h7 h8 w (Nat.le_refl _)
        have d2 : cn (fun k => inB M k c) w = D := d2
        rw [d2] at v2
        rcases v2 with ⟨v2, _⟩ | ⟨p, p1, p2, p3, p4, p5⟩
        · omega
        · have cV : cn V n ≤ W2c M dd n := cn_sub (fun x _ hx => by
            obtain ⟨_, q2, _, q4, q5, _⟩ := v1 x hx
            rw [decide_eq_true q2, decide_eq_true q4, q5]
            rfl)
          have g1 := sm_ge1 (f := crF M nu ep th) p1
          have g2 := sm_ge1 (f := fF M th) p1
          have cp : crF M nu ep th p = nu p + ep p + th p := if_pos p2
          rw [hA5] at g1
          rw [hA4] at g2
          have x1 : 4 * D + 1 ≤ 2 * cn V n + A5 + 1 + e1 := by
            rcases he with z | z
            · omega
            · have := z p p1 p2
              omega
          by_cases ka : Kc M n = a
          · have hd : D < 76 := by omega
            have b1 := mulB D hd
            have b2 : D * (Kc M n - 1) ≤ D * (149 - 2 * D) := Nat.mul_le_mul_left _ (by omega)
            omega
          · have two : ∃ x y, x < y ∧ y < w ∧ qF M x ∧ qF M y := by
              by_cases q : ∃ x y, x < y ∧ y < w ∧ inB M x c = true ∧ inB M y c = true
              · obtain ⟨x, y, q1, q2, q3, q4⟩ := q
                exact ⟨x, y, q1, q2, (inB_iff.mp q3).1, (inB_iff.mp q4).1⟩
              · have := cn_le1 (p := fun k => inB M k c) (w := w) (fun x y h1 h2 h3 h4 => q ⟨x, y, h1, h2, h3, h4⟩)
                omega
            obtain ⟨x, y, q1, q2, q3, q4⟩ := two
            have U : 2 * cn V n + 4 ≤ 2 * W2c M dd n + 2 * F1c M n := by
              rcases hal x y q1 q2 q3 q4 (by omega) with z | ⟨z, u, z1, z2, z3, z4, z5⟩
              · omega
              · have : cn V n < W2c M dd n := cn_sub_lt (u := u) (by rw [decide_eq_true z2, decide_eq_true z4, z5]; rfl) (by
                  cases q : V u with
                  | false => rfl
                  | true =>
                    have := (v1 u q).2.2.1
                    omega) z1 (fun x _ hx => by
                  obtain ⟨_, q2, _, q4, q5, _⟩ := v1 x hx
                  rw [decide_eq_true q2, decide_eq_true q4, q5]
                  rfl)
                omega
            have hd : D < 74 := by omega
            have b1 := mulA D hd
            have b2 : D * (Kc M n - 1) ≤ D * (292 - 4 * D) := Nat.mul_le_mul_left _ (by omega)
            omega
end FIN
