/-! Run: the other side's cells stay under 6000. What holds at every moment. -/
def wF2 (M : Mm) (x : Nat) : Prop := M 49 (5 * x) = 4 ∧ M 49 (5 * x + 1) = 7 ∧ M 49 (5 * x + 2) = 2
def wF1 (M : Mm) (x : Nat) : Prop := M 49 (5 * x) = 4 ∧ M 49 (5 * x + 1) = 7 ∧ M 49 (5 * x + 2) = 1
def wI2 (M : Mm) (x : Nat) : Prop := M 49 (5 * x) = 4 ∧ M 49 (5 * x + 1) = 4 ∧ M 49 (5 * x + 2) = 2
def wC1 (M : Mm) (x : Nat) : Prop := M 49 (5 * x) = 4 ∧ M 49 (5 * x + 1) = 6 ∧ M 49 (5 * x + 2) = 1
/-- the function of a fold in which something can happen -/
def gok (M : Mm) (g : Nat) : Prop := M 49 (5 * g) = 3 ∨ wI2 M g ∨ wF2 M g ∨ wF1 M g
def DDc (M : Mm) (n w : Nat) (dd : Nat → Bool) : Prop := (∀ i x, i < n → fld M i x → dd x = false) ∧ (∀ k x, k < w → rptr M k x → dd x = false) ∧ ∀ x, dd x = true → x < n ∧ M 49 (5 * x) = 4 ∧ M 49 (5 * x + 2) = 2
def CR (M : Mm) (n w : Nat) (Rg : Nat → Prop) (ρ σ lo : Nat → Nat) (dd : Nat → Bool) : Prop := ACC M n w ρ σ lo Rg ∧ LOF M w ρ lo ∧ RHO M w ρ ∧ DDc M n w dd
def FLG (M : Mm) (w : Nat) (nu ep en : Nat → Nat) : Prop := ∀ k, k < w → qF M k → nu k ≤ 1 ∧ ep k ≤ 1 ∧ en k ≤ ep k ∧ (en k = 1 → M 49 (5 * gF M k) ≠ 3)
def CC (M : Mm) (n m w s e1 e2 : Nat) (nu ep en th : Nat → Nat) (dd : Nat → Bool) (N a b c1 Nf : Nat) : Prop := FLG M w nu ep en ∧ 2 * W2c M dd n + 2 * F1c M n + 2 * c1 + a + Kc M n + sm (crA M nu ep th) w + Nf + e1 ≤ s ∧ N + b ≤ Kc M n + sm (fF M nu) w + sm (fF M en) w + Nf ∧ n + w + sm (fF M en) w + e2 ≤ s + N ∧ m = n + N + sm (fF M (rF M)) w ∧ (0 < Kc M n → c1 = 1 ∧ 1 ≤ b) ∧ (b ≤ a ∧ a ≤ Kc M n) ∧ (c1 = 1 ∨ ∀ i, i < n → ¬ wC1 M i)
def PHI (M : Mm) (w : Nat) (th : Nat → Nat) : Prop := ∀ k, k < w → qF M k → wF1 M (gF M k) → th k = 2
def GOK (M : Mm) (w : Nat) (ep : Nat → Nat) : Prop := ∀ k, k < w → qF M k → (ep k = 1 ∨ ∃ k', k < k' ∧ k' < w ∧ qF M k') → gok M (gF M k)
def F12 (M : Mm) (n : Nat) : Prop := ∀ x, x < n → wF2 M x → ∃ y, y < n ∧ wF1 M y ∧ M 49 (5 * y + 3) = M 49 (5 * x + 3)
def PRV (M : Mm) (n a : Nat) : Prop := a < Kc M n → ∃ y z : Nat, y < n ∧ z < n ∧ wF1 M y ∧ M 49 (5 * y + 3) = (z : Int) ∧ M 49 (5 * z) ≠ 3
def CTr (M : Mm) (τ : Nat → Ty) (n w : Nat) (ρ ep th : Nat → Nat) (dd : Nat → Bool) (a : Nat) : Prop := HAd M τ w ρ ep ∧ HNx M τ w ρ th dd ∧ HBt M w th ∧ PHI M w th ∧ GOK M w ep ∧ F12 M n ∧ PRV M n a
def SEC (M : Mm) (ω : Nat → Ty) (n w : Nat) : Prop := ∀ k, k < w → M 51 (5 * k) = 2 → 1 ≤ k ∧ qF M (k - 1) ∧ ω (k + 1) = tF (ω (k - 1)) (ω (k - 1)) ∧ 0 < Kc M n
def OCs (M : Mm) (ω : Nat → Ty) (w : Nat) (ρ nu ep : Nat → Nat) : Prop := ∀ k, qF M k → k + 1 < w → nu k = 1 ∧ (rF M k : Int) < lenC M (lF M k) ∧ (ep k = 1 ∨ qF M (k + 1) ∨ (M 51 (5 * (k + 1)) = 2 ∧ (w = k + 2 ∨ (qF M (k + 2) ∧ ρ (k + 2) = gF M k ∧ ∃ x y, ω (k + 2) = tF x y))))
def NUF (M : Mm) (ω : Nat → Ty) (w : Nat) (nu : Nat → Nat) : Prop := ∀ k, k < w → qF M k → nu k = 1 ∨ (rF M k : Int) = lenC M (lF M k) ∨ ∃ a, ω k = tL a
def CS (M : Mm) (ω : Nat → Ty) (n w : Nat) (ρ nu ep : Nat → Nat) : Prop := SEC M ω n w ∧ OCs M ω w ρ nu ep ∧ NUF M ω w nu
/-- the fold on top -/
def tpF (M : Mm) (w k : Nat) : Prop := k < w ∧ qF M k ∧ ∀ j, k < j → j < w → ¬ qF M j
def HH (M : Mm) (τ : Nat → Ty) (dd : Nat → Bool) (k v : Nat) : Prop := (∀ b, wF2 M v → τ v = tF (τ (lF M k)) b → wF2 M (gF M k) ∧ M 49 (5 * gF M k + 4) = (v : Int)) ∧ (¬ gok M (gF M k) → M 49 (5 * v) ≠ 3 ∧ ¬ wF2 M v) ∧ (dd v = true → (wF1 M (gF M k) ∧ wF2 M v) ∨ wI2 M v) ∧ M 49 (5 * gF M k) ≠ 3
section INV
variable (M : Mm) (τ ω : Nat → Ty) (n m w s : Nat)
def Gst (e1 e2 : Nat) (Rg : Nat → Prop) (ρ σ lo nu ep en th : Nat → Nat) (dd : Nat → Bool) (N a b c1 Nf : Nat) : Prop := CR M n w Rg ρ σ lo dd ∧ CC M n m w s e1 e2 nu ep en th dd N a b c1 Nf ∧ CTr M τ n w ρ ep th dd a ∧ CS M ω n w ρ nu ep
/-- a place is to be evaluated -/
def IE : Prop := ∃ (ρ σ lo nu ep en th : Nat → Nat) (dd : Nat → Bool) (N a b c1 Nf : Nat), Gst M τ ω n m w s 0 0 (fun x => M 47 12 = (x : Int)) ρ σ lo nu ep en th dd N a b c1 Nf ∧ (∀ k, tpF M w k → ep k = 1 ∧ nu k = 1 ∧ (rF M k : Int) < lenC M (lF M k)) ∧ ∀ x : Nat, M 47 12 = (x : Int) → dd x = false
/-- a value stands -/
def IV (v : Nat) : Prop := ∃ (ρ σ lo nu ep en th : Nat → Nat) (dd : Nat → Bool) (N a b c1 Nf : Nat), Gst M τ ω n m w s 1 0 (fun x => x = v) ρ σ lo nu ep en th dd N a b c1 Nf ∧ (∀ k, tpF M w k → (k + 1 = w → nu k = 1 ∨ (∃ a, ω k = tL a) ∨ ((rF M k : Int) = lenC M (lF M k) ∧ M 49 (5 * ρ k + 4) = (v : Int))) ∧ (k + 1 < w → ep k = 1 ∨ HH M τ dd k v)) ∧ (dd v = false ∨ ∃ k, k + 2 = w ∧ qF M k ∧ M 51 (5 * (k + 1)) = 2 ∧ ep k = 0)
/-- a call of an application, of a fold first, of a fold second -/
def IC (i j : Nat) : Prop := ∃ (ρ σ lo nu ep en th : Nat → Nat) (dd : Nat → Bool) (N a b c1 Nf o : Nat), Gst M τ ω n m w s (if o = 0 then 3 else 1) 1 (fun x => x = i ∨ x = j) ρ σ lo nu ep en th dd N a b c1 Nf ∧ dd j = false ∧
  ((o = 0 ∧ dd i = false ∧ ∀ k, tpF M w k → ep k = 1 ∧ nu k = 1 ∧ (rF M k : Int) < lenC M (lF M k)) ∨
   (o = 1 ∧ dd i = false ∧ 0 < Kc M n ∧ ∃ k, k + 2 = w ∧ qF M k ∧ M 51 (5 * (k + 1)) = 2 ∧ nu k = 1 ∧ ep k = 0 ∧ (rF M k : Int) < lenC M (lF M k) ∧ gF M k = i ∧ τ (lF M k) = tL (τ j) ∧ τ i = tF (τ j) (tF (ω k) (ω k))) ∨
   (o = 2 ∧ 0 < Kc M n ∧ ∃ k, k + 1 = w ∧ qF M k ∧ nu k = 1 ∧ (rF M k : Int) < lenC M (lF M k) ∧ (ep k = 1 ∨ HH M τ dd k i) ∧ (dd i = false ∨ ep k = 0) ∧ τ i = tF (ω k) (ω k)))
end INV
def Pc : PrT := fun ph Mc τ ω n m w s g z l r => m < 6000 ∧ ((ph = 0 ∧ IE Mc τ ω n m w s) ∨ (ph = 1 ∧ ∃ v : Nat, Mc 47 14 = (v : Int) ∧ IV Mc τ ω n m w s v) ∨ (ph = 2 ∧ IC Mc τ ω n m w s g z) ∨ (ph = 3 ∧ IV (pw Mc w 3 (g : Int) (l : Int) (r : Int) (Mc 51 (5 * w + 4))) τ ω n m (w + 1) s z))
section USE2
variable {M0 R0 : Mm} {N0 NT : Nat} {G : Nat → UGt} {Mc Mr : Mm} {φ : Nat → Nat} {τ : Nat → Ty} {κ : Nat → Nat × Nat × Nat} {Es : Nat → Int → Ty} {n m nf ne : Nat} {ω : Nat → Ty} {w s lim : Nat}
/-- rows of folds, as their types say -/
def WFr (M : Mm) (τ ω : Nat → Ty) (n w : Nat) : Prop := ∀ k, k < w → qF M k → gF M k < n ∧ lF M k < n ∧ M 51 (5 * k + 1) = (gF M k : Int) ∧ M 51 (5 * k + 2) = (lF M k : Int) ∧ M 51 (5 * k + 3) = (rF M k : Int) ∧ (rF M k : Int) ≤ lenC M (lF M k) ∧ ∃ a, τ (gF M k) = tF a (tF (ω k) (ω k)) ∧ τ (lF M k) = tL a
theorem WFr_of (sc : Sj M0 R0 N0 NT G Mc Mr φ τ κ Es n m nf ne ω w s lim) : WFr Mc τ ω n w := by
  intro k hk hF
  unfold qF at hF
  rcases sc.2.2.2 k hk with ⟨a, _⟩ | ⟨a, _⟩ | ⟨a, _⟩ | ⟨a, b, i, l, r, c1, c2, c3, c4, c5, c6, c7, ⟨x, c8, c9⟩, d1, d2⟩
  · omega
  · omega
  · omega
  · have e1 : gF Mc k = i := by unfold gF; rw [c3, Int.toNat_natCast]
    have e2 : lF Mc k = l := by unfold lF; rw [c4, Int.toNat_natCast]
    have e3 : rF Mc k = r := by unfold rF; rw [c5, Int.toNat_natCast]
    rw [e1, e2, e3]
    exact ⟨c1, c2, c3, c4, c5, d2, x, c8, c9⟩
/-- the type of what was called as a fold began -/
theorem rho_ty {M : Mm} {k : Nat} {ρ : Nat → Nat} (hC : ∀ i, i < n → COK M0 N0 G M Mr φ τ κ Es m nf ne i) (wf : WFr M τ ω n w) (hR : RHO M w ρ) (hk : k < w) (hF : qF M k) (hρ : ρ k < n) : τ (ρ k) = tF (τ (lF M k)) (ω k) := by
  obtain ⟨g1, g2, g3, g4, g5, g6, a, g7, g8⟩ := wf k hk hF
  obtain ⟨r1, r2, r3, r4⟩ := hR k hk hF
  obtain ⟨_, _, k', _, q1, _, q⟩ := COK_4 (hC _ hρ) r1
  rcases q with ⟨q, _⟩ | ⟨x, _, q, _⟩ | ⟨x, y, _, _, _, _, _, c3, _, c5, _, c7⟩
  · omega
  · omega
  · obtain rfl : k' = 7 := by omega
    obtain ⟨a', b', e⟩ := (PTy_k c7).2.2.2.2 rfl
    obtain ⟨e1, ea⟩ := tF_inj e
    obtain ⟨e2, eb⟩ := tF_inj ea
    obtain rfl : x = gF M k := by omega
    rw [g7] at e1
    obtain ⟨e3, e4⟩ := tF_inj e1
    obtain ⟨e5, _⟩ := tF_inj e4
    rw [eb, g8, e3, e5]
/-- the bound, out of all that -/
theorem fin_of {M : Mm} {s' e1 e2 : Nat} {Rg : Nat → Prop} {ρ σ lo nu ep en th : Nat → Nat} {dd : Nat → Bool} {N a b c1 Nf m' : Nat} (hC : ∀ i, i < n → COK M0 N0 G M Mr φ τ κ Es m nf ne i) (wf : WFr M τ ω n w) (hs : s' ≤ 300) (g : Gst M τ ω n m' w s' e1 e2 Rg ρ σ lo nu ep en th dd N a b c1 Nf) (he : 1 ≤ e1 ∨ ∀ k, tpF M w k → nu k = 1) : m' < 6000 := by
  obtain ⟨⟨r1, r2, r3, r4⟩, ⟨f1, f2, f3, f4, f5, f6, f7, f8⟩, ⟨t1, t2, t3, t4, t5, t6, t7⟩, ⟨s1, s2, s3⟩⟩ := g
  have rn : ∀ k, k < w → qF M k → ρ k < n := fun k hk hF => by have := (r1 k hk hF).1; omega
  have hr : ∀ k, k < w → qF M k → lF M k < n ∧ (rF M k : Int) ≤ lenC M (lF M k) := fun k hk hF => by
    obtain ⟨g1, g2, g3, g4, g5, g6, _⟩ := wf k hk hF
    exact ⟨g2, g6⟩
  have nuT : ∀ k k', k < k' → k' < w → qF M k → qF M k' → nu k = 1 := fun k k' h1 h2 h3 _ => (s2 k h3 (by omega)).1
  have ty : ∀ k, k < w → qF M k → ∃ b, τ (ρ k) = tF (τ (lF M k)) b := fun k hk hF => ⟨_, rho_ty hC wf r3 hk hF (rn k hk hF)⟩
  refine bound (c1 := c1) (a := a) (b := b) (N := N) (Nf := Nf) (e1 := e1) (en := en) hC hr hs (fun c k k' h1 h2 h3 h4 h5 h6 => ?_) (fun c k hk hF => ⟨fun ⟨j, j1, j2⟩ => ?_, ty k hk hF, ?_⟩) t1 nuT t2 t3 r3 (fun k hk hF => ⟨rn k hk hF, ?_, ?_⟩) (fun k hk hF => ⟨(f1 k hk hF).1, (f1 k hk hF).2.2.1⟩) (fun k k' h1 h2 h3 h4 => (s2 k h3 (by omega)).2.1) ?_ (fun k k' h1 h2 h3 h4 h5 => ?_) f2 f3 (by omega) f5 f6 f7
  · exact rho_ne hC r1 r2 (fun k hk hF => by
      obtain ⟨g1, g2, g3, g4, g5, g6, _⟩ := wf k hk hF
      exact ⟨g2, g6, g4⟩) h1 h2 h3 h4 h5 h6
  · obtain ⟨q1, q2⟩ := hr k hk hF
    rw [← j2]
    exact (tl_ok hC j _ q1 (by omega)).2.2.2.symm
  · obtain ⟨g1, g2, g3, g4, g5, g6, a, g7, g8⟩ := wf k hk hF
    exact ⟨_, _, g7, g8⟩
  · exact (wf k hk hF).1
  · obtain ⟨g1, g2, g3, _⟩ := wf k hk hF
    exact r4.2.1 k _ hk (Or.inr (Or.inr ⟨hF, Or.inl g3⟩))
  · rcases he with z | z
    · exact Or.inl z
    · refine Or.inr (fun k hk hF => ?_)
      by_cases q : ∃ j, k < j ∧ j < w ∧ qF M j
      · obtain ⟨j, q1, q2, q3⟩ := q
        exact nuT k j q1 q2 hF q3
      · exact z k ⟨hk, hF, fun j h1 h2 h3 => q ⟨j, h1, h2, h3⟩⟩
  · -- another FOLD cell of one argument
    obtain ⟨y, z, y1, z1, y2, y3, y4⟩ := t7 h5
    have hp : ∀ x, wF1 M x → (decide (M 49 (5 * x) = 4) && (decide (M 49 (5 * x + 1) = 7) && decide (M 49 (5 * x + 2) = 1))) = true := fun x hx => by
      rw [decide_eq_true hx.1, decide_eq_true hx.2.1, decide_eq_true hx.2.2]; rfl
    have two : ∀ x, x < n → wF1 M x → x ≠ y → 2 ≤ F1c M n := fun x hx h1 h2 => by
      have l1 := cn_pos (p := fun i => (decide (M 49 (5 * i) = 4) && (decide (M 49 (5 * i + 1) = 7) && decide (M 49 (5 * i + 2) = 1))) && ! (i == y)) (u := x) (by
        show ((decide (M 49 (5 * x) = 4) && (decide (M 49 (5 * x + 1) = 7) && decide (M 49 (5 * x + 2) = 1))) && ! (x == y)) = true
        rw [hp x h1, show (x == y) = false from decide_eq_false h2]; rfl) hx
      have l2 : cn (fun i => (decide (M 49 (5 * i) = 4) && (decide (M 49 (5 * i + 1) = 7) && decide (M 49 (5 * i + 2) = 1))) && ! (i == y)) n < F1c M n := cn_sub_lt (u := y) (hp y y2) (by
        show ((decide (M 49 (5 * y) = 4) && (decide (M 49 (5 * y + 1) = 7) && decide (M 49 (5 * y + 2) = 1))) && ! (y == y)) = false
        rw [beq_self_eq_true]; exact Bool.and_false _) y1 (fun i _ hi => (Bool.and_eq_true_iff.mp hi).1)
      omega
    obtain ⟨g1, g2, g3, g4, _⟩ := wf k (by omega) h3
    obtain ⟨ro1, ro2, ro3, ro4⟩ := r3 k (by omega) h3
    obtain ⟨x, x1, x2, x3⟩ := t6 (ρ k) (rn k (by omega) h3) ⟨ro1, ro2, ro3⟩
    rw [ro4, g3] at x3
    rcases t5 k (by omega) h3 (Or.inr ⟨k', h1, h2, h4⟩) with q | q | q | q
    · exact Or.inl (two x x1 x2 (fun e => by
        subst e
        rw [x3] at y3
        obtain rfl : gF M k = z := by omega
        exact y4 q))
    · refine Or.inr ⟨cn_pos (hp y y2) y1, gF M k, g1, q.1, q.2.1, q.2.2, r4.2.1 k _ (by omega) (Or.inr (Or.inr ⟨h3, Or.inl g3⟩))⟩
    · obtain ⟨x', x1', x2', x3'⟩ := t6 (gF M k) g1 q
      by_cases e : x = y
      · refine Or.inl (two x' x1' x2' (fun e2 => ?_))
        subst e
        subst e2
        rw [x3] at x3'
        obtain ⟨f, hf1, hf2⟩ : ∃ f : Nat, f < gF M k ∧ M 49 (5 * gF M k + 3) = (f : Int) := by
          obtain ⟨_, _, k', _, q1, _, qq⟩ := COK_4 (hC _ g1) q.1
          rcases qq with ⟨qq, _⟩ | ⟨x, _, qq, _⟩ | ⟨x, y, c0, _, _, _, _, c3, _⟩
          · have := q.2.2; omega
          · have := q.2.2; omega
          · exact ⟨x, c0, c3⟩
        omega
      · exact Or.inl (two x x1 x2 e)
    · by_cases e : gF M k = y
      · refine Or.inl (two x x1 x2 (fun e2 => ?_))
        obtain ⟨_, _, k', _, q1, _, qq⟩ := COK_4 (hC _ x1) x2.1
        rcases qq with ⟨qq, _⟩ | ⟨x', c0, qq, _, c3, _⟩ | ⟨x', y', c0, _, _, qq, _⟩
        · have := x2.2.2; omega
        · omega
        · have := x2.2.2; omega
      · exact Or.inl (two (gF M k) g1 q e)
end USE2
