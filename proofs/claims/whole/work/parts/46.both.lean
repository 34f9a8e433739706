/-! Class and reference side by side: Mc's graph and Mr's. -/
def adS (S : Nat → Nat → Prop) (c u : Nat) : Nat → Nat → Prop := fun x y => S x y ∨ (x = c ∧ y = u)
theorem adS_l {S : Nat → Nat → Prop} {c u x y : Nat} (h : S x y) : adS S c u x y := Or.inl h
theorem adS_r {S : Nat → Nat → Prop} {c u : Nat} : adS S c u c u := Or.inr ⟨rfl, rfl⟩
def Ssm (Mc Mr : Mm) (n n' : Nat) (S : Nat → Nat → Prop) : Prop := Ss n n' (gN Mc 26) (gN Mc 27) (gN Mc 28) (gN Mr 76) (gN Mr 77) (gN Mr 78) S
def Tw (Mc Mr : Mm) (S : Nat → Nat → Prop) (n n' : Nat) (cs : List (Nat × Nat)) : Prop := (Mc 26 0 = 0 ∧ Mc 26 1 = 1 ∧ (∀ c, 2 ≤ c → c < n → ∃ u, S c u) ∧ ∀ u, u < n' → (3 ≤ Mr 76 u ∧ Mr 76 u ≤ 4) → (∃ c, S c u) ∨ (Mr 76 u = 3 ∧ Mr 76 (Mr 77 u).toNat = 2)) ∧ ∃ J ρ J' ρ' cs', Gc Mc n J ρ [] cs ∧ Gr Mr n' J' ρ' [] cs' ∧ Ssm Mc Mr n n' S ∧ Sc S cs cs'
/-- more nodes, and one more pair -/
theorem Ss_rel {n n' m m' : Nat} {K A B K' A' B' K1 A1 B1 K1' A1' B1' : Nat → Nat} {S : Nat → Nat → Prop} {c u : Nat} (h : Ss n n' K A B K' A' B' S) (hn : n ≤ m) (hn' : n' ≤ m') (e : ∀ x, x < n → K1 x = K x ∧ A1 x = A x ∧ B1 x = B x) (e' : ∀ x, x < n' → K1' x = K' x ∧ A1' x = A' x ∧ B1' x = B' x)
    (hc : c < m) (hu : u < m') (f1 : (∀ v, ¬ S c v) ∨ K1 c ≤ 1) (f2 : ∀ d, ¬ S d u) (hk : K1 c = K1' u) (hA : (3 ≤ K1 c ∧ K1 c ≤ 4) → S (A1 c) (A1' u)) (hB : K1 c = 4 → S (B1 c) (B1' u)) : Ss m m' K1 A1 B1 K1' A1' B1' (adS S c u) := by
  obtain ⟨h1, h2, h3⟩ := h
  refine ⟨fun x y q => ?_, fun x y z q r => ?_, fun x y z q r => ?_⟩
  · rcases q with q | ⟨rfl, rfl⟩
    · obtain ⟨a1, a2, a3, a4, a5⟩ := h1 x y q
      rw [(e x a1).1, (e x a1).2.1, (e x a1).2.2, (e' y a2).1, (e' y a2).2.1, (e' y a2).2.2]
      exact ⟨by omega, by omega, a3, fun k => Or.inl (a4 k), fun k => Or.inl (a5 k)⟩
    · exact ⟨hc, hu, hk, fun k => Or.inl (hA k), fun k => Or.inl (hB k)⟩
  · rcases q with q | ⟨rfl, rfl⟩
    · rcases r with r | ⟨rfl, rfl⟩
      · rw [(e x (h1 x y q).1).1]
        exact h2 x y z q r
      · rcases f1 with f1 | f1
        · exact absurd q (f1 y)
        · exact Or.inr f1
    · rcases r with r | ⟨-, rfl⟩
      · rcases f1 with f1 | f1
        · exact absurd r (f1 z)
        · exact Or.inr f1
      · exact Or.inl rfl
  · rcases q with q | ⟨rfl, rfl⟩
    · rcases r with r | ⟨rfl, rfl⟩
      · exact h3 x y z q r
      · exact absurd q (f2 x)
    · rcases r with r | ⟨rfl, -⟩
      · exact absurd r (f2 y)
      · rfl
theorem Ss_more {n n' m m' : Nat} {K A B K' A' B' K1 A1 B1 K1' A1' B1' : Nat → Nat} {S : Nat → Nat → Prop} (h : Ss n n' K A B K' A' B' S) (hn : n ≤ m) (hn' : n' ≤ m') (e : ∀ x, x < n → K1 x = K x ∧ A1 x = A x ∧ B1 x = B x) (e' : ∀ x, x < n' → K1' x = K' x ∧ A1' x = A' x ∧ B1' x = B' x) : Ss m m' K1 A1 B1 K1' A1' B1' S := by
  obtain ⟨h1, h2, h3⟩ := h
  refine ⟨fun x y q => ?_, fun x y z q r => ?_, h3⟩
  · obtain ⟨a1, a2, a3, a4, a5⟩ := h1 x y q
    rw [(e x a1).1, (e x a1).2.1, (e x a1).2.2, (e' y a2).1, (e' y a2).2.1, (e' y a2).2.2]
    exact ⟨by omega, by omega, a3, a4, a5⟩
  · rw [(e x (h1 x y q).1).1]
    exact h2 x y z q r
theorem Sc_l {S S' : Nat → Nat → Prop} {cs cs' : List (Nat × Nat)} (h : Sc S cs cs') (k : ∀ x y, S x y → S' x y) : Sc S' cs cs' := by
  refine ⟨fun p hp => ?_, fun p hp => ?_⟩
  · obtain ⟨q, a, b, c⟩ := h.1 p hp
    exact ⟨q, a, k _ _ b, k _ _ c⟩
  · obtain ⟨q, a, b, c⟩ := h.2 p hp
    exact ⟨q, a, k _ _ b, k _ _ c⟩
theorem nnw_N {M M' : Mm} {n : Nat} (h : nnw M M' n) : ∀ x, x < n → gN M' 26 x = gN M 26 x ∧ gN M' 27 x = gN M 27 x ∧ gN M' 28 x = gN M 28 x := fun x hx => by
  obtain ⟨a, b, c, -⟩ := h.2.2 x hx
  unfold gN
  rw [a, b, c]
  exact ⟨rfl, rfl, rfl⟩
theorem nnr_N {M M' : Mm} {n : Nat} (h : nnr M M' n) : ∀ x, x < n → gN M' 76 x = gN M 76 x ∧ gN M' 77 x = gN M 77 x ∧ gN M' 78 x = gN M 78 x := fun x hx => by
  obtain ⟨a, b, c, -⟩ := h.2.2 x hx
  unfold gN
  rw [a, b, c]
  exact ⟨rfl, rfl, rfl⟩
theorem Tw_lt {Mc Mr : Mm} {S : Nat → Nat → Prop} {cs : List (Nat × Nat)} {n n' c u : Nat} (h : Tw Mc Mr S n n' cs) (q : S c u) : c < n ∧ u < n' := by
  obtain ⟨-, J, ρ, J', ρ', cs', -, -, s, -⟩ := h
  exact ⟨(s.1 c u q).1, (s.1 c u q).2.1⟩
/-- what the reference alone has stays so -/
theorem Jk_go {Mr Mr' : Mm} {S S' : Nat → Nat → Prop} {n' u : Nat} (g : GWr Mr n') (w : ∀ x, x < n' → Mr' 76 x = Mr 76 x ∧ Mr' 77 x = Mr 77 x) (sl : ∀ c u, S c u → S' c u) (hu : u < n') (h : (3 ≤ Mr 76 u ∧ Mr 76 u ≤ 4) → (∃ c, S c u) ∨ (Mr 76 u = 3 ∧ Mr 76 (Mr 77 u).toNat = 2)) (k : 3 ≤ Mr' 76 u ∧ Mr' 76 u ≤ 4) : (∃ c, S' c u) ∨ (Mr' 76 u = 3 ∧ Mr' 76 (Mr' 77 u).toNat = 2) := by
  obtain ⟨w1, w2⟩ := w u hu
  rw [w1] at k
  rcases h k with ⟨c, hc⟩ | ⟨h1, h2⟩
  · exact Or.inl ⟨c, sl c u hc⟩
  · have := (g.2.2 u hu).2.1 k
    rw [w1, w2, (w _ (show (Mr 77 u).toNat < n' by omega)).1]
    exact Or.inr ⟨h1, h2⟩
/-- the same node, here and there -/
theorem Tw_new {Mc Mr : Mm} {S : Nat → Nat → Prop} {cs : List (Nat × Nat)} {n n' : Nat} {k a b a' b' : Int} (h : Tw Mc Mr S n n' cs) (hn : n < 2504) (hn' : n' < 4000) (hk : 2 ≤ k ∧ k ≤ 5)
    (hA : (3 ≤ k ∧ k ≤ 4) → 0 ≤ a ∧ 0 ≤ a' ∧ S a.toNat a'.toNat) (hA' : ¬ (3 ≤ k ∧ k ≤ 4) → a = -1) (hB : k = 4 → 0 ≤ b ∧ 0 ≤ b' ∧ S b.toNat b'.toNat) (hB' : ¬ k = 4 → b = -1) :
    ∃ Mc' Mr', f74 Mc k a b = some ((n : Int), Mc') ∧ f214 Mr k a' b' = some ((n' : Int), Mr') ∧ Tw Mc' Mr' (adS S n n') (n + 1) (n' + 1) cs ∧ nnw Mc Mc' n ∧ nnr Mr Mr' n' ∧ (Mc' 26 n = k ∧ Mc' 27 n = a ∧ Mc' 28 n = b) := by
  have hlt := fun {c u} (q : S c u) => Tw_lt h q
  obtain ⟨h01, J, ρ, J', ρ', cs', g, g', s, sc⟩ := h
  obtain ⟨⟨v, Mc'⟩, e1, e2, w1, ⟨k1, k2, k3⟩, G1⟩ := f74_ok (k := k) (a := a) (b := b) g hn (by omega) ⟨fun q => by have := hA q; have := hlt this.2.2; omega, hA'⟩ ⟨fun q => by have := hB q; have := hlt this.2.2; omega, hB'⟩
  obtain ⟨⟨v', Mr'⟩, e1', e2', w1', ⟨k1', k2', k3'⟩, G1'⟩ := f214_ok (k := k) (a := a') (b := b') g' hn' (by omega) (fun q => by have := hA q; have := hlt this.2.2; omega) (fun q => by have := hB q; have := hlt this.2.2; omega)
  dsimp only at e2 w1 k1 k2 k3 G1 e2' w1' k1' k2' k3' G1'
  subst e2 e2'
  have h2 := g.1.2.1
  have x26 : gN Mc' 26 n = k.toNat := by show (Mc' 26 n).toNat = _; rw [k1]
  have x27 : gN Mc' 27 n = a.toNat := by show (Mc' 27 n).toNat = _; rw [k2]
  have x28 : gN Mc' 28 n = b.toNat := by show (Mc' 28 n).toNat = _; rw [k3]
  have y26 : gN Mr' 76 n' = k.toNat := by show (Mr' 76 n').toNat = _; rw [k1']
  have y27 : gN Mr' 77 n' = a'.toNat := by show (Mr' 77 n').toNat = _; rw [k2']
  have y28 : gN Mr' 78 n' = b'.toNat := by show (Mr' 78 n').toNat = _; rw [k3']
  refine ⟨Mc', Mr', e1, e1', ⟨⟨?_, ?_, fun c h1 h2 => ?_, fun u hu k => ?_⟩, J, _, J', _, cs', G1, G1', ?_, Sc_l sc (fun _ _ => adS_l)⟩, w1, w1', k1, k2, k3⟩
  · rw [(w1.2.2 0 (by omega)).1]; exact h01.1
  · rw [(w1.2.2 1 (by omega)).1]; exact h01.2.1
  · by_cases e9 : c = n
    · subst e9; exact ⟨_, adS_r⟩
    · obtain ⟨u, hu⟩ := h01.2.2.1 c h1 (by omega)
      exact ⟨u, adS_l hu⟩
  · by_cases e9 : u = n'
    · subst e9; exact Or.inl ⟨_, adS_r⟩
    · exact Jk_go g'.1 (fun x hx => ⟨(w1'.2.2 x hx).1, (w1'.2.2 x hx).2.1⟩) (fun _ _ => adS_l) (show u < n' by omega) (h01.2.2.2 u (by omega)) k
  · refine Ss_rel s (by omega) (by omega) (nnw_N w1) (nnr_N w1') (by omega) (by omega) (Or.inl (fun v q => ?_)) (fun d q => ?_) ?_ (fun q => ?_) (fun q => ?_)
    · have := hlt q; omega
    · have := hlt q; omega
    · rw [x26, y26]
    · rw [x27, y27]
      rw [x26] at q
      exact (hA (by omega)).2.2
    · rw [x28, y28]
      rw [x26] at q
      exact (hB (by omega)).2.2
/-- a number or a truth value of the reference -/
theorem Tw_int {Mc Mr : Mm} {S : Nat → Nat → Prop} {cs : List (Nat × Nat)} {n n' : Nat} {k : Nat} (h : Tw Mc Mr S n n' cs) (hn' : n' < 4000) (hk : k ≤ 1) (a' b' : Int) :
    ∃ Mr', f214 Mr (k : Int) a' b' = some ((n' : Int), Mr') ∧ Tw Mc Mr' (adS S k n') n (n' + 1) cs ∧ nnr Mr Mr' n' := by
  have hlt := fun {c u} (q : S c u) => Tw_lt h q
  obtain ⟨h01, J, ρ, J', ρ', cs', g, g', s, sc⟩ := h
  obtain ⟨⟨v', Mr'⟩, e1', e2', w1', ⟨k1', k2', k3'⟩, G1'⟩ := f214_ok (k := (k : Int)) (a := a') (b := b') g' hn' (by omega) (fun q => by omega) (fun q => by omega)
  dsimp only at e2' w1' k1' k2' k3' G1'
  subst e2'
  have h2 := g.1.2.1
  have x26 : gN Mc 26 k = k := by
    show (Mc 26 k).toNat = k
    rcases (show k = 0 ∨ k = 1 by omega) with rfl | rfl
    · rw [h01.1]; rfl
    · rw [h01.2.1]; rfl
  have y26 : gN Mr' 76 n' = k := by show (Mr' 76 n').toNat = _; rw [k1']; rfl
  refine ⟨Mr', e1', ⟨⟨h01.1, h01.2.1, fun c h1 h2 => (h01.2.2.1 c h1 h2).imp (fun _ => adS_l), fun u hu k9 => by
    by_cases e9 : u = n'
    · subst e9; rw [k1'] at k9; omega
    · exact Jk_go g'.1 (fun x hx => ⟨(w1'.2.2 x hx).1, (w1'.2.2 x hx).2.1⟩) (fun _ _ => adS_l) (show u < n' by omega) (h01.2.2.2 u (by omega)) k9⟩, J, _, J', _, cs', g, G1', ?_, Sc_l sc (fun _ _ => adS_l)⟩, w1'⟩
  refine Ss_rel s (Nat.le_refl _) (by omega) (fun _ _ => ⟨rfl, rfl, rfl⟩) (nnr_N w1') (by omega) (by omega) (Or.inr (by rw [x26]; exact hk)) (fun d q => ?_) ?_ (fun q => ?_) (fun q => ?_)
  · have := hlt q; omega
  · rw [x26, y26]
  · rw [x26] at q; omega
  · rw [x26] at q; omega
/-- a node that the reference alone has -/
theorem Tw_junk {Mc Mr : Mm} {S : Nat → Nat → Prop} {cs : List (Nat × Nat)} {n n' : Nat} {k a' b' : Int} (h : Tw Mc Mr S n n' cs) (hn' : n' < 4000) (hk : 0 ≤ k ∧ k ≤ 5) (ha : (3 ≤ k ∧ k ≤ 4) → 0 ≤ a' ∧ a' < (n' : Int)) (hb : k = 4 → 0 ≤ b' ∧ b' < (n' : Int)) (hj : k ≠ 4 ∧ (k = 3 → Mr 76 a'.toNat = 2)) :
    ∃ Mr', f214 Mr k a' b' = some ((n' : Int), Mr') ∧ Tw Mc Mr' S n (n' + 1) cs ∧ nnr Mr Mr' n' ∧ Mr' 76 n' = k := by
  obtain ⟨h01, J, ρ, J', ρ', cs', g, g', s, sc⟩ := h
  obtain ⟨⟨v', Mr'⟩, e1', e2', w1', ⟨k1', k2', k3'⟩, G1'⟩ := f214_ok (k := k) (a := a') (b := b') g' hn' hk ha hb
  dsimp only at e2' w1' k1' k2' k3' G1'
  subst e2'
  exact ⟨Mr', e1', ⟨⟨h01.1, h01.2.1, h01.2.2.1, fun u hu k9 => by
    by_cases e9 : u = n'
    · subst e9
      rw [k1'] at k9 ⊢
      have k3 : k = 3 := by omega
      have := ha (by omega)
      rw [k2', (w1'.2.2 a'.toNat (by omega)).1]
      exact Or.inr ⟨k3, hj.2 k3⟩
    · exact Jk_go g'.1 (fun x hx => ⟨(w1'.2.2 x hx).1, (w1'.2.2 x hx).2.1⟩) (fun _ _ q => q) (show u < n' by omega) (h01.2.2.2 u (by omega)) k9⟩, J, _, J', _, cs', g, G1', Ss_more s (Nat.le_refl _) (by omega) (fun _ _ => ⟨rfl, rfl, rfl⟩) (nnr_N w1'), sc⟩, w1', k1'⟩
/-- an open node of the class for one that the reference had already -/
theorem Tw_old {Mc Mr : Mm} {S : Nat → Nat → Prop} {cs : List (Nat × Nat)} {n n' u : Nat} (h : Tw Mc Mr S n n' cs) (hn : n < 2504) (hu : u < n') (hk : Mr 76 u = 2) (hf : ∀ d, ¬ S d u) :
    ∃ Mc', f74 Mc 2 (-1) (-1) = some ((n : Int), Mc') ∧ Tw Mc' Mr (adS S n u) (n + 1) n' cs ∧ nnw Mc Mc' n ∧ Mc' 26 n = 2 := by
  have hlt := fun {c u} (q : S c u) => Tw_lt h q
  obtain ⟨h01, J, ρ, J', ρ', cs', g, g', s, sc⟩ := h
  obtain ⟨⟨v, Mc'⟩, e1, e2, w1, ⟨k1, k2, k3⟩, G1⟩ := f74_ok (k := 2) (a := -1) (b := -1) g hn (by omega) ⟨fun q => by omega, fun _ => rfl⟩ ⟨fun q => by omega, fun _ => rfl⟩
  dsimp only at e2 w1 k1 k2 k3 G1
  subst e2
  have h2 := g.1.2.1
  have x26 : gN Mc' 26 n = 2 := by show (Mc' 26 n).toNat = _; rw [k1]; rfl
  have y26 : gN Mr 76 u = 2 := by show (Mr 76 u).toNat = _; rw [hk]; rfl
  refine ⟨Mc', e1, ⟨⟨?_, ?_, fun c h1 h2 => ?_, fun u hu k => Jk_go g'.1 (fun _ _ => ⟨rfl, rfl⟩) (fun _ _ => adS_l) hu (h01.2.2.2 u hu) k⟩, J, _, J', _, cs', G1, g', ?_, Sc_l sc (fun _ _ => adS_l)⟩, w1, k1⟩
  · rw [(w1.2.2 0 (by omega)).1]; exact h01.1
  · rw [(w1.2.2 1 (by omega)).1]; exact h01.2.1
  · by_cases e9 : c = n
    · subst e9; exact ⟨_, adS_r⟩
    · obtain ⟨u, hu⟩ := h01.2.2.1 c h1 (by omega)
      exact ⟨u, adS_l hu⟩
  · refine Ss_rel s (by omega) (Nat.le_refl _) (nnw_N w1) (fun _ _ => ⟨rfl, rfl, rfl⟩) (by omega) hu (Or.inl (fun v q => ?_)) hf ?_ (fun q => ?_) (fun q => ?_)
    · have := hlt q; omega
    · rw [x26, y26]
    · rw [x26] at q; omega
    · rw [x26] at q; omega
/-- joined here and there: both can, or both can't -/
theorem Tw_join {Mc Mr : Mm} {S : Nat → Nat → Prop} {cs : List (Nat × Nat)} {n n' x y u v : Nat} (h : Tw Mc Mr S n n' cs) (q1 : S x u) (q2 : S y v) :
    ∃ (b : Int) (Mc' Mr' : Mm), f79 Mc (x : Int) (y : Int) = some (b, Mc') ∧ f216 Mr (u : Int) (v : Int) = some (b, Mr') ∧ frj Mc Mc' n ∧ frr Mr Mr' n' ∧ ((b = 1 ∧ Tw Mc' Mr' S n n' ((x, y) :: cs)) ∨ b = 0) := by
  have l1 := Tw_lt h q1
  have l2 := Tw_lt h q2
  obtain ⟨h01, J, ρ, J', ρ', cs', g, g', s, sc⟩ := h
  obtain ⟨⟨b, Mc'⟩, e1, F, w⟩ := f79_ok g l1.1 l2.1
  obtain ⟨⟨b', Mr'⟩, e1', F', w'⟩ := f216_ok g' l1.2 l2.2
  dsimp only at F w F' w'
  have sc' : Sc S ((x, y) :: cs) ((u, v) :: cs') := by
    refine ⟨fun p hp => ?_, fun p hp => ?_⟩
    · rcases List.mem_cons.mp hp with rfl | hp
      · exact ⟨_, List.mem_cons_self, q1, q2⟩
      · obtain ⟨q, a, b, c⟩ := sc.1 p hp
        exact ⟨q, List.mem_cons_of_mem _ a, b, c⟩
    · rcases List.mem_cons.mp hp with rfl | hp
      · exact ⟨_, List.mem_cons_self, q1, q2⟩
      · obtain ⟨q, a, b, c⟩ := sc.2 p hp
        exact ⟨q, List.mem_cons_of_mem _ a, b, c⟩
  have x26 := gN_fr (F.1 26 (by decide) (by decide))
  have x27 := gN_fr (F.1 27 (by decide) (by decide))
  have x28 := gN_fr (F.1 28 (by decide) (by decide))
  have y26 := gN_fr (F'.1 76 (by decide) (by decide))
  have y27 := gN_fr (F'.1 77 (by decide) (by decide))
  have y28 := gN_fr (F'.1 78 (by decide) (by decide))
  have s' : Ssm Mc' Mr' n n' S := by
    unfold Ssm
    rw [x26, x27, x28, y26, y27, y28]
    exact s
  have s2 := s
  unfold Ssm at s2
  rcases w with ⟨rfl, J1, ρ1, G1⟩ | ⟨rfl, no⟩
  · rcases w' with ⟨rfl, J1', ρ1', G1'⟩ | ⟨rfl, no'⟩
    · refine ⟨1, Mc', Mr', e1, e1', F, F', Or.inl ⟨rfl, ⟨?_, ?_, h01.2.2.1, fun u hu k9 => Jk_go g'.1 (fun x _ => by rw [F'.1 76 (by decide) (by decide), F'.1 77 (by decide) (by decide)]; exact ⟨rfl, rfl⟩) (fun _ _ q => q) hu (h01.2.2.2 u hu) k9⟩, J1, ρ1, J1', ρ1', _, G1, G1', s', sc'⟩⟩
      · rw [F.1 26 (by decide) (by decide)]; exact h01.1
      · rw [F.1 26 (by decide) (by decide)]; exact h01.2.1
    · exfalso
      have G1 := G1.2.2.2
      rw [x26, x27, x28] at G1
      exact Er_no s2 G1 (no' _ (Er_clo s2 G1) (Er_cs sc' G1))
  · rcases w' with ⟨rfl, J1', ρ1', G1'⟩ | ⟨rfl, no'⟩
    · exfalso
      have G1' := G1'.2.2.2
      rw [y26, y27, y28] at G1'
      exact Ec_no s2 G1' (no _ (Ec_clo s2 G1') (Ec_cs sc' G1'))
    · exact ⟨0, Mc', Mr', e1, e1', F, F', Or.inr rfl⟩
