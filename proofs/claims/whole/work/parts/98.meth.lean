/-! A method of an instance, looked at. -/
/-- frames -/
def MFc (M M' : Mm) (un : Nat) : Prop := (∀ a, (a < 24 ∧ a ≠ 23) ∨ 47 ≤ a → M' a = M a) ∧ ∀ i, i < 480 * un ∨ 480 * un + 480 ≤ i → M' 23 i = M 23 i
def MFr (M M' : Mm) (un : Nat) : Prop := (∀ a, a < 53 ∨ (54 ≤ a ∧ a ≤ 71) ∨ 94 ≤ a → M' a = M a) ∧ (∀ j, (j < 28 ∧ j ≠ 24) ∨ 53 ≤ j → M' 53 j = M 53 j) ∧ (∀ i, i < 480 * un ∨ 480 * un + 480 ≤ i → M' 72 i = M 72 i) ∧ Gt M M'
theorem Gt_trans {M M1 M2 : Mm} (a : Gt M M1) (b : Gt M1 M2) : Gt M M2 := ⟨Int.le_trans a.1 b.1, fun t ht => by have q := a.2 t ht; have q2 := b.2 t (by have := a.1; omega); exact ⟨q2.1.trans q.1, q2.2.1.trans q.2.1, q2.2.2.trans q.2.2⟩⟩
theorem MFr_trans {M M1 M2 : Mm} {un : Nat} (a : MFr M M1 un) (b : MFr M1 M2 un) : MFr M M2 un := ⟨fun c h => (b.1 c h).trans (a.1 c h), fun j h => (b.2.1 j h).trans (a.2.1 j h), fun i h => (b.2.2.1 i h).trans (a.2.2.1 i h), Gt_trans a.2.2.2 b.2.2.2⟩
theorem MFc_trans {M M1 M2 : Mm} {un : Nat} (a : MFc M M1 un) (b : MFc M1 M2 un) : MFc M M2 un := ⟨fun c h => (b.1 c h).trans (a.1 c h), fun i h => (b.2 i h).trans (a.2 i h)⟩
/-- work that leaves all tables -/
def WkS (M M' : Mm) : Prop := (∀ a, a < 53 ∨ (54 ≤ a ∧ a ≤ 75) ∨ 94 ≤ a → M' a = M a) ∧ ∀ j, j < 28 ∨ 53 ≤ j → M' 53 j = M 53 j
theorem WkS_trans {M M1 M2 : Mm} (a : WkS M M1) (b : WkS M1 M2) : WkS M M2 := ⟨fun c h => (b.1 c h).trans (a.1 c h), fun k h => (b.2 k h).trans (a.2 k h)⟩
theorem WkS_M {M M' : Mm} (un : Nat) (h : WkS M M') : MFr M M' un := ⟨fun a ha => h.1 a (by omega), fun j hj => h.2 j (by omega), fun i _ => by rw [h.1 72 (by omega)], Gt_fr (h.2 24 (by omega)) ⟨h.1 73 (by omega), h.1 74 (by omega), h.1 75 (by omega)⟩⟩
theorem WkC_M {M M' : Mm} (un : Nat) (h : WkC M M') : MFc M M' un := ⟨fun a ha => h a (by omega), fun i _ => by rw [h 23 (by omega)]⟩
/-- typing stays, with more nodes -/
theorem PT_more {Mc Mr Nc Nr : Mm} {S S1 : Nat → Nat → Prop} {cs cs1 : List (Nat × Nat)} {n np : Nat} (g : GW Mc n) (hcs : ∀ z ∈ cs, z.1 < n ∧ z.2 < n) (h0 : ∀ a, a < 25 → Nc a = Mc a) (h34 : ∀ a, 34 ≤ a → a ≤ 37 → Nc a = Mc a) (h39 : Nc 39 = Mc 39) (h38 : ∀ i, i < 480 → Nc 38 i = Mc 38 i) (hC : ∀ x, x < n → Nc 26 x = Mc 26 x ∧ Nc 27 x = Mc 27 x ∧ Nc 28 x = Mc 28 x) (hs : ∀ z ∈ cs, z ∈ cs1) (sl : ∀ c u, S c u → S1 c u) (r : ∀ a, (54 ≤ a ∧ a ≤ 75) ∨ (84 ≤ a ∧ a ≤ 91) → Nr a = Mr a) (r53 : ∀ k, k < 28 ∨ k = 43 ∨ k = 46 → Nr 53 k = Mr 53 k) (h : PT Mc Mr S cs np) : PT Nc Nr S1 cs1 np := by
  obtain ⟨st, ly, nd, fl, wt, pl⟩ := h
  have ly0 := ly
  have st0 := st
  obtain ⟨tC, tR, tV, eC, eR, clT, dfT⟩ := st
  have n60 := ly.1
  refine ⟨Stat_fr (fun a ha => h0 a (by omega)) (fun a b1 b2 => r a (by omega)) (fun k hk => r53 k (by omega)) st0, LayP_fr (fun a ha => h0 a (by omega)) ⟨h0 24 (by omega), h34 34 (by omega) (by omega), h34 35 (by omega) (by omega)⟩ ⟨r 84 (by omega), r 86 (by omega), r53 46 (by omega)⟩ ly, fun q hq => ?_, fun q hq => ?_, ?_, fun q hq => ?_⟩
  · obtain ⟨a, u, b, c⟩ := nd q hq
    exact ⟨by rw [h34 36 (by omega) (by omega)]; exact a, u, by rw [r 85 (by omega)]; exact b, sl _ _ c⟩
  · refine ⟨fun hq' => ?_, fun z => by omega⟩
    obtain ⟨kk, f1, f2, f3, f4, f5⟩ := (fl q hq).1 hq'
    refine ⟨kk, f1, by rw [h39]; exact f2, by rw [r 89 (by omega)]; exact f3, fq_fr (fun a ha => h0 a (by omega)) (h34 34 (by omega) (by omega)) f4, fun v hv => ?_⟩
    obtain ⟨c, u, g1, g2, g3⟩ := f5 v hv
    exact ⟨c, u, by rw [h38 _ (by omega)]; exact g1, by rw [r 88 (by omega)]; exact g2, sl _ _ g3⟩
  · have ee : ∀ q, eAt Nc q = eAt Mc q := fun q => by unfold eAt; rw [h34 34 (by omega) (by omega)]
    refine ⟨by rw [r53 43 (by omega), wsQ_fr (fun a ha => h0 a (by omega)) (h34 34 (by omega) (by omega))]; exact wt.1, fun q hq => ?_⟩
    rw [ee, wsQ_fr (fun a ha => h0 a (by omega)) (h34 34 (by omega) (by omega)), h0 13 (by omega), h0 14 (by omega), h0 20 (by omega), h0 21 (by omega), r 88 (by omega), r 90 (by omega), r 91 (by omega)]
    exact wt.2 q hq
  · obtain ⟨x1, x2⟩ := LayP_e ly0 hq
    have ec := eC.2 (eAt Mc q) x2
    refine PlQ_g (p := np) (np := np) g hcs tC (fun _ _ k5 => ?_) (fun k6 => ?_) (Lay35 ly0) hq hq (fun a ha => h0 a (by omega)) ⟨h34 34 (by omega) (by omega), h34 35 (by omega) (by omega)⟩ (fun x _ => by rw [h34 37 (by omega) (by omega)]) (fun v hv => h38 _ (by omega)) hC hs (pl q hq)
    · have ex := ec.2.2.2.2.2.2.1 k5
      have cl := (clT.2 (Mc 14 (eAt Mc q)).toNat (by omega)).2 (Mc 15 (eAt Mc q)).toNat (by omega)
      omega
    · have ex := ec.2.2.2.2.2.2.2.1 k6
      have d := dfT.2 (Mc 14 (eAt Mc q)).toNat (by omega)
      omega
/-- the node of what an instance is for, here and there -/
theorem shape_ok {Mc Mr : Mm} {S : Nat → Nat → Prop} {n n' s : Nat} {cs : List (Nat × Nat)} (h : Tw Mc Mr S n n' cs) (hn : n + 2 < 2504) (hn' : n' + 2 < 4000) (hs : s < 3) :
    ∃ (y v : Nat) (Mc' Mr' : Mm) (S' : Nat → Nat → Prop) (m m' : Nat), f95 Mc (s : Int) = some ((y : Int), Mc') ∧ (if ¬ (s : Int) = 2 then f214 Mr (s : Int) 0 0 else (f214 Mr 5 0 0).bind (fun z => f214 z.2 3 z.1 0)) = some ((v : Int), Mr') ∧ Tw Mc' Mr' S' m m' cs ∧ S' y v ∧ (n ≤ m ∧ m ≤ n + 2 ∧ n' ≤ m' ∧ m' ≤ n' + 2) ∧ (∀ x z, S x z → S' x z) ∧ Cg Mc Mc' n ∧ Rg Mr Mr' n' ∧ ((s < 2 ∧ y = s) ∨ (s = 2 ∧ ∃ a, isL Mc' y a ∧ Mc' 26 a = 5 ∧ a < m ∧ y < m)) := by
  by_cases e : s = 2
  · subst e
    obtain ⟨C1, R1, a1, a2, a3, a4, a5, a6⟩ := Tw_new (k := 5) (a := -1) (b := -1) (a' := 0) (b' := 0) h (by omega) (by omega) (by omega) (fun z => by omega) (fun _ => rfl) (fun z => by omega) (fun _ => rfl)
    obtain ⟨C2, R2, b1, b2, b3, b4, b5, b6⟩ := Tw_new (k := 3) (a := (n : Int)) (b := -1) (a' := (n' : Int)) (b' := 0) a3 (by omega) (by omega) (by omega) (fun _ => ⟨by omega, by omega, adS_r⟩) (fun z => by omega) (fun z => by omega) (fun _ => rfl)
    refine ⟨n + 1, n' + 1, C2, R2, _, n + 1 + 1, n' + 1 + 1, ?_, ?_, b3, adS_r, by omega, fun x z q => adS_l (adS_l q), Cg_trans (Cg_nn a4) (Cg_nn b4) (by omega), Rg_trans (Rg_nn a5) (Rg_nn b5) (by omega), Or.inr ⟨rfl, n, ⟨b6.1, b6.2.1⟩, ?_, by omega, by omega⟩⟩
    · unfold f95
      rw [if_pos (by decide), a1, bs_]
      dsimp only
      rw [b1, bs_]
    · rw [if_neg (fun z => z rfl), a2, bs_]
      exact b2
    · rw [(b4.2.2 n (by omega)).1]
      exact a6.1
  · obtain ⟨R1, a1, a2, a3⟩ := Tw_int (k := s) h (by omega) (by omega) 0 0
    refine ⟨s, n', Mc, R1, _, n, n' + 1, ?_, ?_, a2, adS_r, by omega, fun x z q => adS_l q, Cg_refl _ _, Rg_nn a3, Or.inl ⟨by omega, rfl⟩⟩
    · unfold f95
      rw [if_neg (by omega)]
    · rw [if_pos (by omega)]
      exact a1
theorem l239_41 {c s m e a b : Int} (d : Nat) : ∀ (x f : Nat) (R : Mm), x + d = 10 → d < f → (2 ≤ x) → ∃ R' : Mm, l239 f 41 R c s m e b a (x : Int) = l239 (f - d) 41 R' c s m e b a 10 ∧ (∀ z, z ≠ 83 → R' z = R z) ∧ (∀ j, x ≤ j → j < 10 → R' 83 j = a) ∧ ∀ j, j < x → R' 83 j = R 83 j := by
  induction d with
  | zero =>
    intro x f R hx hf h2
    obtain rfl : x = 10 := by omega
    exact ⟨R, rfl, fun _ _ => rfl, fun j h1 h2 => by omega, fun _ _ => rfl⟩
  | succ d ih =>
    intro x f R hx hf h2
    obtain ⟨f, rfl⟩ : ∃ f', f = f' + 1 := ⟨f - 1, by omega⟩
    obtain ⟨R', z1, z2, z3, z4⟩ := ih (x + 1) f (up R 83 x a) (by omega) (by omega) (by omega)
    refine ⟨R', ?_, fun z hz => by rw [z2 z hz, up_cell hz], fun j h1 h3 => ?_, fun j hj => by rw [z4 j (by omega), up_at (by omega)]⟩
    · rw [l239, if_neg (by omega), if_pos (by omega), if_pos (by omega), Int.toNat_natCast, show (x : Int) + 1 = ((x + 1 : Nat) : Int) by omega, z1, show f - d = f + 1 - (d + 1) by omega]
    · by_cases e : j = x
      · subst e; rw [z4 j (by omega), up_same]
      · exact z3 j (by omega) h3
