/-! Laying out, the two loops. -/
theorem lay_keep {Mc Nc : Mm} {np p e : Nat} {L : List Nat} (ht : tbl Mc Nc) (hs : 1 ≤ Mc 16 e) (hx : ∀ x, x ≤ p ∨ p + (Mc 16 e).toNat ≤ x → Nc 34 x = Mc 34 x ∧ Nc 35 x = Mc 35 x) (hcov : cov Mc np p p (e :: L)) (hq : ∀ q, q < p → LayQ Mc np q ∧ ∀ c, chQ Mc q c → c < p ∨ sts Mc p (e :: L) c) :
    cov Nc np (p + 1) (p + (Mc 16 e).toNat) L ∧ ∀ q, q < p → LayQ Nc np q ∧ ∀ c, chQ Nc q c → c < p + 1 ∨ sts Nc (p + (Mc 16 e).toNat) L c := by
  refine ⟨cov_fr ht (by omega) (fun x h => hx x (by omega)) hcov.2, fun q h => ?_⟩
  obtain ⟨a, b⟩ := hq q h
  have hh : ∀ x, x ≤ q ∨ chQ Mc q x → Nc 34 x = Mc 34 x ∧ Nc 35 x = Mc 35 x := by
    intro x h'
    rcases h' with h' | h'
    · exact hx x (Or.inl (by omega))
    · rcases b x h' with q1 | q1
      · exact hx x (Or.inl (by omega))
      · rcases q1 with q1 | q1
        · exact hx x (Or.inl (by omega))
        · exact hx x (Or.inr (sts_ge q1))
  obtain ⟨c1, c2⟩ := LayQ_fr ht hh a
  refine ⟨c1, fun c hc => ?_⟩
  rcases b c ((c2 c).mp hc) with q1 | q1
  · exact Or.inl (by omega)
  · rcases q1 with q1 | q1
    · exact Or.inl (by omega)
    · exact Or.inr ((sts_fr ht).mpr q1)
def LFr (M M' : Mm) : Prop := (∀ a, a ≠ 53 → ¬ (76 ≤ a ∧ a ≤ 79) → ¬ (84 ≤ a ∧ a ≤ 87) → a ≠ 89 → M' a = M a) ∧ ∀ k, k ≠ 28 → M' 53 k = M 53 k
theorem LFr_trans {M M1 M2 : Mm} (a : LFr M M1) (b : LFr M1 M2) : LFr M M2 := ⟨fun c h1 h2 h3 h4 => (b.1 c h1 h2 h3 h4).trans (a.1 c h1 h2 h3 h4), fun k hk => (b.2 k hk).trans (a.2 k hk)⟩
theorem ExC_tbl {M N : Mm} (h : tbl M N) (h5 : N 5 = M 5) (h7 : N 7 = M 7) (h17 : N 17 = M 17) (k : ExC M) : ExC N := by
  obtain ⟨t1, t2, t3, t4, t5⟩ := h
  unfold ExC
  rw [t1, t2, t3, t4, t5, h5, h7, h17]
  exact k
theorem ExR_tbl {Mc Nc Mr Nr : Mm} (h : tbl Mc Nc) (hr : LFr Mr Nr) (k : ExR Mc Mr) : ExR Nc Nr := by
  obtain ⟨t1, t2, t3, t4, t5⟩ := h
  unfold ExR
  rw [t1, t2, t3, t4, t5, hr.2 12 (by decide), hr.1 63 (by decide) (by decide) (by decide) (by decide), hr.1 64 (by decide) (by decide) (by decide) (by decide), hr.1 65 (by decide) (by decide) (by decide) (by decide), hr.1 66 (by decide) (by decide) (by decide) (by decide)]
  exact k
theorem Gr_new {M : Mm} {n' : Nat} (h : Gr M n' 0 (fun x => x) [] []) (hn : n' < 4000) : ∃ M', f213 M = some ((n' : Int), M') ∧ nnr M M' n' ∧ M' 76 n' = 2 ∧ Gr M' (n' + 1) 0 (fun x => x) [] [] := by
  obtain ⟨⟨v, M'⟩, e1, e2, w, k, g⟩ := f214_ok (k := 2) (a := 0) (b := 0) h hn (by omega) (fun q => by omega) (fun q => by omega)
  dsimp only at e2 w k g
  subst e2
  rw [ρn_id] at g
  exact ⟨M', by rw [f213_eq]; exact e1, w, k.1, g⟩
/-- one more place's node -/
theorem Lnd_1 {M M1 N : Mm} {n' p : Nat} {ow : Nat → Nat} (hn : Lnd M n' p ow) (w : nnr M M1 n') (k : M1 76 n' = 2) (G : Gr M1 (n' + 1) 0 (fun x => x) [] []) (hN : ∀ a, 76 ≤ a → a ≤ 79 → N a = M1 a) (h53 : N 53 28 = M1 53 28) (h63 : N 63 = M 63) (h84 : ∀ q, q < p → N 84 q = M 84 q) (h85 : ∀ q, N 85 q = if q = p then (n' : Int) else M 85 q) (h87 : ∀ q, q < p → N 87 q = M 87 q) (h89 : ∀ q, N 89 q = if q = p then 0 else M 89 q) :
    Gr N (n' + 1) 0 (fun x => x) [] [] ∧ n' + 1 ≤ 2 * (p + 1) ∧ (∀ u, u < n' + 1 → N 76 u = 2) ∧ (∀ q, q < p + 1 → N 89 q = 0 ∧ ∃ u : Nat, u < n' + 1 ∧ N 85 q = (u : Int) ∧ fx ow n' (2 * p) u = 2 * q) ∧ (∀ q, q < p → N 63 (N 84 q).toNat = 3 → ∃ u : Nat, u < n' + 1 ∧ N 87 q = (u : Int) ∧ fx ow n' (2 * p) u = 2 * q + 1) := by
  obtain ⟨a1, a2, a3, a4, a5⟩ := hn
  refine ⟨Gr_same hN h53 G, by omega, fun u hu => ?_, fun q hq => ?_, fun q hq h3 => ?_⟩
  · rw [hN 76 (by omega) (by omega)]
    by_cases e : u = n'
    · subst e; exact k
    · rw [(w.2.2 u (by omega)).1]; exact a3 u (by omega)
  · rw [h89, h85]
    by_cases e : q = p
    · subst e
      rw [if_pos rfl, if_pos rfl]
      exact ⟨rfl, n', by omega, rfl, fx_s⟩
    · rw [if_neg e, if_neg e]
      obtain ⟨b1, u, b2, b3, b4⟩ := a4 q (by omega)
      exact ⟨b1, u, by omega, b3, by rw [fx_n (by omega)]; exact b4⟩
  · rw [h63, h84 q hq] at h3
    obtain ⟨u, b2, b3, b4⟩ := a5 q hq h3
    exact ⟨u, by omega, by rw [h87 q hq]; exact b3, by rw [fx_n (by omega)]; exact b4⟩
theorem lay_loop {np : Nat} {e0 : Int} (hnp : np ≤ 60) (d : Nat) : ∀ (p f g : Nat) (Mc Mr : Mm) (L : List Nat) (n' : Nat) (ow : Nat → Nat), p + d = np → d < f → d < g → ExC Mc → ExR Mc Mr → Mc 24 13 = (np : Int) → Mr 53 46 = (np : Int) → cov Mc np p p L → (∀ q, q < p → LayQ Mc np q ∧ ∀ c, chQ Mc q c → c < p ∨ sts Mc p L c) → (∀ q, q < p ∨ sts Mc p L q → Mr 84 q = Mc 34 q ∧ Mr 86 q = Mc 35 q) → Lnd Mr n' p ow →
    ∃ (Mc' Mr' : Mm) (m' : Nat) (ow' : Nat → Nat), l66 f 21 Mc e0 (p : Int) = some (0, Mc') ∧ l212 g 26 Mr e0 (p : Int) = some (0, Mr') ∧ (∀ a, a ≠ 34 → a ≠ 35 → Mc' a = Mc a) ∧ LFr Mr Mr' ∧ (∀ q, q < np → LayQ Mc' np q) ∧ (∀ q, q < np → Mr' 84 q = Mc' 34 q ∧ Mr' 86 q = Mc' 35 q) ∧ Lnd Mr' m' np ow' ∧ Mc' 34 0 = Mc 34 0 := by
  induction d with
  | zero =>
    intro p f g Mc Mr L n' ow hp hf hg hE hR h24 h53 hc hq heq hn
    obtain ⟨f, rfl⟩ : ∃ f', f = f' + 1 := ⟨f - 1, by omega⟩
    obtain ⟨g, rfl⟩ : ∃ g', g = g' + 1 := ⟨g - 1, by omega⟩
    obtain rfl : p = np := by omega
    refine ⟨Mc, Mr, n', ow, ?_, ?_, fun _ _ _ => rfl, ⟨fun _ _ _ _ _ => rfl, fun _ _ => rfl⟩, fun q h => (hq q h).1, fun q h => heq q (Or.inl h), hn, rfl⟩
    · rw [l66, if_pos (by omega)]
    · rw [l212, if_pos (by omega)]
  | succ d ih =>
    intro p f g Mc Mr L n' ow hp hf hg hE hR h24 h53 hc hq heq hn
    obtain ⟨f, rfl⟩ : ∃ f', f = f' + 1 := ⟨f - 1, by omega⟩
    obtain ⟨g, rfl⟩ : ∃ g', g = g' + 1 := ⟨g - 1, by omega⟩
    cases L with
    | nil => exact absurd hc (by show ¬ p = np; omega)
    | cons e L =>
      obtain ⟨⟨c1, c2, c3, c4, c5⟩, c6⟩ := hc
      have hcov : cov Mc np p p (e :: L) := ⟨⟨c1, c2, c3, c4, c5⟩, c6⟩
      have he200 : e < 200 := by have := hE.1; omega
      obtain ⟨k1, k2, -, -, k5, k6, -, -, k9⟩ := hE.2 e c2
      obtain ⟨r1, r2, r3, r4⟩ := hR.2 e c2
      have hle := cov_le c6
      have hn0 := hn
      obtain ⟨hG, hn2, hk2, hp1, hp2⟩ := hn
      obtain ⟨Mr1, e1, w1, j1, G1⟩ := Gr_new hG (by omega)
      have cx : (p : Int) + 1 = ((p + 1 : Nat) : Int) := by omega
      have g1 : ¬ (np : Int) ≤ (p : Int) := by omega
      have g2 : 0 ≤ (p : Int) ∧ (p : Int) < 60 := by omega
      have g3 : rg ((p + 1 : Nat) : Int) := by omega
      have tn : Int.toNat (p : Int) = p := Int.toNat_natCast p
      have r84 : Mr 84 p = (e : Int) := by rw [(heq p (Or.inr (Or.inl rfl))).1]; exact c1
      have r86 : Mr 86 p = Mc 35 p := (heq p (Or.inr (Or.inl rfl))).2
      have g4 : 0 ≤ (e : Int) ∧ (e : Int) < 200 := by omega
      have te : Int.toNat (e : Int) = e := Int.toNat_natCast e
      have m63 : Mr1 63 = Mr 63 := w1.1 63 (by decide) (by decide) (by decide) (by decide) (by decide)
      have m64 : Mr1 64 = Mr 64 := w1.1 64 (by decide) (by decide) (by decide) (by decide) (by decide)
      have m65 : Mr1 65 = Mr 65 := w1.1 65 (by decide) (by decide) (by decide) (by decide) (by decide)
      have m66 : Mr1 66 = Mr 66 := w1.1 66 (by decide) (by decide) (by decide) (by decide) (by decide)
      have m86 : Mr1 86 = Mr 86 := w1.1 86 (by decide) (by decide) (by decide) (by decide) (by decide)
      have e69 : f69 Mc (Mc 34 p) = some (Mc 13 e) := by rw [c1]; exact f69_eq he200
      have e70 : f70 Mc (Mc 34 p) = some (Mc 14 e) := by rw [c1]; exact f70_eq he200
      have lf1 : LFr Mr Mr1 := ⟨fun a h1 h2 h3 h4 => w1.1 a h1 (by omega) (by omega) (by omega) (by omega), w1.2.1⟩
      -- what is left to show of the step
      have fin : ∀ (Nc Nr : Mm) (L1 : List Nat) (m' : Nat) (ow1 : Nat → Nat), (∀ a, a ≠ 34 → a ≠ 35 → Nc a = Mc a) → LFr Mr Nr → l66 (f + 1) 21 Mc e0 (p : Int) = l66 f 21 Nc e0 ((p + 1 : Nat) : Int) → l212 (g + 1) 26 Mr e0 (p : Int) = l212 g 26 Nr e0 ((p + 1 : Nat) : Int) → cov Nc np (p + 1) (p + 1) L1 → (∀ q, q < p + 1 → LayQ Nc np q ∧ ∀ c, chQ Nc q c → c < p + 1 ∨ sts Nc (p + 1) L1 c) → (∀ q, q < p + 1 ∨ sts Nc (p + 1) L1 q → Nr 84 q = Nc 34 q ∧ Nr 86 q = Nc 35 q) → Lnd Nr m' (p + 1) ow1 → Nc 34 0 = Mc 34 0 →
          ∃ (Mc' Mr' : Mm) (m' : Nat) (ow' : Nat → Nat), l66 (f + 1) 21 Mc e0 (p : Int) = some (0, Mc') ∧ l212 (g + 1) 26 Mr e0 (p : Int) = some (0, Mr') ∧ (∀ a, a ≠ 34 → a ≠ 35 → Mc' a = Mc a) ∧ LFr Mr Mr' ∧ (∀ q, q < np → LayQ Mc' np q) ∧ (∀ q, q < np → Mr' 84 q = Mc' 34 q ∧ Mr' 86 q = Mc' 35 q) ∧ Lnd Mr' m' np ow' ∧ Mc' 34 0 = Mc 34 0 := by
        intro Nc Nr L1 m' ow1 hN hNr s1 s2 h1 h2 h3 h4 h5
        have tb : tbl Mc Nc := ⟨hN 12 (by decide) (by decide), hN 13 (by decide) (by decide), hN 14 (by decide) (by decide), hN 15 (by decide) (by decide), hN 16 (by decide) (by decide)⟩
        obtain ⟨Mc', Mr', m2, ow2, z1, z2, z3, z4, z5, z6, z7, z8⟩ := ih (p + 1) f g Nc Nr L1 m' ow1 (by omega) (by omega) (by omega) (ExC_tbl tb (hN 5 (by decide) (by decide)) (hN 7 (by decide) (by decide)) (hN 17 (by decide) (by decide)) hE) (ExR_tbl tb hNr hR) (by rw [hN 24 (by decide) (by decide)]; exact h24) (by rw [hNr.2 46 (by decide)]; exact h53) h1 h2 h3 h4
        exact ⟨Mc', Mr', m2, ow2, s1.trans z1, s2.trans z2, fun a h1 h2 => (z3 a h1 h2).trans (hN a h1 h2), LFr_trans hNr z4, z5, z6, z7, z8.trans h5⟩
      by_cases kl : Mc 13 e = 3
      · obtain ⟨x1, x2, x3⟩ := k5 kl
        obtain ⟨x, hx⟩ : ∃ x : Nat, Mc 14 e = (x : Int) := ⟨(Mc 14 e).toNat, by omega⟩
        have tx : (Mc 14 e).toNat = x := by rw [hx]; exact Int.toNat_natCast x
        rw [tx] at x3
        have hxs := (hE.2 x (by omega)).2.1
        have hp1' : p + 1 < 60 := by omega
        let Nc := up (up Mc 34 (p + 1) (x : Int)) 35 (p + 1) (p : Int)
        have hNa : ∀ a, a ≠ 34 → a ≠ 35 → Nc a = Mc a := fun a h1 h2 => by show (up _ 35 _ _) a = _; rw [up_cell h2, up_cell h1]
        have tb : tbl Mc Nc := ⟨hNa 12 (by decide) (by decide), hNa 13 (by decide) (by decide), hNa 14 (by decide) (by decide), hNa 15 (by decide) (by decide), hNa 16 (by decide) (by decide)⟩
        have n34 : ∀ q, Nc 34 q = if q = p + 1 then (x : Int) else Mc 34 q := fun q => by show (up (up Mc 34 (p + 1) (x : Int)) 35 (p + 1) (p : Int)) 34 q = _; simp [up]
        have n35 : ∀ q, Nc 35 q = if q = p + 1 then (p : Int) else Mc 35 q := fun q => by show (up (up Mc 34 (p + 1) (x : Int)) 35 (p + 1) (p : Int)) 35 q = _; simp [up]
        obtain ⟨y1, y2⟩ := lay_keep (Nc := Nc) tb k2.1 (fun z hz => by rw [n34, n35, if_neg (by omega), if_neg (by omega)]; exact ⟨rfl, rfl⟩) hcov hq
        have esz : p + (Mc 16 e).toNat = p + 1 + (Nc 16 x).toNat := by rw [tb.2.2.2.2]; omega
        rw [esz] at y1 y2
        let N1 := up (up Mr1 85 p (n' : Int)) 89 p 0
        have v84 : ∀ q, N1 84 q = Mr 84 q := fun q => by show (up (up Mr1 85 p (n' : Int)) 89 p 0) 84 q = _; rw [up_cell (by decide), up_cell (by decide), w1.1 84 (by decide) (by decide) (by decide) (by decide) (by decide)]
        have v63 : N1 63 = Mr 63 := by show (up (up Mr1 85 p (n' : Int)) 89 p 0) 63 = _; rw [up_cell (by decide), up_cell (by decide), m63]
        have v86 : N1 86 = Mr 86 := by show (up (up Mr1 85 p (n' : Int)) 89 p 0) 86 = _; rw [up_cell (by decide), up_cell (by decide), m86]
        have v64 : N1 64 = Mr 64 := by show (up (up Mr1 85 p (n' : Int)) 89 p 0) 64 = _; rw [up_cell (by decide), up_cell (by decide), m64]
        have lfN : LFr Mr N1 := ⟨fun a h1 h2 h3 h4 => by show (up (up Mr1 85 p (n' : Int)) 89 p 0) a = _; rw [up_cell h4, up_cell (by omega)]; exact lf1.1 a h1 h2 h3 h4, fun k hk => by show (up (up Mr1 85 p (n' : Int)) 89 p 0) 53 k = _; rw [up_cell (by decide), up_cell (by decide)]; exact lf1.2 k hk⟩
        obtain ⟨b1, b2, b3, b4, b5⟩ := Lnd_1 (N := N1) hn0 w1 j1 G1 (fun a h1 h2 => by show (up (up Mr1 85 p (n' : Int)) 89 p 0) a = _; rw [up_cell (by omega), up_cell (by omega)]) (by show (up (up Mr1 85 p (n' : Int)) 89 p 0) 53 28 = _; rw [up_cell (by decide), up_cell (by decide)]) v63 (fun q _ => v84 q) (fun q => by show (up (up Mr1 85 p (n' : Int)) 89 p 0) 85 q = _; simp [up]; split <;> first | rfl | rw [w1.1 85 (by decide) (by decide) (by decide) (by decide) (by decide)]) (fun q _ => by show (up (up Mr1 85 p (n' : Int)) 89 p 0) 87 q = _; rw [up_cell (by decide), up_cell (by decide), w1.1 87 (by decide) (by decide) (by decide) (by decide) (by decide)]) (fun q => by show (up (up Mr1 85 p (n' : Int)) 89 p 0) 89 q = _; simp [up]; split <;> first | rfl | rw [w1.1 89 (by decide) (by decide) (by decide) (by decide) (by decide)])
        obtain ⟨Mr2, e2, w2, j2, G2⟩ := Gr_new b1 (by omega)
        have s64 : Mr2 64 = Mr 64 := by rw [w2.1 64 (by decide) (by decide) (by decide) (by decide) (by decide), v64]
        let Nr := up (up (up Mr2 87 p ((n' + 1 : Nat) : Int)) 84 (p + 1) (x : Int)) 86 (p + 1) (p : Int)
        have q84 : ∀ q, Nr 84 q = if q = p + 1 then (x : Int) else Mr 84 q := fun q => by
          show (up (up (up Mr2 87 p ((n' + 1 : Nat) : Int)) 84 (p + 1) (x : Int)) 86 (p + 1) (p : Int)) 84 q = _
          simp [up]
          split
          · rfl
          · rw [w2.1 84 (by decide) (by decide) (by decide) (by decide) (by decide), v84]
        have q86 : ∀ q, Nr 86 q = if q = p + 1 then (p : Int) else Mr 86 q := fun q => by
          show (up (up (up Mr2 87 p ((n' + 1 : Nat) : Int)) 84 (p + 1) (x : Int)) 86 (p + 1) (p : Int)) 86 q = _
          simp [up]
          split
          · rfl
          · rw [w2.1 86 (by decide) (by decide) (by decide) (by decide) (by decide), v86]
        have q87 : ∀ q, Nr 87 q = if q = p then ((n' + 1 : Nat) : Int) else N1 87 q := fun q => by
          show (up (up (up Mr2 87 p ((n' + 1 : Nat) : Int)) 84 (p + 1) (x : Int)) 86 (p + 1) (p : Int)) 87 q = _
          simp [up]
          split
          · rfl
          · rw [w2.1 87 (by decide) (by decide) (by decide) (by decide) (by decide)]
        have qz : ∀ a, a ≠ 84 → a ≠ 86 → a ≠ 87 → Nr a = Mr2 a := fun a h1 h2 h3 => by
          show (up (up (up Mr2 87 p ((n' + 1 : Nat) : Int)) 84 (p + 1) (x : Int)) 86 (p + 1) (p : Int)) a = _
          rw [up_cell h2, up_cell h1, up_cell h3]
        have lfR : LFr Mr Nr := by
          refine LFr_trans lfN ⟨fun a h1 h2 h3 h4 => ?_, fun k hk => ?_⟩
          · rw [qz a (by omega) (by omega) (by omega)]; exact w2.1 a h1 (by omega) (by omega) (by omega) (by omega)
          · rw [qz 53 (by decide) (by decide) (by decide)]; exact w2.2.1 k hk
        refine fin Nc Nr (x :: L) (n' + 1 + 1) (fx (fx ow n' (2 * p)) (n' + 1) (2 * p + 1)) hNa lfR ?_ ?_ ⟨⟨?_, ?_, ?_, ?_, ?_⟩, y1⟩ (fun q h => ?_) (fun q h => ?_) ?_ (by rw [n34, if_neg (by omega)])
        · rw [l66]
          simp only [h24, if_neg g1, if_pos g2, tn, e69, bs_, kl, not_true, if_false, e70, hx, cx, if_pos g3, f68_eq hp1']
          rfl
        · rw [l212]
          have g5 : 0 ≤ ((p + 1 : Nat) : Int) ∧ ((p + 1 : Nat) : Int) < 60 := by omega
          have t1 : Int.toNat ((p + 1 : Nat) : Int) = p + 1 := Int.toNat_natCast _
          have e2 : f213 (up (up Mr1 85 p (n' : Int)) 89 p 0) = some (((n' + 1 : Nat) : Int), Mr2) := e2
          simp only [h53, if_neg g1, if_pos g2, tn, e1, bs_, r84, if_pos g4, te, m63, r1, kl, not_true, if_false, e2, cx, if_pos g5, if_pos g3, t1, s64, r2, hx]
          rfl
        · rw [n34, if_pos rfl]
        · rw [tb.1]; omega
        · rw [n35, if_pos rfl]; omega
        · rw [n35, if_pos rfl]; omega
        · right
          rw [n35, if_pos rfl, tn, n34, if_neg (by omega), c1, te, tb.2.1]; exact kl
        · by_cases hqp : q < p
          · obtain ⟨z1, z2⟩ := y2 q hqp
            exact ⟨z1, fun c hc => (z2 c hc).imp_right Or.inr⟩
          · obtain rfl : q = p := by omega
            have n0 : Nc 34 q = (e : Int) := by rw [n34, if_neg (by omega)]; exact c1
            have n5 : Nc 35 q = Mc 35 q := by rw [n35, if_neg (by omega)]
            refine ⟨⟨e, n0, by rw [tb.1]; exact c2, ⟨by rw [n5]; exact c3, by rw [n5]; exact c4, ?_⟩, fun k => ⟨by omega, ?_, ?_⟩, fun k => ?_⟩, fun c hc => ?_⟩
            · rw [n5]
              by_cases e9 : Mc 35 q = -1
              · exact Or.inl e9
              · rw [n34, if_neg (by omega), tb.2.1]
                exact Or.inr (c5.resolve_left e9)
            · rw [n34, if_pos rfl, tb.2.2.1, hx]
            · rw [n35, if_pos rfl]
            · rw [tb.2.1] at k; omega
            · unfold chQ at hc
              rw [n0, te, tb.2.1] at hc
              rcases hc with hc | hc
              · exact Or.inr (Or.inl hc.2)
              · have := hc.1; omega
        · rw [q84, q86, n34, n35]
          by_cases e9 : q = p + 1
          · rw [if_pos e9, if_pos e9, if_pos e9, if_pos e9]; exact ⟨rfl, rfl⟩
          · rw [if_neg e9, if_neg e9, if_neg e9, if_neg e9]
            refine heq q ?_
            rcases h with h | h
            · by_cases hqp : q < p
              · exact Or.inl hqp
              · exact Or.inr (Or.inl (by omega))
            · rcases h with h | h
              · exact absurd h e9
              · right; right
                rw [esz]
                exact (sts_fr tb).mp h
        · refine ⟨Gr_same (fun a h1 h2 => qz a (by omega) (by omega) (by omega)) (by rw [qz 53 (by decide) (by decide) (by decide)]) G2, by omega, fun u hu => ?_, fun q hq => ?_, fun q hq h3 => ?_⟩
          · rw [qz 76 (by decide) (by decide) (by decide)]
            by_cases e9 : u = n' + 1
            · subst e9; exact j2
            · rw [(w2.2.2 u (by omega)).1]; exact b3 u (by omega)
          · obtain ⟨z1, u, z2, z3, z4⟩ := b4 q hq
            rw [qz 89 (by decide) (by decide) (by decide), qz 85 (by decide) (by decide) (by decide), w2.1 89 (by decide) (by decide) (by decide) (by decide) (by decide), w2.1 85 (by decide) (by decide) (by decide) (by decide) (by decide)]
            exact ⟨z1, u, by omega, z3, by rw [fx_n (by omega)]; exact z4⟩
          · rw [q87]
            by_cases e9 : q = p
            · rw [if_pos e9, e9]
              exact ⟨n' + 1, by omega, rfl, fx_s⟩
            · rw [if_neg e9]
              have h3' : N1 63 (N1 84 q).toNat = 3 := by
                rw [v63, v84]
                rw [qz 63 (by decide) (by decide) (by decide), w2.1 63 (by decide) (by decide) (by decide) (by decide) (by decide), v63, q84, if_neg (by omega)] at h3
                exact h3
              obtain ⟨u, z2, z3, z4⟩ := b5 q (by omega) h3'
              exact ⟨u, by omega, z3, by rw [fx_n (by omega)]; exact z4⟩
      · by_cases ka : Mc 13 e = 4
        · obtain ⟨x1, x2, x3, x4, x5⟩ := k6 ka
          obtain ⟨x, hx⟩ : ∃ x : Nat, Mc 14 e = (x : Int) := ⟨(Mc 14 e).toNat, by omega⟩
          obtain ⟨y, hy⟩ : ∃ y : Nat, Mc 15 e = (y : Int) := ⟨(Mc 15 e).toNat, by omega⟩
          have tx : (Mc 14 e).toNat = x := by rw [hx]; exact Int.toNat_natCast x
          have ty : (Mc 15 e).toNat = y := by rw [hy]; exact Int.toNat_natCast y
          rw [tx, ty] at x5
          have hxs := (hE.2 x (by omega)).2.1
          have hys := (hE.2 y (by omega)).2.1
          obtain ⟨s, hs⟩ : ∃ s : Nat, Mc 16 x = (s : Int) := ⟨(Mc 16 x).toNat, by omega⟩
          have ts : (Mc 16 x).toNat = s := by rw [hs]; exact Int.toNat_natCast s
          have hp1' : p + 1 < 60 := by omega
          have hp2' : p + 1 + s < 60 := by omega
          let N0 := up (up Mc 34 (p + 1) (x : Int)) 35 (p + 1) (Mc 35 p)
          let Nc := up (up N0 34 (p + 1 + s) (y : Int)) 35 (p + 1 + s) (Mc 35 p)
          have hNa : ∀ a, a ≠ 34 → a ≠ 35 → Nc a = Mc a := fun a h1 h2 => by show (up (up (up (up _ 34 _ _) 35 _ _) 34 _ _) 35 _ _) a = _; rw [up_cell h2, up_cell h1, up_cell h2, up_cell h1]
          have tb : tbl Mc Nc := ⟨hNa 12 (by decide) (by decide), hNa 13 (by decide) (by decide), hNa 14 (by decide) (by decide), hNa 15 (by decide) (by decide), hNa 16 (by decide) (by decide)⟩
          have n34 : ∀ q, Nc 34 q = if q = p + 1 + s then (y : Int) else if q = p + 1 then (x : Int) else Mc 34 q := fun q => by show (up (up (up (up Mc 34 (p + 1) (x : Int)) 35 (p + 1) (Mc 35 p)) 34 (p + 1 + s) (y : Int)) 35 (p + 1 + s) (Mc 35 p)) 34 q = _; simp [up]
          have n35 : ∀ q, Nc 35 q = if q = p + 1 + s then Mc 35 p else if q = p + 1 then Mc 35 p else Mc 35 q := fun q => by show (up (up (up (up Mc 34 (p + 1) (x : Int)) 35 (p + 1) (Mc 35 p)) 34 (p + 1 + s) (y : Int)) 35 (p + 1 + s) (Mc 35 p)) 35 q = _; simp [up]
          obtain ⟨y1, y2⟩ := lay_keep (Nc := Nc) tb k2.1 (fun z hz => by rw [n34, n35, if_neg (by omega), if_neg (by omega), if_neg (by omega), if_neg (by omega)]; exact ⟨rfl, rfl⟩) hcov hq
          have esz : p + (Mc 16 e).toNat = p + 1 + (Nc 16 x).toNat + (Nc 16 y).toNat := by rw [tb.2.2.2.2]; omega
          have es1 : p + 1 + (Nc 16 x).toNat = p + 1 + s := by rw [tb.2.2.2.2, ts]
          rw [esz] at y1 y2
          have ar : ∀ z, Nc 35 z = Mc 35 p → arOK Nc (p + 1) z := fun z hz => by
            unfold arOK
            rw [hz]
            refine ⟨c3, by omega, ?_⟩
            by_cases e9 : Mc 35 p = -1
            · exact Or.inl e9
            · rw [n34, if_neg (by omega), if_neg (by omega), tb.2.1]
              exact Or.inr (c5.resolve_left e9)
          let Nr := up (up (up (up (up (up Mr1 85 p (n' : Int)) 89 p 0) 84 (p + 1) (x : Int)) 86 (p + 1) (Mc 35 p)) 84 (p + 1 + s) (y : Int)) 86 (p + 1 + s) (Mc 35 p)
          have q84 : ∀ q, Nr 84 q = if q = p + 1 + s then (y : Int) else if q = p + 1 then (x : Int) else Mr 84 q := fun q => by
            show (up (up (up (up (up (up Mr1 85 p (n' : Int)) 89 p 0) 84 (p + 1) (x : Int)) 86 (p + 1) (Mc 35 p)) 84 (p + 1 + s) (y : Int)) 86 (p + 1 + s) (Mc 35 p)) 84 q = _
            simp [up, w1.1 84 (by decide) (by decide) (by decide) (by decide) (by decide)]
          have q86 : ∀ q, Nr 86 q = if q = p + 1 + s then Mc 35 p else if q = p + 1 then Mc 35 p else Mr 86 q := fun q => by
            show (up (up (up (up (up (up Mr1 85 p (n' : Int)) 89 p 0) 84 (p + 1) (x : Int)) 86 (p + 1) (Mc 35 p)) 84 (p + 1 + s) (y : Int)) 86 (p + 1 + s) (Mc 35 p)) 86 q = _
            simp [up, m86]
          have qz : ∀ a, a ≠ 84 → a ≠ 86 → Nr a = (up (up Mr1 85 p (n' : Int)) 89 p 0) a := fun a h1 h2 => by
            show (up (up (up (up (up (up Mr1 85 p (n' : Int)) 89 p 0) 84 (p + 1) (x : Int)) 86 (p + 1) (Mc 35 p)) 84 (p + 1 + s) (y : Int)) 86 (p + 1 + s) (Mc 35 p)) a = _
            rw [up_cell h2, up_cell h1, up_cell h2, up_cell h1]
          have v63 : Nr 63 = Mr 63 := by rw [qz 63 (by decide) (by decide), up_cell (by decide), up_cell (by decide), m63]
          refine fin Nc Nr (x :: y :: L) (n' + 1) (fx ow n' (2 * p)) hNa ⟨fun a h1 h2 h3 h4 => ?_, fun k hk => ?_⟩ ?_ ?_ ⟨⟨?_, ?_, ?_⟩, ⟨?_, ?_, ?_⟩, y1⟩ (fun q h => ?_) (fun q h => ?_) ?_ (by rw [n34, if_neg (by omega), if_neg (by omega)])
          · rw [qz a (by omega) (by omega), up_cell h4, up_cell (by omega)]; exact lf1.1 a h1 h2 h3 h4
          · rw [qz 53 (by decide) (by decide), up_cell (by decide), up_cell (by decide)]; exact lf1.2 k hk
          · have a34 : N0 34 p = (e : Int) := by show (up (up Mc 34 (p + 1) (x : Int)) 35 (p + 1) (Mc 35 p)) 34 p = _; rw [up_cell (by decide), up_at (by omega)]; exact c1
            have a35 : N0 35 p = Mc 35 p := by show (up (up Mc 34 (p + 1) (x : Int)) 35 (p + 1) (Mc 35 p)) 35 p = _; rw [up_at (by omega), up_cell (by decide)]
            have a14 : N0 14 = Mc 14 := by show (up (up Mc 34 (p + 1) (x : Int)) 35 (p + 1) (Mc 35 p)) 14 = _; rw [up_cell (by decide), up_cell (by decide)]
            have a15 : N0 15 = Mc 15 := by show (up (up Mc 34 (p + 1) (x : Int)) 35 (p + 1) (Mc 35 p)) 15 = _; rw [up_cell (by decide), up_cell (by decide)]
            have a16 : N0 16 = Mc 16 := by show (up (up Mc 34 (p + 1) (x : Int)) 35 (p + 1) (Mc 35 p)) 16 = _; rw [up_cell (by decide), up_cell (by decide)]
            have e71 : f71 N0 (p : Int) = some ((p + 1 + s : Nat) : Int) := by
              unfold f71
              rw [if_pos g2, tn, a34, f70_eq he200, bs_, a14, hx, f67_eq (by omega), bs_, a16, hs, if_pos (by omega)]
              congr 1
            have e72 : f72 N0 (Mc 34 p) = some (y : Int) := by rw [c1, f72_eq he200, a15, hy]
            have e68 : f68 Mc ((p + 1 : Nat) : Int) (x : Int) (Mc 35 p) = some (0, N0) := f68_eq hp1'
            have e68b : f68 N0 ((p + 1 + s : Nat) : Int) (y : Int) (Mc 35 p) = some (0, Nc) := f68_eq hp2'
            have n3 : ¬ (4 : Int) = 3 := by decide
            rw [l66]
            simp only [h24, if_neg g1, if_pos g2, tn, e69, bs_, ka, if_pos n3, not_true, if_false, e70, hx, cx, if_pos g3, e68, e71, e72, a35, e68b]
          · rw [l212]
            have g5 : 0 ≤ ((p + 1 : Nat) : Int) ∧ ((p + 1 : Nat) : Int) < 60 := by omega
            have g6 : 0 ≤ ((p + 1 : Nat) : Int) + (s : Int) ∧ ((p + 1 : Nat) : Int) + (s : Int) < 60 := by omega
            have g7 : 0 ≤ (x : Int) ∧ (x : Int) < 200 := by have := hE.1; omega
            have t1 : Int.toNat ((p + 1 : Nat) : Int) = p + 1 := Int.toNat_natCast _
            have t2 : Int.toNat (((p + 1 : Nat) : Int) + (s : Int)) = p + 1 + s := by omega
            have t3 : Int.toNat (x : Int) = x := Int.toNat_natCast x
            have r4x := (hR.2 x (by omega)).2.2.2
            have r65 := r3 (Or.inl ka)
            have n3 : ¬ (4 : Int) = 3 := by decide
            have b86 : (up (up (up (up Mr1 85 p (n' : Int)) 89 p 0) 84 (p + 1) (x : Int)) 86 (p + 1) (Mc 35 p)) 86 p = Mc 35 p := by rw [up_at (by omega), up_cell (by decide), up_cell (by decide), up_cell (by decide), m86, r86]
            simp only [h53, if_neg g1, if_pos g2, tn, e1, bs_, r84, if_pos g4, te, m63, r1, ka, if_pos n3, not_true, if_false, m64, r2, hx, if_pos g7, t3, m66, r4x, hs, cx, if_pos g5, if_pos g6, if_pos g3, t1, t2, m65, r65, hy, m86, r86, b86]
            rfl
          · rw [n34, if_neg (by omega), if_pos rfl]
          · rw [tb.1]; omega
          · exact ar _ (by rw [n35, if_neg (by omega), if_pos rfl])
          · rw [es1, n34, if_pos rfl]
          · rw [tb.1]; omega
          · rw [es1]; exact ar _ (by rw [n35, if_pos rfl])
          · by_cases hqp : q < p
            · obtain ⟨z1, z2⟩ := y2 q hqp
              exact ⟨z1, fun c hc => (z2 c hc).imp_right (fun z => Or.inr (Or.inr z))⟩
            · obtain rfl : q = p := by omega
              have n0 : Nc 34 q = (e : Int) := by rw [n34, if_neg (by omega), if_neg (by omega)]; exact c1
              have n5 : Nc 35 q = Mc 35 q := by rw [n35, if_neg (by omega), if_neg (by omega)]
              have nsz : (Nc 16 (Nc 14 e).toNat).toNat = s := by rw [tb.2.2.2.2, tb.2.2.1, tx, ts]
              refine ⟨⟨e, n0, by rw [tb.1]; exact c2, ⟨by rw [n5]; exact c3, by rw [n5]; exact c4, ?_⟩, fun k => ?_, fun k => ?_⟩, fun c hc => ?_⟩
              · rw [n5]
                by_cases e9 : Mc 35 q = -1
                · exact Or.inl e9
                · rw [n34, if_neg (by omega), if_neg (by omega), tb.2.1]
                  exact Or.inr (c5.resolve_left e9)
              · rw [tb.2.1] at k; exact absurd k kl
              · rw [nsz, n5]
                refine ⟨by omega, ?_, ?_, ?_, ?_⟩
                · rw [n34, if_neg (by omega), if_pos rfl, tb.2.2.1, hx]
                · rw [n35, if_neg (by omega), if_pos rfl]
                · rw [n34, if_pos rfl, tb.2.2.2.1, hy]
                · rw [n35, if_pos rfl]
              · unfold chQ at hc
                rw [n0, te, nsz, tb.2.1] at hc
                rcases hc with hc | ⟨-, hc⟩
                · exact absurd hc.1 kl
                · rcases hc with hc | hc
                  · exact Or.inr (Or.inl hc)
                  · exact Or.inr (Or.inr (Or.inl (by rw [es1]; exact hc)))
          · rw [q84, q86, n34, n35]
            by_cases e8 : q = p + 1 + s
            · rw [if_pos e8, if_pos e8, if_pos e8, if_pos e8]; exact ⟨rfl, rfl⟩
            · rw [if_neg e8, if_neg e8, if_neg e8, if_neg e8]
              by_cases e9 : q = p + 1
              · rw [if_pos e9, if_pos e9, if_pos e9, if_pos e9]; exact ⟨rfl, rfl⟩
              · rw [if_neg e9, if_neg e9, if_neg e9, if_neg e9]
                refine heq q ?_
                rcases h with h | h
                · by_cases hqp : q < p
                  · exact Or.inl hqp
                  · exact Or.inr (Or.inl (by omega))
                · rcases h with h | h | h
                  · exact absurd h e9
                  · rw [es1] at h; exact absurd h e8
                  · right; right
                    rw [esz]
                    exact (sts_fr tb).mp h
          · obtain ⟨b1, b2, b3, b4, b5⟩ := Lnd_1 (N := Nr) hn0 w1 j1 G1 (fun a h1 h2 => by rw [qz a (by omega) (by omega), up_cell (by omega), up_cell (by omega)]) (by rw [qz 53 (by decide) (by decide), up_cell (by decide), up_cell (by decide)]) v63 (fun q hq => by rw [q84, if_neg (by omega), if_neg (by omega)]) (fun q => by rw [qz 85 (by decide) (by decide)]; simp [up]; split <;> first | rfl | rw [w1.1 85 (by decide) (by decide) (by decide) (by decide) (by decide)]) (fun q _ => by rw [qz 87 (by decide) (by decide), up_cell (by decide), up_cell (by decide), w1.1 87 (by decide) (by decide) (by decide) (by decide) (by decide)]) (fun q => by rw [qz 89 (by decide) (by decide)]; simp [up]; split <;> first | rfl | rw [w1.1 89 (by decide) (by decide) (by decide) (by decide) (by decide)])
            refine ⟨b1, b2, b3, b4, fun q hq h3 => ?_⟩
            by_cases hqp : q < p
            · exact b5 q hqp h3
            · obtain rfl : q = p := by omega
              rw [v63, q84, if_neg (by omega), if_neg (by omega), r84, te, r1] at h3
              exact absurd h3 kl
        · have hsz := k9 kl ka
          have hN : tbl Mc Mc := ⟨rfl, rfl, rfl, rfl, rfl⟩
          obtain ⟨y1, y2⟩ := lay_keep (Nc := Mc) hN k2.1 (fun _ _ => ⟨rfl, rfl⟩) hcov hq
          have e16 : (Mc 16 e).toNat = 1 := by rw [hsz]; rfl
          rw [e16] at y1 y2
          refine fin Mc (up (up Mr1 85 p (n' : Int)) 89 p 0) L (n' + 1) (fx ow n' (2 * p)) (fun _ _ _ => rfl) ⟨fun a h1 h2 h3 h4 => ?_, fun k hk => ?_⟩ ?_ ?_ y1 (fun q h => ?_) (fun q h => ?_) ?_ rfl
          · rw [up_cell h4, up_cell (by omega)]; exact lf1.1 a h1 h2 h3 h4
          · rw [up_cell (by decide), up_cell (by decide)]; exact lf1.2 k hk
          · rw [l66]
            simp only [h24, if_neg g1, if_pos g2, tn, e69, bs_, if_pos kl, if_pos ka, cx]
            exact if_pos g3
          · rw [l212]
            simp only [h53, if_neg g1, if_pos g2, tn, e1, bs_, r84, if_pos g4, te, m63, r1, if_pos kl, if_pos ka, cx]
            exact if_pos g3
          · by_cases hqp : q < p
            · exact y2 q hqp
            · obtain rfl : q = p := by omega
              have ee : (Mc 34 q).toNat = e := by rw [c1]; exact te
              refine ⟨⟨e, c1, c2, ⟨c3, c4, c5⟩, fun k => absurd k kl, fun k => absurd k ka⟩, fun c hc => ?_⟩
              unfold chQ at hc
              rw [ee] at hc
              rcases hc with hc | hc
              · exact absurd hc.1 kl
              · exact absurd hc.1 ka
          · rw [up_cell (by decide), up_cell (by decide), up_cell (by decide), up_cell (by decide), w1.1 84 (by decide) (by decide) (by decide) (by decide) (by decide), m86]
            refine heq q ?_
            rcases h with h | h
            · by_cases hqp : q < p
              · exact Or.inl hqp
              · exact Or.inr (Or.inl (by omega))
            · exact Or.inr (Or.inr (by rw [e16]; exact h))
          · have u84 : ∀ q, (up (up Mr1 85 p (n' : Int)) 89 p 0) 84 q = Mr 84 q := fun q => by rw [up_cell (by decide), up_cell (by decide), w1.1 84 (by decide) (by decide) (by decide) (by decide) (by decide)]
            have u63 : (up (up Mr1 85 p (n' : Int)) 89 p 0) 63 = Mr 63 := by rw [up_cell (by decide), up_cell (by decide), m63]
            obtain ⟨b1, b2, b3, b4, b5⟩ := Lnd_1 (N := up (up Mr1 85 p (n' : Int)) 89 p 0) hn0 w1 j1 G1 (fun a h1 h2 => by rw [up_cell (by omega), up_cell (by omega)]) (by rw [up_cell (by decide), up_cell (by decide)]) u63 (fun q _ => u84 q) (fun q => by simp [up]; split <;> first | rfl | rw [w1.1 85 (by decide) (by decide) (by decide) (by decide) (by decide)]) (fun q _ => by rw [up_cell (by decide), up_cell (by decide), w1.1 87 (by decide) (by decide) (by decide) (by decide) (by decide)]) (fun q => by simp [up]; split <;> first | rfl | rw [w1.1 89 (by decide) (by decide) (by decide) (by decide) (by decide)])
            refine ⟨b1, b2, b3, b4, fun q hq h3 => ?_⟩
            by_cases hqp : q < p
            · exact b5 q hqp h3
            · obtain rfl : q = p := by omega
              rw [u63, u84, r84, te, r1] at h3
              exact absurd h3 kl
