/-! Numbering the variables: to the end. -/
section NUM
variable {S : Nat → Nat → Prop} {n n' : Nat} {cs : List (Nat × Nat)} {ρ ρ' : Nat → Nat}
theorem pairs_of {Mc Mr : Mm} {c u q : Nat} (h : Fin2 Mc Mr S n n' cs ρ ρ') (t : Tt S n n' ρ ρ' c u) (hc : ρ c = c) (hq : ρ' u = q) : ∃ P : List (Nat × Nat), P.map Prod.fst = psc Mc ρ c ∧ P.map Prod.snd = psr Mr q ∧ P.length ≤ 2 ∧ ∀ p ∈ P, Tt S n n' ρ ρ' p.1 p.2 ∧ ρ p.1 = p.1 := by
  have f := h.1
  have kk := T_k h t
  rw [hc, hq] at kk
  unfold psc psr
  rw [← kk]
  have A : (3 ≤ Mc 26 c ∧ Mc 26 c ≤ 4) → Tt S n n' ρ ρ' (ρ (Mc 27 c).toNat) (Mr 77 q).toNat ∧ ρ (ρ (Mc 27 c).toNat) = ρ (Mc 27 c).toNat := fun k3 => by
    have ta := T_a h t (by rw [hc]; exact k3)
    rw [hc, hq] at ta
    have := f.2.2 _ (T_lt ta).1
    exact ⟨T_r ta this.1 (T_lt ta).2 this.2.symm rfl, this.2⟩
  have B : Mc 26 c = 4 → Tt S n n' ρ ρ' (ρ (Mc 28 c).toNat) (Mr 78 q).toNat ∧ ρ (ρ (Mc 28 c).toNat) = ρ (Mc 28 c).toNat := fun k4 => by
    have ta := T_b h t (by rw [hc]; exact k4)
    rw [hc, hq] at ta
    have := f.2.2 _ (T_lt ta).1
    exact ⟨T_r ta this.1 (T_lt ta).2 this.2.symm rfl, this.2⟩
  by_cases k3 : Mc 26 c = 3
  · refine ⟨[(ρ (Mc 27 c).toNat, (Mr 77 q).toNat)], ?_, ?_, by simp, fun p hp => ?_⟩
    · rw [if_pos k3]; rfl
    · rw [if_pos k3]; rfl
    · rw [List.mem_singleton.mp hp]; exact A (by omega)
  · by_cases k4 : Mc 26 c = 4
    · refine ⟨[(ρ (Mc 27 c).toNat, (Mr 77 q).toNat), (ρ (Mc 28 c).toNat, (Mr 78 q).toNat)], ?_, ?_, by simp, fun p hp => ?_⟩
      · rw [if_neg k3, if_pos k4]; rfl
      · rw [if_neg k3, if_pos k4]; rfl
      · rcases List.mem_cons.mp hp with z | z
        · rw [z]; exact A (by omega)
        · rw [List.mem_singleton.mp z]; exact B k4
    · refine ⟨[], ?_, ?_, by simp, fun p hp => (nomatch hp)⟩
      · rw [if_neg k3, if_neg k4]; rfl
      · rw [if_neg k3, if_neg k4]; rfl
theorem sn_up {M M' : Mm} {c : Nat} {w : Int} (hc : c < n) (hw : w ≠ -2) (h0 : M 31 c = -2) (h : ∀ y, M' 31 y = if y = c then w else M 31 y) : sn M' n = sn M n + 1 := by
  unfold sn
  refine (cn_less (p := fun y => decide (M' 31 y ≠ -2)) (q := fun y => decide (M 31 y ≠ -2)) (u := c) ?_ ?_ hc (fun x _ hx => ?_)).symm
  · rw [h, if_pos rfl]; exact decide_eq_true hw
  · exact decide_eq_false (fun z => z h0)
  · rw [h, if_neg hx]
theorem num_loop {P : Nat → Prop} {x1 y1 : Int} (d : Nat) : ∀ (L : List (Nat × Nat)) (k f g x3 : Nat) (Mc Mr : Mm), Fin2 Mc Mr S n n' cs ρ ρ' → NV Mc Mr S n n' ρ ρ' L k → k ≤ sn Mc n → 2 * n + L.length ≤ d + 2 * sn Mc n → sn Mc n ≤ x3 → x3 + L.length ≤ 1 + 2 * sn Mc n → d < f → 5 * d < g → (∀ x m, P x → m ∈ psc Mc ρ x → P m) → (∀ y, y < n → Mc 31 y ≠ -2 → P y) → (∀ p ∈ L, P p.1) →
    ∃ (Mc' Mr' : Mm) (k' : Nat), l130 f 19 Mc x1 (L.length : Int) (x3 : Int) = some (0, Mc') ∧ l226 g 37 Mr y1 (L.length : Int) 0 = some (0, Mr') ∧ Fin2 Mc' Mr' S n n' cs ρ ρ' ∧ NV Mc' Mr' S n n' ρ ρ' [] k' ∧ Cv Mc Mc' n ∧ Rv Mr Mr' ∧ k' ≤ n ∧ (∀ y, Mc 31 y ≠ -2 → Mc' 31 y ≠ -2) ∧ (∀ p ∈ L, Mc' 31 p.1 ≠ -2) ∧ ∀ y, y < n → Mc' 31 y ≠ -2 → P y := by
  induction d with
  | zero =>
    intro L k f g x3 Mc Mr h v hk hd h1 h2 hf hg hP hP1 hP2
    have hs : sn Mc n ≤ n := cn_le _ _
    obtain ⟨f, rfl⟩ : ∃ f', f = f' + 1 := ⟨f - 1, by omega⟩
    obtain ⟨g, rfl⟩ : ∃ f', g = f' + 1 := ⟨g - 1, by omega⟩
    obtain rfl : L = [] := List.length_eq_zero_iff.mp (by omega)
    refine ⟨Mc, Mr, k, ?_, ?_, h, v, ⟨fun _ _ _ _ _ _ => rfl, fun _ _ => rfl, fun _ _ => rfl⟩, ⟨fun _ _ _ _ _ _ => rfl, fun _ _ => rfl⟩, by omega, fun _ z => z, fun p hp => (nomatch hp), hP1⟩
    · rw [l130, if_pos (show ((([] : List (Nat × Nat)).length : Nat) : Int) ≤ 0 by simp)]
    · rw [l226, if_pos (show ((([] : List (Nat × Nat)).length : Nat) : Int) ≤ 0 by simp)]
  | succ d ih =>
    intro L k f g x3 Mc Mr h v hk hd h1 h2 hf hg hP hP1 hP2
    have hs : sn Mc n ≤ n := cn_le _ _
    have hn := h.1.1.2.2.1
    have hn' := h.2.1.1.2.1
    obtain ⟨f, rfl⟩ : ∃ f', f = f' + 1 := ⟨f - 1, by omega⟩
    cases L with
    | nil =>
      obtain ⟨g, rfl⟩ : ∃ f', g = f' + 1 := ⟨g - 1, by omega⟩
      refine ⟨Mc, Mr, k, ?_, ?_, h, v, ⟨fun _ _ _ _ _ _ => rfl, fun _ _ => rfl, fun _ _ => rfl⟩, ⟨fun _ _ _ _ _ _ => rfl, fun _ _ => rfl⟩, by omega, fun _ z => z, fun p hp => (nomatch hp), hP1⟩
      · rw [l130, if_pos (show ((([] : List (Nat × Nat)).length : Nat) : Int) ≤ 0 by simp)]
      · rw [l226, if_pos (show ((([] : List (Nat × Nat)).length : Nat) : Int) ≤ 0 by simp)]
    | cons p L =>
      obtain ⟨c, u⟩ := p
      obtain ⟨g, rfl⟩ : ∃ f', g = f' + 5 := ⟨g - 5, by omega⟩
      have v0 := v
      obtain ⟨v1, ⟨v2, v3, v4⟩, v5, v6, v7, v8, v9, v10⟩ := v
      obtain ⟨t, tc⟩ := v4 (c, u) List.mem_cons_self
      have t : Tt S n n' ρ ρ' c u := t
      have tc : ρ c = c := tc
      obtain ⟨cl, ul⟩ := T_lt t
      obtain ⟨q, hq⟩ : ∃ q, ρ' u = q := ⟨_, rfl⟩
      have kk : Mc 26 c = Mr 76 q := by have := T_k h t; rw [tc, hq] at this; exact this
      have v9' : 2 ≤ Mc 26 c → (Mc 31 c ≠ -2 ↔ Mr 80 q = 1) := fun z => by
        have := v9 c u t (by rw [tc]; exact z)
        rw [tc, hq] at this
        exact this
      have k0 := (h.1.1.2.2.2 c cl).1
      have ll : ((c, u) :: L).length = L.length + 1 := rfl
      have lm : (L.map Prod.fst).length = L.length := List.length_map ..
      have lm2 : (L.map Prod.snd).length = L.length := List.length_map ..
      rw [ll] at hd h2
      have s2 : sk Mc 33 (c :: L.map Prod.fst) := v2
      have s3 : sk Mr 82 (u :: L.map Prod.snd) := v3
      have ei : (((L.length + 1 : Nat)) : Int) + -1 = (L.length : Int) := by omega
      have c33 : Mc 33 L.length = (c : Int) := by have := s2.1; rw [lm] at this; exact this
      -- the head of a turn, the class's way
      have hd130 : l130 (f + 1) 19 Mc x1 ((L.length + 1 : Nat) : Int) (x3 : Int) = if ¬ Mc 31 c = -2 then l130 f 19 Mc x1 (L.length : Int) ((x3 : Int) + 1) else (f131 Mc (c : Int) (L.length : Int)).bind (fun z => if rg ((x3 : Int) + 1) then l130 f 19 z.2 x1 z.1 ((x3 : Int) + 1) else none) := by
        rw [l130, if_neg (by omega), if_neg (by omega), ei, if_pos (by omega), Int.toNat_natCast, c33, if_pos (by omega), Int.toNat_natCast, if_pos (show rg (L.length : Int) by omega), if_pos (show rg ((x3 : Int) + 1) by omega), if_pos (show rg (L.length : Int) by omega)]
      have x31 : ((x3 : Int) + 1) = ((x3 + 1 : Nat) : Int) := by omega
      rw [ll, hd130, x31]
      -- the reference's turn where nothing is laid down
      have refl0 : Mr 80 q = 1 ∨ Mr 76 q ≤ 1 → ∃ (g' : Nat) (Mr' : Mm), g ≤ g' ∧ l226 (g + 5) 37 Mr y1 ((L.length + 1 : Nat) : Int) 0 = l226 g' 37 Mr' y1 (L.length : Int) 0 ∧ Rv Mr Mr' ∧ (∀ y, Mr' 80 y = if y = q then 1 else Mr 80 y) ∧ Mr' 53 50 = (k : Int) ∧ (∀ j, Mr' 92 j = Mr 92 j) ∧ (∀ j, Mr' 93 j = Mr 93 j) ∧ sk Mr' 82 (L.map Prod.snd) := fun z => by
        by_cases m1 : Mr 80 q = 1
        · have := l226_se (f := g + 4) (x1 := y1) h.2.1 ul hq s3 m1 (by omega)
          rw [lm2, show (u :: L.map Prod.snd).length = L.length + 1 by simp] at this
          refine ⟨g + 4, Mr, by omega, this, ⟨fun _ _ _ _ _ _ => rfl, fun _ _ => rfl⟩, fun y => ?_, v1.2, fun _ => rfl, fun _ => rfl, s3.2⟩
          by_cases e : y = q
          · rw [if_pos e, e]; exact m1
          · rw [if_neg e]
        · obtain ⟨g', M', r1, r2, r3, r4, r5, r6⟩ := l226_un (f := g) (x1 := y1) h.2.1 ul hq s3 m1 v1.2 (by omega) (by omega)
          have k1 : Mr 76 q ≤ 1 := by omega
          have ps : psr Mr q = [] := by unfold psr; rw [if_neg (by omega), if_neg (by omega)]
          rw [ps, List.nil_append] at r2 r3
          rw [lm2, show (u :: L.map Prod.snd).length = L.length + 1 by simp] at r2
          rcases r6 with ⟨z, -⟩ | ⟨-, z1, z2, z3⟩
          · omega
          · exact ⟨g', M', r1, r2, r4, r5, z1, z2, z3, r3⟩
      have keep : ∀ (Mc1 Mr1 : Mm) (w : Int) (k1 : Nat) (L1 : List (Nat × Nat)) (g' : Nat), Cv Mc Mc1 n → Rv Mr Mr1 → Fg Mc1 n ρ → (∀ y, Mc1 31 y = if y = c then w else Mc 31 y) → w ≠ -2 → NV Mc1 Mr1 S n n' ρ ρ' L1 k1 → g ≤ g' → (∀ p ∈ L, p ∈ L1) → (∀ p ∈ L1, P p.1) →
          ((Mc 31 c ≠ -2 ∧ w = Mc 31 c ∧ k1 = k ∧ L1 = L) ∨ (Mc 31 c = -2 ∧ k1 ≤ k + 1 ∧ L1.length ≤ L.length + 2)) →
          ∃ (Mc' Mr' : Mm) (k' : Nat), l130 f 19 Mc1 x1 (L1.length : Int) ((x3 + 1 : Nat) : Int) = some (0, Mc') ∧ l226 g' 37 Mr1 y1 (L1.length : Int) 0 = some (0, Mr') ∧ Fin2 Mc' Mr' S n n' cs ρ ρ' ∧ NV Mc' Mr' S n n' ρ ρ' [] k' ∧ Cv Mc Mc' n ∧ Rv Mr Mr' ∧ k' ≤ n ∧ (∀ y, Mc 31 y ≠ -2 → Mc' 31 y ≠ -2) ∧ (∀ p ∈ ((c, u) :: L), Mc' 31 p.1 ≠ -2) ∧ ∀ y, y < n → Mc' 31 y ≠ -2 → P y := by
        intro Mc1 Mr1 w k1 L1 g' hc1 hr1 fg e31 hw nv hg' hsub hPL hcase
        have F1 : Fin2 Mc1 Mr1 S n n' cs ρ ρ' := Fin2_same h ⟨hc1.1 26 (by decide) (by decide) (by decide) (by decide) (by decide), hc1.1 27 (by decide) (by decide) (by decide) (by decide) (by decide), hc1.1 28 (by decide) (by decide) (by decide) (by decide) (by decide)⟩ ⟨hr1.1 76 (by decide) (by decide) (by decide) (by decide) (by decide), hr1.1 77 (by decide) (by decide) (by decide) (by decide) (by decide), hr1.1 78 (by decide) (by decide) (by decide) (by decide) (by decide)⟩ fg (Fr_same (fun a h1 h2 => hr1.1 a (by omega) (by omega) (by omega) (by omega) (by omega)) (hr1.2 28 (by decide)) h.2.1)
        have fin : k1 ≤ sn Mc1 n → 2 * n + L1.length ≤ d + 2 * sn Mc1 n → sn Mc1 n ≤ x3 + 1 → x3 + 1 + L1.length ≤ 1 + 2 * sn Mc1 n → ∃ (Mc' Mr' : Mm) (k' : Nat), l130 f 19 Mc1 x1 (L1.length : Int) ((x3 + 1 : Nat) : Int) = some (0, Mc') ∧ l226 g' 37 Mr1 y1 (L1.length : Int) 0 = some (0, Mr') ∧ Fin2 Mc' Mr' S n n' cs ρ ρ' ∧ NV Mc' Mr' S n n' ρ ρ' [] k' ∧ Cv Mc Mc' n ∧ Rv Mr Mr' ∧ k' ≤ n ∧ (∀ y, Mc 31 y ≠ -2 → Mc' 31 y ≠ -2) ∧ (∀ p ∈ ((c, u) :: L), Mc' 31 p.1 ≠ -2) ∧ ∀ y, y < n → Mc' 31 y ≠ -2 → P y := fun a1 a2 a3 a4 => by
          have pe : ∀ x, psc Mc1 ρ x = psc Mc ρ x := fun x => by
            unfold psc
            rw [hc1.1 26 (by decide) (by decide) (by decide) (by decide) (by decide), hc1.1 27 (by decide) (by decide) (by decide) (by decide) (by decide), hc1.1 28 (by decide) (by decide) (by decide) (by decide) (by decide)]
          obtain ⟨Mc', Mr', k', r1, r2, r3, r4, r5, r6, r7, r8, r9, r10⟩ := ih L1 k1 f g' (x3 + 1) Mc1 Mr1 F1 nv a1 a2 a3 a4 (by omega) (by omega) (fun x m hx hm => hP x m hx (by rw [← pe]; exact hm)) (fun y hy hs => by
            rw [e31] at hs
            by_cases e : y = c
            · rw [e]; exact hP2 (c, u) List.mem_cons_self
            · rw [if_neg e] at hs; exact hP1 y hy hs) hPL
          refine ⟨Mc', Mr', k', r1, r2, r3, r4, Cv_trans hc1 r5, Rv_trans hr1 r6, r7, fun y hy => r8 y ?_, fun p hp => ?_, r10⟩
          · rw [e31]; split
            · exact hw
            · exact hy
          · rcases List.mem_cons.mp hp with z | z
            · rw [z]; exact r8 c (by rw [e31, if_pos rfl]; exact hw)
            · exact r9 p (hsub p z)
        rcases hcase with ⟨b1, b2, b3, b4⟩ | ⟨b1, b2, b3⟩
        · have es : sn Mc1 n = sn Mc n := by
            unfold sn
            refine cn_eq (fun x _ => ?_)
            rw [e31]
            by_cases e : x = c
            · rw [if_pos e, b2, e]
            · rw [if_neg e]
          rw [b4] at fin ⊢
          exact fin (by omega) (by omega) (by omega) (by omega)
        · have es := sn_up cl hw b1 e31
          exact fin (by omega) (by omega) (by omega) (by omega)
      have e26 : ∀ {M1 : Mm}, Cv Mc M1 n → M1 26 = Mc 26 ∧ M1 27 = Mc 27 ∧ M1 28 = Mc 28 := fun z => ⟨z.1 26 (by decide) (by decide) (by decide) (by decide) (by decide), z.1 27 (by decide) (by decide) (by decide) (by decide) (by decide), z.1 28 (by decide) (by decide) (by decide) (by decide) (by decide)⟩
      have e76 : ∀ {M1 : Mm}, Rv Mr M1 → M1 76 = Mr 76 := fun z => z.1 76 (by decide) (by decide) (by decide) (by decide) (by decide)
      by_cases sc : Mc 31 c = -2
      · rw [if_neg (fun z => z sc)]
        obtain ⟨M1, p1, p2, p3, p4, p5, p6, p7, p8⟩ := f131_ok (L := L.map Prod.fst) h.1 cl v1.1 (by
          have : sn Mc n < n := by
            have := cn_less (p := fun _ => true) (q := fun y => decide (Mc 31 y ≠ -2)) (u := c) rfl (decide_eq_false (fun z => z sc)) cl
            have e1 := cn_sub_lt (p := fun y => decide (Mc 31 y ≠ -2)) (q := fun _ => true) (u := c) rfl (decide_eq_false (fun z => z sc)) cl (fun _ _ _ => rfl)
            have e2 := cn_le (fun _ => true) n
            exact Nat.lt_of_lt_of_le e1 e2
          omega) s2.2 (by omega)
        rw [lm] at p1
        rw [p1, bs_]
        dsimp only
        rw [if_pos (show rg (((x3 + 1 : Nat)) : Int) by omega)]
        have cv : Cv Mc M1 n := ⟨p4, p5, p7⟩
        by_cases leaf : Mc 26 c ≤ 1
        · have ps : psc Mc ρ c = [] := by unfold psc; rw [if_neg (by omega), if_neg (by omega)]
          obtain ⟨g', Mr1, r1, r2, r3, r4, r5, r6, r7, r8⟩ := refl0 (Or.inr (by omega))
          rw [ps, List.nil_append] at p3
          rw [ps, List.nil_append, lm, r2]
          rcases p8 with ⟨z, -⟩ | ⟨z1, z2, z3⟩
          · omega
          · have w31 : ∀ y, M1 31 y = if y = c then -1 else Mc 31 y := fun y => by
              have := p6 y
              rw [if_neg z1] at this
              exact this
            exact keep M1 Mr1 (-1) k L g' cv r3 p2 w31 (by omega) (NV_keep h v0 hq (e26 cv) (e76 r3) ⟨z2, r5⟩ w31 r4 (Or.inr ⟨sc, z1, rfl⟩) z3 r6 r7 ⟨p3, r8, fun p hp => v4 p (List.mem_cons_of_mem _ hp)⟩ (fun _ z => z) (fun _ m hm => by
              rcases mu_iff.mp hm with ⟨z, -⟩ | ⟨z, -⟩ <;> omega)) r1 (fun _ z => z) (fun p hp => hP2 p (List.mem_cons_of_mem _ hp)) (Or.inr ⟨sc, by omega, by omega⟩)
        · have un : ¬ Mr 80 q = 1 := fun z => (v9' (by omega)).mpr z sc
          obtain ⟨g', Mr1, r1, r2, r3, r4, r5, r6⟩ := l226_un (f := g) (x1 := y1) h.2.1 ul hq s3 un v1.2 (by omega) (by omega)
          rw [show (u :: L.map Prod.snd).length = L.length + 1 by simp] at r2
          obtain ⟨P, P1, P2, P3, P4⟩ := pairs_of h t tc hq
          rw [r2]
          have lc : (psc Mc ρ c ++ L.map Prod.fst).length = (P ++ L).length := by rw [← P1]; simp
          have lr : (psr Mr q ++ L.map Prod.snd).length = (P ++ L).length := by rw [← P2]; simp
          rw [lc, lr]
          by_cases k2 : Mc 26 c = 2
          · rcases p8 with ⟨z1, z2, z3⟩ | ⟨z1, -⟩
            · rcases r6 with ⟨y1, y2, y3, y4⟩ | ⟨y1, -⟩
              · have ps : psc Mc ρ c = [] := by unfold psc; rw [if_neg (by omega), if_neg (by omega)]
                have ps2 : psr Mr q = [] := by unfold psr; rw [if_neg (by omega), if_neg (by omega)]
                have PN : P = [] := List.length_eq_zero_iff.mp (by rw [← List.length_map (f := Prod.fst), P1, ps]; rfl)
                rw [PN, List.nil_append]
                rw [ps, List.nil_append] at p3
                rw [ps2, List.nil_append] at r3
                have w31 : ∀ y, M1 31 y = if y = c then (k : Int) else Mc 31 y := fun y => by
                  have := p6 y
                  rw [if_pos k2] at this
                  exact this
                exact keep M1 Mr1 (k : Int) (k + 1) L g' cv r4 p2 w31 (by omega) (NV_var h v0 hq (e26 cv) (e76 r4) ⟨z2, y2⟩ w31 r5 sc k2 z3 y3 y4 ⟨p3, r3⟩) r1 (fun _ z => z) (fun p hp => hP2 p (List.mem_cons_of_mem _ hp)) (Or.inr ⟨sc, by omega, by omega⟩)
              · omega
            · omega
          · rcases p8 with ⟨z1, -⟩ | ⟨z1, z2, z3⟩
            · omega
            · rcases r6 with ⟨y1, -⟩ | ⟨y1, y2, y3, y4⟩
              · omega
              · have w31 : ∀ y, M1 31 y = if y = c then -1 else Mc 31 y := fun y => by
                  have := p6 y
                  rw [if_neg k2] at this
                  exact this
                rw [← P1, ← List.map_append] at p3
                rw [← P2, ← List.map_append] at r3
                exact keep M1 Mr1 (-1) k (P ++ L) g' cv r4 p2 w31 (by omega) (NV_keep h v0 hq (e26 cv) (e76 r4) ⟨z2, y2⟩ w31 r5 (Or.inr ⟨sc, k2, rfl⟩) z3 y3 y4 ⟨p3, r3, fun p hp => (List.mem_append.mp hp).elim (P4 p) (fun z => v4 p (List.mem_cons_of_mem _ z))⟩ (fun m z => by rw [List.map_append]; exact List.mem_append.mpr (Or.inr z)) (fun _ m hm => by rw [List.map_append, P1]; exact List.mem_append.mpr (Or.inl (mu_ps hm)))) r1 (fun p z => List.mem_append.mpr (Or.inr z)) (fun p hp => (List.mem_append.mp hp).elim (fun z => hP c p.1 (hP2 (c, u) List.mem_cons_self) (by rw [← P1]; exact List.mem_map_of_mem z)) (fun z => hP2 p (List.mem_cons_of_mem _ z))) (Or.inr ⟨sc, by omega, by rw [List.length_append]; omega⟩)
      · rw [if_pos sc]
        have m1 : Mr 80 q = 1 ∨ Mr 76 q ≤ 1 := by
          by_cases z : Mc 26 c ≤ 1
          · exact Or.inr (by omega)
          · exact Or.inl ((v9' (by omega)).mp sc)
        obtain ⟨g', Mr1, r1, r2, r3, r4, r5, r6, r7, r8⟩ := refl0 m1
        rw [r2]
        have w31 : ∀ y, Mc 31 y = if y = c then Mc 31 c else Mc 31 y := fun y => by
          by_cases e : y = c
          · rw [if_pos e, e]
          · rw [if_neg e]
        have cv : Cv Mc Mc n := ⟨fun _ _ _ _ _ _ => rfl, fun _ _ => rfl, fun _ _ => rfl⟩
        exact keep Mc Mr1 (Mc 31 c) k L g' cv r3 h.1 w31 sc (NV_keep h v0 hq ⟨rfl, rfl, rfl⟩ (e76 r3) ⟨v1.1, r5⟩ w31 r4 (Or.inl ⟨sc, rfl⟩) (fun _ => rfl) r6 r7 ⟨s2.2, r8, fun p hp => v4 p (List.mem_cons_of_mem _ hp)⟩ (fun _ z => z) (fun z => absurd z sc)) r1 (fun _ z => z) (fun p hp => hP2 p (List.mem_cons_of_mem _ hp)) (Or.inl ⟨sc, rfl, rfl, rfl⟩)
end NUM
