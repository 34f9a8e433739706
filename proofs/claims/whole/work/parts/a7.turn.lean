/-! Run: a value meets the row that waits for it. -/
section TURN
variable {M0 R0 : Mm} {N NT : Nat} {G : Nat → UGt} {Mc Mr : Mm} {φ : Nat → Nat} {τ : Nat → Ty} {κ : Nat → Nat × Nat × Nat} {Es : Nat → Int → Ty} {n m nf ne : Nat} {ω : Nat → Ty} {w s lim : Nat}
theorem Sj_pop (sc : Sj M0 R0 N NT G Mc Mr φ τ κ Es n m nf ne ω (w + 1) s lim) {x : Int} : Sj M0 R0 N NT G (up Mc 47 6 (w : Int)) (up Mr 53 71 x) φ τ κ Es n m nf ne ω w s lim ∧ Grw Mc Mr φ τ κ Es n m nf ne (up Mc 47 6 (w : Int)) (up Mr 53 71 x) φ τ κ Es n m nf ne := by
  obtain ⟨b, g⟩ := Bas_fr (Mc' := up Mc 47 6 (w : Int)) (Mr' := up Mr 53 71 x) (fun a h1 _ => up_cell h1) (up_at (by decide)) (fun a h1 _ => up_cell h1) (fun j hj => up_at (by omega)) sc.1
  obtain ⟨t1, t2, t3, t4, t5, t6⟩ := sc.2.1
  exact ⟨⟨b, ⟨by rw [up_at (by decide)]; exact t1, by rw [up_at (by decide)]; exact t2, by rw [up_at (by decide)]; exact t3, by rw [up_at (by decide)]; exact t4, by rw [up_at (by decide)]; exact t5, by rw [up_at (by decide)]; exact t6⟩, up_same _ _ _ _, fun k hk => WOK_grow sc.1.2.2.2.2 g (fun j _ _ => by rw [up_cell (by decide)]) (fun a h1 h2 => by rw [up_cell (by omega)]) ⟨rfl, rfl⟩ (sc.2.2.2 k (by omega))⟩, g⟩
theorem f174_k {M : Mm} {w : Nat} (h6 : M 47 6 = ((w + 1 : Nat) : Int)) (hw : w < 903) : f174 M = if M 51 (5 * w) = 0 then (f166 (up (up (up (up (up M 47 6 (w : Int)) 47 10 (M 51 (5 * w + 1))) 47 11 (M 51 (5 * w + 2))) 47 12 (M 51 (5 * w + 3))) 47 13 (M 51 (5 * w + 4))) 1 (M 47 14) (-1) (-1) (-1)).bind (fun z => some (0, z.2)) else if M 51 (5 * w) = 1 then (f175 (up M 47 6 (w : Int)) (M 51 (5 * w + 1)) (M 47 14)).bind (fun z => some (0, z.2)) else if M 51 (5 * w) = 2 then (f175 (up M 47 6 (w : Int)) (M 47 14) (M 51 (5 * w + 1))).bind (fun z => some (0, z.2)) else (f181 (up M 47 6 (w : Int)) (M 51 (5 * w + 1)) (M 47 14) (M 51 (5 * w + 2)) (M 51 (5 * w + 3))).bind (fun z => some (0, z.2)) := by
  unfold f174
  rw [h6, show ((w + 1 : Nat) : Int) - 1 = (w : Int) by omega, if_pos (by unfold rg; omega), if_pos (by omega), if_pos (by omega), show Int.toNat ((w : Int) * 5) = 5 * w by omega, show Int.toNat ((w : Int) * 5 + 1) = 5 * w + 1 by omega, show Int.toNat ((w : Int) * 5 + 2) = 5 * w + 2 by omega, show Int.toNat ((w : Int) * 5 + 3) = 5 * w + 3 by omega, show Int.toNat ((w : Int) * 5 + 4) = 5 * w + 4 by omega]
  by_cases k0 : M 51 (5 * w) = 0
  · rw [if_pos k0, if_pos k0, if_pos (by omega), if_pos (by omega), if_pos (by omega)]
  · rw [if_neg k0, if_neg k0]
    by_cases k1 : M 51 (5 * w) = 1
    · rw [if_pos k1, if_pos k1]
    · rw [if_neg k1, if_neg k1]
      by_cases k2 : M 51 (5 * w) = 2
      · rw [if_pos k2, if_pos k2]
      · rw [if_neg k2, if_neg k2, if_pos (by omega), if_pos (by omega)]
theorem f244_h {M : Mm} {w : Nat} (h71 : M 53 71 = ((w + 1 : Nat) : Int)) (hw : w < 2000) : (M 103 w = 1 → f244 M = (f243 (up M 53 71 (w : Int)) 2 (M 53 78) 0 0 0 0).bind (fun zq14 => (f243 zq14.2 0 (M 104 w) (M 105 w) (M 106 w) (M 107 w) (M 108 w)).bind (fun zq20 => some (0, zq20.2)))) ∧ (M 103 w = 2 → f244 M = (f250 (up M 53 71 (w : Int)) (M 104 w) (M 53 78)).bind (fun z => some (0, z.2))) ∧ (M 103 w = 4 → f244 M = (f250 (up M 53 71 (w : Int)) (M 53 78) (M 104 w)).bind (fun z => some (0, z.2))) := by
  unfold f244
  rw [h71, show ((w + 1 : Nat) : Int) - 1 = (w : Int) by omega, if_pos (by unfold rg; omega), if_pos (by omega), Int.toNat_natCast]
  refine ⟨fun h => ?_, fun h => ?_, fun h => ?_⟩
  · rw [h, if_neg (by decide), if_pos rfl]
  · rw [h, if_neg (by decide), if_neg (by decide), if_pos rfl]
  · rw [h, if_neg (by decide), if_neg (by decide), if_neg (by decide), if_neg (by decide), if_pos rfl]
/-- the function is there: now the argument -/
theorem turn_oth (sv : SV M0 R0 N NT G Mc Mr φ τ κ Es n m nf ne ω (w + 1) s lim) (hw : w < 900) (hk : Mc 51 (5 * w) = 0) : ∃ (Mc' Mr' : Mm) (ω' : Nat → Ty), f174 Mc = some (0, Mc') ∧ f244 Mr = some (0, Mr') ∧ SE M0 R0 N NT G Mc' Mr' φ τ κ Es n m nf ne ω' (w + 1) s lim ∧ (∀ j, j < 5 * w → Mc' 51 j = Mc 51 j) ∧ Mc' 51 (5 * w) = 1 ∧ (Mc' 51 (5 * w + 1) = Mc 47 14) ∧ (∀ k, k ≤ w → ω' k = ω k) ∧ (∀ a, a ≠ 47 → a ≠ 51 → Mc' a = Mc a) ∧ Mc' 47 12 = Mc 51 (5 * w + 3) := by
  obtain ⟨sc, h71, h10, i, hi, h14, h78, ht⟩ := sv
  rcases sc.2.2.2 w (by omega) with ⟨a, b, u, p, f, η, ν, c1, c2, c3, c4, c5, c6, c7, c8, c9, d1, d2⟩ | ⟨a, _⟩ | ⟨a, _⟩ | ⟨a, _⟩
  · obtain ⟨sc1, g1⟩ := Sj_pop (x := (w : Int)) sc
    have hc := f174_k sc.2.2.1 (by omega)
    rw [if_pos hk, c2, c3, c4, c5, h14] at hc
    have hr := (f244_h h71 (by omega)).1 b
    rw [h78, c6, c7, c8, c9, d1] at hr
    obtain ⟨sc2, g2⟩ := Sj_fr (Mc' := up (up (up (up (up Mc 47 6 (w : Int)) 47 10 ((G u).2.1 p : Int)) 47 11 ((60 * u + p : Nat) : Int)) 47 12 ν) 47 13 (f : Int)) (Mr' := up Mr 53 71 (w : Int)) (s' := s) (fun a ha => by rw [up_cell ha, up_cell ha, up_cell ha, up_cell ha]) (by rw [up_at (by decide), up_at (by decide), up_at (by decide), up_at (by decide)]) (by rw [up_at (by decide), up_at (by decide), up_at (by decide), up_at (by decide)]) (fun _ _ => rfl) (fun _ _ => rfl) (by
      obtain ⟨t1, t2, t3, t4, t5, t6⟩ := sc1.2.1
      exact ⟨by rw [up_at (by decide), up_at (by decide), up_at (by decide), up_at (by decide)]; exact t1, t2, by rw [up_at (by decide), up_at (by decide), up_at (by decide), up_at (by decide)]; exact t3, t4, by rw [up_at (by decide), up_at (by decide), up_at (by decide), up_at (by decide)]; exact t5, t6⟩) sc1
    have w6 : up (up (up (up (up Mc 47 6 (w : Int)) 47 10 ((G u).2.1 p : Int)) 47 11 ((60 * u + p : Nat) : Int)) 47 12 ν) 47 13 (f : Int) 47 6 = (w : Int) := sc2.2.2.1
    rw [f166_eq w6 (by omega), bs_] at hc
    rw [f243_eq (t := w) (up_same _ _ _ _) (by omega), bs_] at hr
    dsimp only at hc hr
    rw [f243_eq (t := w + 1) ptk_71 (by omega), bs_] at hr
    rw [d2] at ht
    obtain ⟨sc3, g3⟩ := Sj_push (x1 := 1) (x2 := (i : Int)) (x3 := -1) (x4 := -1) (x5 := -1) (y1 := 2) (y2 := (φ i : Int)) (y3 := 0) (y4 := 0) (y5 := 0) (y6 := 0) (T := sub (Es η) ((G u).2.2.2.1 p)) sc2 (fun _ => Or.inr (Or.inl ⟨pw_row.1, ptk_row.1, i, hi, pw_row.2.1, ptk_row.2.1, by rw [fu_eq, fu_ne (by omega)]; exact ht⟩))
    obtain ⟨b4, g4⟩ := Bas_fr (Mc' := pw (up (up (up (up (up Mc 47 6 (w : Int)) 47 10 ((G u).2.1 p : Int)) 47 11 ((60 * u + p : Nat) : Int)) 47 12 ν) 47 13 (f : Int)) w 1 (i : Int) (-1) (-1) (-1)) (Mr' := ptk (ptk (up Mr 53 71 (w : Int)) w 2 (φ i : Int) 0 0 0 0) (w + 1) 0 (u : Int) ((G u).2.1 p : Int) (p : Int) (pe φ ν) (η : Int)) (fun _ _ _ => rfl) rfl (fun a h1 h2 => ptk_cell h1 h2) (fun j hj => ptk_53 (by omega)) sc3.1
    have pl4 := PL_grow (Grw_trans (Grw_trans g1 g2) (Grw_trans g3 g4)) (Nat.le_refl _) (Nat.le_refl _) c1
    have row := ptk_row (M := ptk (up Mr 53 71 (w : Int)) w 2 (φ i : Int) 0 0 0 0) (m := w + 1) (x1 := 0) (x2 := (u : Int)) (x3 := ((G u).2.1 p : Int)) (x4 := (p : Int)) (x5 := pe φ ν) (x6 := (η : Int))
    have r71 := ptk_71 (M := ptk (up Mr 53 71 (w : Int)) w 2 (φ i : Int) 0 0 0 0) (m := w + 1) (x1 := 0) (x2 := (u : Int)) (x3 := ((G u).2.1 p : Int)) (x4 := (p : Int)) (x5 := pe φ ν) (x6 := (η : Int))
    have rowc := pw_row (M := up (up (up (up (up Mc 47 6 (w : Int)) 47 10 ((G u).2.1 p : Int)) 47 11 ((60 * u + p : Nat) : Int)) 47 12 ν) 47 13 (f : Int)) (n := w) (x1 := 1) (x2 := (i : Int)) (x3 := -1) (x4 := -1) (x5 := -1)
    refine ⟨_, _, fu ω (w + 1) (sub (Es η) ((G u).2.2.2.1 p)), hc, hr, SE_mk (u := u) (p := p) (f := f) (η := η) (ν := ν) sc3 b4 g4 (fun _ _ _ _ _ => rfl) (fun _ _ => rfl) (fun j hj => ptk_53 (by omega)) r71 (fun a k h1 h2 h3 => ptk_old (by omega) (by omega)) pl4 ⟨?_, ?_, ?_, ?_, row.1, row.2.1, row.2.2.1, row.2.2.2.1, row.2.2.2.2.1, row.2.2.2.2.2, fu_eq⟩, fun j hj => ?_, rowc.1, by rw [h14]; exact rowc.2.1, fun k hk => fu_ne (by omega), fun a h1 h2 => by rw [pw_cell h1 h2, up_cell h1, up_cell h1, up_cell h1, up_cell h1, up_cell h1], by rw [pw_47 (by decide), up_at (by decide), up_same, c4]⟩
    · rw [pw_47 (by decide), up_at (by decide), up_at (by decide), up_at (by decide), up_same]
    · rw [pw_47 (by decide), up_at (by decide), up_at (by decide), up_same]
    · rw [pw_47 (by decide), up_at (by decide), up_same]
    · rw [pw_47 (by decide), up_same]
    · rw [pw_old hj, up_cell (by decide), up_cell (by decide), up_cell (by decide), up_cell (by decide), up_cell (by decide)]
  · omega
  · omega
  · omega
/-- a call, or a fold that goes on -/
theorem turn_call (sv : SV M0 R0 N NT G Mc Mr φ τ κ Es n m nf ne ω (w + 1) s lim) (hw : w < 900) (hk : Mc 51 (5 * w) = 1 ∨ Mc 51 (5 * w) = 2) : ∃ i j : Nat, i < n ∧ j < n ∧ ((Mc 51 (5 * w) = 1 ∧ Mc 51 (5 * w + 1) = (i : Int) ∧ Mc 47 14 = (j : Int)) ∨ (Mc 51 (5 * w) = 2 ∧ Mc 51 (5 * w + 1) = (j : Int) ∧ Mc 47 14 = (i : Int))) ∧ f174 Mc = (f175 (up Mc 47 6 (w : Int)) (i : Int) (j : Int)).bind (fun z => some (0, z.2)) ∧ f244 Mr = (f250 (up Mr 53 71 (w : Int)) (φ i : Int) (φ j : Int)).bind (fun z => some (0, z.2)) ∧ Sj M0 R0 N NT G (up Mc 47 6 (w : Int)) (up Mr 53 71 (w : Int)) φ τ κ Es n m nf ne ω w s lim ∧ τ i = tF (τ j) (ω w) := by
  obtain ⟨sc, h71, h10, v, hv, h14, h78, ht⟩ := sv
  obtain ⟨sc1, g1⟩ := Sj_pop (x := (w : Int)) sc
  have hc := f174_k sc.2.2.1 (by omega)
  rcases sc.2.2.2 w (by omega) with ⟨a, _⟩ | ⟨a, b, i, c1, c2, c3, c4⟩ | ⟨a, b, i, c1, c2, c3, c4⟩ | ⟨a, _⟩
  · omega
  · have hr := (f244_h h71 (by omega)).2.1 b
    rw [if_neg (by omega), if_pos a, c2, h14] at hc
    rw [h78, c3] at hr
    exact ⟨i, v, c1, hv, Or.inl ⟨a, c2, h14⟩, hc, hr, sc1, by rw [ht]; exact c4⟩
  · have hr := (f244_h h71 (by omega)).2.2 b
    rw [if_neg (by omega), if_neg (by omega), if_pos a, c2, h14] at hc
    rw [h78, c3] at hr
    exact ⟨v, i, hv, c1, Or.inr ⟨a, c2, h14⟩, hc, hr, sc1, by rw [ht]; exact c4⟩
  · omega
theorem turn_fold (sv : SV M0 R0 N NT G Mc Mr φ τ κ Es n m nf ne ω (w + 1) s lim) (hw : w < 900) (hk : Mc 51 (5 * w) = 3) : ∃ g z l r : Nat, Mc 51 (5 * w + 1) = (g : Int) ∧ Mc 47 14 = (z : Int) ∧ Mc 51 (5 * w + 2) = (l : Int) ∧ Mc 51 (5 * w + 3) = (r : Int) ∧ f174 Mc = (f181 (up Mc 47 6 (w : Int)) (g : Int) (z : Int) (l : Int) (r : Int)).bind (fun z => some (0, z.2)) ∧ FO M0 R0 N NT G (up Mc 47 6 (w : Int)) Mr φ τ κ Es n m nf ne ω w s lim g z l r := by
  obtain ⟨sc, h71, h10, v, hv, h14, h78, ht⟩ := sv
  obtain ⟨sc1, g1⟩ := Sj_pop (x := ((w + 1 : Nat) : Int)) sc
  have em : up Mr 53 71 ((w + 1 : Nat) : Int) = Mr := by
    funext a j
    by_cases e : a = 53 ∧ j = 71
    · obtain ⟨rfl, rfl⟩ := e
      rw [up_same, h71]
    · exact up_oth (by omega)
  rw [em] at sc1 g1
  have hc := f174_k sc.2.2.1 (by omega)
  rcases sc.2.2.2 w (by omega) with ⟨a, _⟩ | ⟨a, _⟩ | ⟨a, _⟩ | ⟨a, b, g, l, r, c1, c2, c3, c4, c5, c6, c7, c8, d1, d2⟩
  · omega
  · omega
  · omega
  · rw [if_neg (by omega), if_neg (by omega), if_neg (by omega), c3, c4, c5, h14] at hc
    exact ⟨g, v, l, r, c3, h14, c4, c5, hc, sc1, h71, b, c6, h78, Chn_grow sc.1.2.2.2.2 g1 c2 r _ d2 c7, c8, by rw [ht, d1], by rw [lenC_grow g1 c2]; exact d2, c1, hv, c2⟩
end TURN
