/-! Run: a fold goes on. -/
section FOLD2
variable {M0 R0 : Mm} {N NT : Nat} {G : Nat → UGt} {Mc Mr : Mm} {φ : Nat → Nat} {τ : Nat → Ty} {κ : Nat → Nat × Nat × Nat} {Es : Nat → Int → Ty} {n m nf ne : Nat} {ω : Nat → Ty} {w s lim : Nat}
theorem f244_5 {M : Mm} {w : Nat} (h71 : M 53 71 = ((w + 1 : Nat) : Int)) (hw : w < 2000) (h103 : M 103 w = 5) : f244 M = if M 105 w = -1 then some (0, up M 53 71 (w : Int)) else (f246 (up M 53 71 (w : Int))).bind (fun zq49 => if ¬ zq49.1 = 0 then (if 0 ≤ M 105 w ∧ M 105 w < 6000 then (f243 zq49.2 5 (M 104 w) (zq49.2 97 (Int.toNat (M 105 w))) 0 0 0).bind (fun zq57 => (f243 zq57.2 4 (zq57.2 53 78) 0 0 0 0).bind (fun zq63 => (f250 zq63.2 (M 104 w) (zq63.2 96 (Int.toNat (M 105 w)))).bind (fun zq69 => some (0, zq69.2)))) else none) else (some (0, zq49.2))) := by
  unfold f244
  rw [h71, show ((w + 1 : Nat) : Int) - 1 = (w : Int) by omega, if_pos (by unfold rg; omega), if_pos (by omega), Int.toNat_natCast, h103, if_neg (by decide), if_neg (by decide), if_neg (by decide), if_neg (by decide), if_neg (by decide), if_pos rfl]
/-- nothing is left -/
theorem fold_0 {g z l : Nat} (fo : FO M0 R0 N NT G Mc Mr φ τ κ Es n m nf ne ω w s lim g z l 0) (hw : w < 2000) : ∃ (Mc' Mr' : Mm), f181 Mc (g : Int) (z : Int) (l : Int) 0 = some (0, Mc') ∧ f244 Mr = some (0, Mr') ∧ SV M0 R0 N NT G Mc' Mr' φ τ κ Es n m nf ne ω w s lim ∧ Grw Mc Mr φ τ κ Es n m nf ne Mc' Mr' φ τ κ Es n m nf ne ∧ Mc' 51 = Mc 51 ∧ Mc' 49 = Mc 49 ∧ Mc' 47 14 = (z : Int) := by
  obtain ⟨sc, h71, h103, h104, h78, ch, ty, tz, hr, hg, hz, hl⟩ := fo
  have ch : Mr 105 w = -1 := ch
  have hc : f181 Mc (g : Int) (z : Int) (l : Int) 0 = some (0, up (up Mc 47 14 (z : Int)) 47 10 (-1)) := by
    unfold f181 f162
    rw [if_neg (fun q => q rfl), bs_]
  have hrr : f244 Mr = some (0, up Mr 53 71 (w : Int)) := by
    rw [f244_5 h71 hw h103, if_pos ch]
  obtain ⟨sc1, g1⟩ := Sj_fr (Mc' := Mc) (Mr' := up Mr 53 71 (w : Int)) (s' := s) (fun _ _ => rfl) rfl rfl (fun a ha => up_cell ha) (fun j hj => up_at (by omega)) (by
    obtain ⟨t1, t2, t3, t4, t5, t6⟩ := sc.2.1
    exact ⟨t1, by rw [up_at (by decide)]; exact t2, t3, by rw [up_at (by decide)]; exact t4, t5, by rw [up_at (by decide)]; exact t6⟩) sc
  obtain ⟨sc2, g2⟩ := Sj_fr (Mc' := up (up Mc 47 14 (z : Int)) 47 10 (-1)) (Mr' := up Mr 53 71 (w : Int)) (s' := s) (fun a ha => by rw [up_cell ha, up_cell ha]) (by rw [up_at (by decide), up_at (by decide)]) (by rw [up_at (by decide), up_at (by decide)]) (fun _ _ => rfl) (fun _ _ => rfl) (by
    obtain ⟨t1, t2, t3, t4, t5, t6⟩ := sc1.2.1
    exact ⟨by rw [up_at (by decide), up_at (by decide)]; exact t1, t2, by rw [up_at (by decide), up_at (by decide)]; exact t3, t4, by rw [up_at (by decide), up_at (by decide)]; exact t5, t6⟩) sc1
  exact ⟨_, _, hc, hrr, ⟨sc2, up_same _ _ _ _, up_same _ _ _ _, z, hz, by rw [up_at (by decide), up_same], by rw [up_at (by decide)]; exact h78, tz⟩, Grw_trans g1 g2, by rw [up_cell (by decide), up_cell (by decide)], by rw [up_cell (by decide), up_cell (by decide)], by rw [up_at (by decide), up_same]⟩
/-- no step is left -/
theorem fold_no {g z l r : Nat} (fo : FO M0 R0 N NT G Mc Mr φ τ κ Es n m nf ne ω w s lim g z l (r + 1)) (hw : w < 2000) (hs : lim = s) : f181 Mc (g : Int) (z : Int) (l : Int) ((r + 1 : Nat) : Int) = some (0, up Mc 47 9 1) ∧ f244 Mr = some (0, up (up Mr 53 71 (w : Int)) 53 60 1) := by
  subst hs
  obtain ⟨sc, h71, h103, h104, h78, ch, ty, tz, hr, hg, hz, hl⟩ := fo
  obtain ⟨z', c1, c2, c3, c4⟩ := ch
  obtain ⟨t1, t2, t3, t4, t5, t6⟩ := sc.2.1
  refine ⟨?_, ?_⟩
  · unfold f181
    rw [if_pos (by omega), f159_n t1 t3, bs_]
    rfl
  · rw [f244_5 h71 hw h103, if_neg (by omega), f246_n (by rw [up_at (by decide)]; exact t2) (by rw [up_at (by decide)]; exact t4), bs_]
    rfl
/-- one element more -/
theorem fold_go {g z l r : Nat} (fo : FO M0 R0 N NT G Mc Mr φ τ κ Es n m nf ne ω w s lim g z l (r + 1)) (hw : w + 3 ≤ 903) (hs : s < lim) (hl3 : lim ≤ 300) (hn : n < 602) (hm : m ≤ 6000) (hnf : nf < 302) : ∃ (Mc1 A B : Mm) (e : Nat) (ω' : Nat → Ty), f181 Mc (g : Int) (z : Int) (l : Int) ((r + 1 : Nat) : Int) = some (0, Mc1) ∧ f156 Mc1 = some 1 ∧ Mc1 47 10 = -1 ∧ f174 Mc1 = (f175 A (g : Int) (e : Int)).bind (fun y => some (0, y.2)) ∧ f244 Mr = (f250 B (φ g : Int) (φ e : Int)).bind (fun y => some (0, y.2)) ∧ Sj M0 R0 N NT G A B φ τ κ Es n m nf ne ω' (w + 2) (s + 1) lim ∧ Grw Mc Mr φ τ κ Es n m nf ne A B φ τ κ Es n m nf ne ∧ B 53 71 = ((w + 2 : Nat) : Int) ∧ e < n ∧ τ g = tF (τ e) (ω' (w + 2)) ∧ (∀ k, k ≤ w → ω' k = ω k) ∧ e = elC Mc l r ∧ (∀ j, j < 5 * w → A 51 j = Mc 51 j) ∧ A 51 (5 * w) = 3 ∧ A 51 (5 * w + 1) = (g : Int) ∧ A 51 (5 * w + 2) = (l : Int) ∧ A 51 (5 * w + 3) = (r : Int) ∧ A 51 (5 * (w + 1)) = 2 ∧ A 51 (5 * (w + 1) + 1) = (z : Int) ∧ ∀ a, a ≠ 47 → a ≠ 51 → A a = Mc a := by
  obtain ⟨sc, h71, h103, h104, h78, ch, ty, tz, hr, hg, hz, hl⟩ := fo
  obtain ⟨z', c1, c2, c3, c4⟩ := ch
  obtain ⟨a, tg, tl⟩ := ty
  obtain ⟨t1, t2, t3, t4, t5, t6⟩ := sc.2.1
  have ck := sc.1.2.2.2.2
  obtain ⟨e1, e2, e3⟩ := el_ok ck hl (k := r) (by omega)
  have lb := lenC_le ck (l + 1) l (by omega) hl
  have hel := f164_el ck (by omega) hl (K := r) (by omega)
  have ta : a = τ (elC Mc l r) := tL_inj (tl.symm.trans e3)
  generalize hE : elC Mc l r = E at *
  obtain ⟨sc1, g1⟩ := Sj_step (x := (w : Int)) sc
  have w6 : up (up Mc 47 9 0) 47 7 ((s : Int) + 1) 47 6 = (w : Int) := sc1.2.2.1
  have A0 : ∀ x, x ≠ 47 → up (up Mc 47 9 0) 47 7 ((s : Int) + 1) x = Mc x := fun x hx => by rw [up_cell hx, up_cell hx]
  generalize hMc1 : up (up Mc 47 9 0) 47 7 ((s : Int) + 1) = C at *
  have B71 : up (up Mr 53 71 (w : Int)) 53 58 ((s : Int) + 1) 53 71 = (w : Int) := by rw [up_at (by decide), up_same]
  have B78 : up (up Mr 53 71 (w : Int)) 53 58 ((s : Int) + 1) 53 78 = (φ z : Int) := by rw [up_at (by decide), up_at (by decide)]; exact h78
  have B0 : ∀ x, x ≠ 53 → up (up Mr 53 71 (w : Int)) 53 58 ((s : Int) + 1) x = Mr x := fun x hx => by rw [up_cell hx, up_cell hx]
  have h246 := f246_y (M := up Mr 53 71 (w : Int)) (s := s) (lim := lim) (by rw [up_at (by decide)]; exact t2) (by rw [up_at (by decide)]; exact t4) hs hl3
  have h159 := f159_y (M := Mc) t1 t3 hs hl3
  rw [hMc1] at h159
  generalize hMr1 : up (up Mr 53 71 (w : Int)) 53 58 ((s : Int) + 1) = D at *
  -- rows
  have ch1 : Chn C D φ m l r (Mr 97 z') := by
    have := Chn_grow ck g1 hl r (Mr 97 z') (by omega) c4
    exact this
  obtain ⟨sc2, g2⟩ := Sj_push (x1 := 3) (x2 := (g : Int)) (x3 := (l : Int)) (x4 := (r : Int)) (x5 := -1) (y1 := 5) (y2 := (φ g : Int)) (y3 := Mr 97 z') (y4 := 0) (y5 := 0) (y6 := 0) (T := ω w) sc1 (fun g' => Or.inr (Or.inr (Or.inr ⟨pw_row.1, ptk_row.1, g, l, r, hg, hl, pw_row.2.1, pw_row.2.2.1, pw_row.2.2.2.1, ptk_row.2.1, by rw [ptk_row.2.2.1]; exact Chn_grow sc1.1.2.2.2.2 g' hl r _ (by rw [lenC_grow g1 hl]; omega) ch1, ⟨a, by rw [fu_ne (by omega)]; exact tg, tl⟩, by rw [fu_eq, fu_ne (by omega)], by rw [lenC_grow g' hl, lenC_grow g1 hl]; omega⟩)))
  obtain ⟨sc3, g3⟩ := Sj_push (x1 := 2) (x2 := (z : Int)) (x3 := -1) (x4 := -1) (x5 := -1) (y1 := 4) (y2 := (φ z : Int)) (y3 := 0) (y4 := 0) (y5 := 0) (y6 := 0) (T := tF (ω w) (ω w)) sc2 (fun g' => Or.inr (Or.inr (Or.inl ⟨pw_row.1, ptk_row.1, z, hz, pw_row.2.1, ptk_row.2.1, by rw [fu_eq, fu_ne (by omega), fu_eq, tz]⟩)))
  have P6 : pw (pw C w 3 (g : Int) (l : Int) (r : Int) (-1)) (w + 1) 2 (z : Int) (-1) (-1) (-1) 47 6 = ((w + 2 : Nat) : Int) := pw_6
  have fP : f166 C 3 (g : Int) (l : Int) (r : Int) (-1) = some (0, pw C w 3 (g : Int) (l : Int) (r : Int) (-1)) := f166_eq w6 (by omega)
  have fP2 : f166 (pw C w 3 (g : Int) (l : Int) (r : Int) (-1)) 2 (z : Int) (-1) (-1) (-1) = some (0, pw (pw C w 3 (g : Int) (l : Int) (r : Int) (-1)) (w + 1) 2 (z : Int) (-1) (-1) (-1)) := f166_eq pw_6 (by omega)
  have fP3 : f166 (pw (pw C w 3 (g : Int) (l : Int) (r : Int) (-1)) (w + 1) 2 (z : Int) (-1) (-1) (-1)) 1 (g : Int) (-1) (-1) (-1) = some (0, pw (pw (pw C w 3 (g : Int) (l : Int) (r : Int) (-1)) (w + 1) 2 (z : Int) (-1) (-1) (-1)) (w + 2) 1 (g : Int) (-1) (-1) (-1)) := f166_eq P6 (by omega)
  have fD : f243 D 5 (φ g : Int) (Mr 97 z') 0 0 0 = some (0, ptk D w 5 (φ g : Int) (Mr 97 z') 0 0 0) := f243_eq B71 (by omega)
  have fD2 : f243 (ptk D w 5 (φ g : Int) (Mr 97 z') 0 0 0) 4 (φ z : Int) 0 0 0 0 = some (0, ptk (ptk D w 5 (φ g : Int) (Mr 97 z') 0 0 0) (w + 1) 4 (φ z : Int) 0 0 0 0) := f243_eq ptk_71 (by omega)
  have D78 : ptk D w 5 (φ g : Int) (Mr 97 z') 0 0 0 53 78 = (φ z : Int) := by rw [ptk_53 (by decide)]; exact B78
  have D96 : ptk (ptk D w 5 (φ g : Int) (Mr 97 z') 0 0 0) (w + 1) 4 (φ z : Int) 0 0 0 0 96 z' = (φ E : Int) := by rw [ptk_cell (by decide) (by omega), ptk_cell (by decide) (by omega), B0 96 (by decide)]; exact c3
  generalize hP : pw (pw C w 3 (g : Int) (l : Int) (r : Int) (-1)) (w + 1) 2 (z : Int) (-1) (-1) (-1) = P at *
  generalize hQ : ptk (ptk D w 5 (φ g : Int) (Mr 97 z') 0 0 0) (w + 1) 4 (φ z : Int) 0 0 0 0 = Q at *
  have g23 := Grw_trans g1 (Grw_trans g2 g3)
  have el3 : f164 (pw P (w + 2) 1 (g : Int) (-1) (-1) (-1)) (l : Int) (r : Int) = some (E : Int) := by
    obtain ⟨b4, g4⟩ := Bas_fr (Mc' := pw P (w + 2) 1 (g : Int) (-1) (-1) (-1)) (Mr' := Q) (fun x h1 h2 => pw_cell h1 h2) (pw_47 (by decide)) (fun _ _ _ => rfl) (fun _ _ => rfl) sc3.1
    have gA := Grw_trans g23 g4
    rw [f164_el b4.2.2.2.2 (by omega) hl (by rw [lenC_grow gA hl]; omega), elC_grow ck gA hl (by omega), hE]
  refine ⟨up (up (pw P (w + 2) 1 (g : Int) (-1) (-1) (-1)) 47 14 (E : Int)) 47 10 (-1), up (up (up (pw P (w + 2) 1 (g : Int) (-1) (-1) (-1)) 47 14 (E : Int)) 47 10 (-1)) 47 6 ((w + 2 : Nat) : Int), Q, E, fu (fu ω (w + 1) (ω w)) (w + 1 + 1) (tF (ω w) (ω w)), ?_, ?_, up_same _ _ _ _, ?_, ?_, ?_⟩
  · unfold f181 f162
    rw [if_pos (by omega), h159, bs_]
    dsimp only
    rw [if_neg (by decide), if_pos (by unfold rg; omega), show ((r + 1 : Nat) : Int) - 1 = (r : Int) by omega, fP, bs_]
    dsimp only
    rw [fP2, bs_]
    dsimp only
    rw [fP3, bs_]
    dsimp only
    rw [el3, bs_, bs_]
  · have z9 : up (up (pw P (w + 2) 1 (g : Int) (-1) (-1) (-1)) 47 14 (E : Int)) 47 10 (-1) 47 9 = 0 := by rw [up_at (by decide), up_at (by decide), pw_47 (by decide)]; exact sc3.2.1.2.2.2.2.1
    have z6 : up (up (pw P (w + 2) 1 (g : Int) (-1) (-1) (-1)) 47 14 (E : Int)) 47 10 (-1) 47 6 = ((w + 3 : Nat) : Int) := by rw [up_at (by decide), up_at (by decide)]; exact pw_6
    have z48 : up (up (pw P (w + 2) 1 (g : Int) (-1) (-1) (-1)) 47 14 (E : Int)) 47 10 (-1) 48 = P 48 := by rw [up_cell (by decide), up_cell (by decide), pw_cell (by decide) (by decide)]
    unfold f156 f157
    rw [z9, if_neg (fun q => q rfl), z48, sc3.1.2.1.1, sc3.1.2.1.2.1, if_neg (by omega), if_neg (by omega), bs_, if_neg (by decide), up_same, if_neg (fun q => q rfl), z6, if_neg (by omega)]
  · have z6 : up (up (pw P (w + 2) 1 (g : Int) (-1) (-1) (-1)) 47 14 (E : Int)) 47 10 (-1) 47 6 = ((w + 3 : Nat) : Int) := by rw [up_at (by decide), up_at (by decide)]; exact pw_6
    have z51 : up (up (pw P (w + 2) 1 (g : Int) (-1) (-1) (-1)) 47 14 (E : Int)) 47 10 (-1) 51 = pw P (w + 2) 1 (g : Int) (-1) (-1) (-1) 51 := by rw [up_cell (by decide), up_cell (by decide)]
    have z14 : up (up (pw P (w + 2) 1 (g : Int) (-1) (-1) (-1)) 47 14 (E : Int)) 47 10 (-1) 47 14 = (E : Int) := by rw [up_at (by decide), up_same]
    unfold f174
    rw [z6, show ((w + 3 : Nat) : Int) - 1 = ((w + 2 : Nat) : Int) by omega, if_pos (by unfold rg; omega), if_pos (by omega), if_pos (by omega), z51, show Int.toNat (((w + 2 : Nat) : Int) * 5) = 5 * (w + 2) by omega, show Int.toNat (((w + 2 : Nat) : Int) * 5 + 1) = 5 * (w + 2) + 1 by omega, pw_row.1, if_neg (by decide), if_pos rfl, pw_row.2.1, z14]
  · rw [f244_5 h71 (by omega) h103, if_neg (by omega), h246, bs_]
    dsimp only
    rw [if_pos (by decide), if_pos (by omega), c1, Int.toNat_natCast, B0 97 (by decide), h104, fD, bs_]
    dsimp only
    rw [D78, fD2, bs_]
    dsimp only
    rw [D96]
  · obtain ⟨b4, g4⟩ := Bas_fr (Mc' := up (up (up (pw P (w + 2) 1 (g : Int) (-1) (-1) (-1)) 47 14 (E : Int)) 47 10 (-1)) 47 6 ((w + 2 : Nat) : Int)) (Mr' := Q) (fun x h1 h2 => by rw [up_cell h1, up_cell h1, up_cell h1, pw_cell h1 h2]) (by rw [up_at (by decide), up_at (by decide), up_at (by decide), pw_47 (by decide)]) (fun _ _ _ => rfl) (fun _ _ => rfl) sc3.1
    obtain ⟨j1, j2, j3, j4, j5, j6⟩ := sc3.2.1
    have sc4 := Sj_to (s' := s + 1) sc3 b4 g4 ⟨by rw [up_at (by decide), up_at (by decide), up_at (by decide), pw_47 (by decide)]; exact j1, j2, by rw [up_at (by decide), up_at (by decide), up_at (by decide), pw_47 (by decide)]; exact j3, j4, by rw [up_at (by decide), up_at (by decide), up_at (by decide), pw_47 (by decide)]; exact j5, j6⟩ (up_same _ _ _ _) (fun j hj => by rw [up_cell (by decide), up_cell (by decide), up_cell (by decide), pw_old (by omega)]) (fun _ _ _ _ _ => rfl)
    have a51 : ∀ j, j < 5 * (w + 2) → up (up (up (pw P (w + 2) 1 (g : Int) (-1) (-1) (-1)) 47 14 (E : Int)) 47 10 (-1)) 47 6 ((w + 2 : Nat) : Int) 51 j = P 51 j := fun j hj => by rw [up_cell (by decide), up_cell (by decide), up_cell (by decide), pw_old (by omega)]
    have p51 : ∀ j, j < 5 * (w + 1) → P 51 j = pw C w 3 (g : Int) (l : Int) (r : Int) (-1) 51 j := fun j hj => by rw [← hP, pw_old (by omega)]
    refine ⟨sc4, Grw_trans g23 g4, by rw [← hQ]; exact ptk_71, by omega, ?_, fun k hk => by rw [fu_ne (by omega), fu_ne (by omega)], rfl, fun j hj => by rw [a51 j (by omega), p51 j (by omega), pw_old hj, A0 51 (by decide)], ?_, ?_, ?_, ?_, ?_, ?_, fun a h1 h2 => by rw [up_cell h1, up_cell h1, up_cell h1, pw_cell h1 h2, ← hP, pw_cell h1 h2, pw_cell h1 h2, A0 a h1]⟩
    · rw [fu_eq, tg, ta]
    · rw [a51 _ (by omega), p51 _ (by omega)]; exact pw_row.1
    · rw [a51 _ (by omega), p51 _ (by omega)]; exact pw_row.2.1
    · rw [a51 _ (by omega), p51 _ (by omega)]; exact pw_row.2.2.1
    · rw [a51 _ (by omega), p51 _ (by omega)]; exact pw_row.2.2.2.1
    · rw [a51 _ (by omega), ← hP]; exact pw_row.1
    · rw [a51 _ (by omega), ← hP]; exact pw_row.2.1
end FOLD2
