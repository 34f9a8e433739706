/-! Run: calling a closure. -/
theorem tF_inj {a b c d : Ty} (h : tF a b = tF c d) : a = c ∧ b = d := by
  have h : Std.Format.append a b = Std.Format.append c d := h
  injection h with h1 h2
  exact ⟨h1, h2⟩
theorem tL_inj {a b : Ty} (h : tL a = tL b) : a = b := by
  have h : Std.Format.group a .allOrNone = Std.Format.group b .allOrNone := h
  injection h
section CALL
variable {M0 R0 : Mm} {N NT : Nat} {G : Nat → UGt} {Mc Mr : Mm} {φ : Nat → Nat} {τ : Nat → Ty} {κ : Nat → Nat × Nat × Nat} {Es : Nat → Int → Ty} {n m nf ne : Nat} {ω : Nat → Ty} {w s lim : Nat}
theorem COK_3 {i : Nat} (h : COK M0 N G Mc Mr φ τ κ Es m nf ne i) (k : Mc 49 (5 * i) = 3) : C3 M0 N G Mc Mr φ τ κ Es nf ne i := by
  rcases h.2 with h | h | h | h | h | h
  · have := h.1; omega
  · have := h.1; omega
  · have := h.1; omega
  · exact h
  · have := h.1; omega
  · have := h.1; omega
theorem COK_4 {i : Nat} (h : COK M0 N G Mc Mr φ τ κ Es m nf ne i) (k : Mc 49 (5 * i) = 4) : C4 Mc Mr φ τ i := by
  rcases h.2 with h | h | h | h | h | h
  · have := h.1; omega
  · have := h.1; omega
  · have := h.1; omega
  · have := h.1; omega
  · exact h
  · have := h.1; omega
theorem f176_eq {M : Mm} {i : Nat} (hi : i < 602) : f176 M (i : Int) = some (M 49 (5 * i)) := by
  unfold f176
  rw [if_pos (by omega), show Int.toNat ((i : Int) * 5) = 5 * i by omega]
theorem f165_0 {M : Mm} {i : Nat} (hi : i < 602) : f165 M (i : Int) 0 = some (M 49 (5 * i + 1)) := f165_eq (j := 0) hi (by omega)
theorem f165_1 {M : Mm} {i : Nat} (hi : i < 602) : f165 M (i : Int) 1 = some (M 49 (5 * i + 2)) := f165_eq (j := 1) hi (by omega)
theorem f165_2 {M : Mm} {i : Nat} (hi : i < 602) : f165 M (i : Int) 2 = some (M 49 (5 * i + 3)) := f165_eq (j := 2) hi (by omega)
theorem f165_3 {M : Mm} {i : Nat} (hi : i < 602) : f165 M (i : Int) 3 = some (M 49 (5 * i + 4)) := f165_eq (j := 3) hi (by omega)
theorem call_clo {i j : Nat} (hU : ∀ u, uIn M0 N u → UG M0 R0 u (G u)) (sc : Sj M0 R0 N NT G Mc Mr φ τ κ Es n m nf ne ω w s lim) (h71 : Mr 53 71 = (w : Int)) (hi : i < n) (hj : j < n) (ht : τ i = tF (τ j) (ω w)) (hk : Mc 49 (5 * i) = 3) (hn : n < 602) (hm : m < 6000) (hw : w < 2000) : ∃ (Mc' Mr' : Mm) (q : Nat × Nat × Nat), f175 Mc (i : Int) (j : Int) = some (0, Mc') ∧ f250 Mr (φ i : Int) (φ j : Int) = some (0, Mr') ∧ SE M0 R0 N NT G Mc' Mr' (fu φ n m) (fu τ n tX) (fu κ n q) Es (n + 1) (m + 1) nf ne ω w s lim ∧ Grw Mc Mr φ τ κ Es n m nf ne Mc' Mr' (fu φ n m) (fu τ n tX) (fu κ n q) Es (n + 1) (m + 1) nf ne ∧ Mc' 51 = Mc 51 ∧ Mc' 49 (5 * n) = 5 ∧ Mc' 49 (5 * n + 1) = (j : Int) ∧ Mc' 49 (5 * n + 2) = Mc 49 (5 * i + 3) ∧ Mc' 47 12 = (n : Int) := by
  have ck := sc.1.2.2.2.2
  have fi := (ck i hi).1
  obtain ⟨_, a2, u, p, f, η, ν, pl, a3, a4, a5, a6, a7, a8, a9, a10, a11, a12, a13⟩ := COK_3 (ck i hi) hk
  obtain ⟨b1, b2, b3, b4⟩ := sc.1.2.1
  have ug := hU u pl.1
  have upl := ug.2.2.2.2.2.2 p pl.2.1
  obtain ⟨p1, p2, p3, p4⟩ := upl.2.2.2.2.2.1 a3
  rw [p4] at a13
  have a13 : τ i = tF (sub (Es η) ((G u).2.2.2.2.1 p)) (sub (Es η) ((G u).2.2.2.1 (p + 1))) := a13
  obtain ⟨tj, tw⟩ := tF_inj (ht.symm.trans a13)
  -- here
  have hc : f175 Mc (i : Int) (j : Int) = some (0, up (up (wc (up (up Mc 47 10 (M0 14 ((G u).2.1 p))) 47 11 ((60 * u + p + 1 : Nat) : Int)) n 5 (j : Int) ν (-1) (-1)) 47 12 (n : Int)) 47 13 (f : Int)) := by
    unfold f175
    rw [f176_eq (by omega), bs_, hk, if_neg (fun q => q rfl), f165_0 (by omega), bs_, a4, f165_1 (by omega), bs_, up_cell (by decide), a5, f165_2 (by omega), bs_, up_cell (by decide), up_cell (by decide), a6, f161_eq (n := n) (by rw [up_cell (by decide), up_cell (by decide)]; exact b1) hn, bs_]
    dsimp only
    rw [f165_3 (by omega), bs_, up_cell (by decide), wc_old (by omega), up_cell (by decide), up_cell (by decide), a7]
  -- there
  have hr : f250 Mr (φ i : Int) (φ j : Int) = some (0, ptk (wr Mr m 6 (φ j : Int) (pe φ ν) 0 0 0) w 0 (u : Int) (M0 14 ((G u).2.1 p)) ((p + 1 : Nat) : Int) (m : Int) (η : Int)) := by
    unfold f250
    rw [if_pos (by omega), Int.toNat_natCast, a2, if_neg (fun q => q rfl), f247_eq b3 hm, bs_]
    dsimp only
    rw [f243_eq (t := w) (by rw [wr_53 (by decide)]; exact h71) hw, bs_, wr_old (by decide) (by omega), wr_old (by decide) (by omega), wr_old (by decide) (by omega), wr_old (by decide) (by omega), a8, a9, a10, a11, a12]
  -- the scope cell
  obtain ⟨bs1, gs1⟩ := Bas_fr (Mc' := up (up Mc 47 10 (M0 14 ((G u).2.1 p))) 47 11 ((60 * u + p + 1 : Nat) : Int)) (Mr' := Mr) (fun a h1 _ => by rw [up_cell h1, up_cell h1]) (by rw [up_at (by decide), up_at (by decide)]) (fun _ _ _ => rfl) (fun _ _ => rfl) sc.1
  have pl1 := PL_grow gs1 (by omega) (Nat.le_refl _) pl
  obtain ⟨bs2, gs2⟩ := Bas_new (x1 := 5) (x2 := (j : Int)) (x3 := ν) (x4 := -1) (x5 := -1) (y1 := 6) (y2 := (φ j : Int)) (y3 := pe φ ν) (y4 := 0) (y5 := 0) (y6 := 0) (T := tX) (q := (u, p, η)) bs1 (fun g => ⟨by rw [fu_eq]; omega, Or.inr (Or.inr (Or.inr (Or.inr (Or.inr ⟨wc_row.1, fu_eq, u, p, η, j, fu_eq, pl.2.2.2.1, hj, wc_row.2.1, by rw [fu_eq, wr_row.2.1, fu_ne (by omega)], by rw [fu_ne (by omega)]; exact tj, by rw [fu_eq, wr_row.2.2.1, wc_row.2.2.1, pe_grow g (k := i) (by omega) pl1.2.2.2.2.2], by rw [wc_row.2.2.1]; exact EnK_grow g (by omega) (by omega) pl1.2.2.2.2.2⟩))))⟩)
  obtain ⟨bs3, gs3⟩ := Bas_fr (Mc' := up (up (wc (up (up Mc 47 10 (M0 14 ((G u).2.1 p))) 47 11 ((60 * u + p + 1 : Nat) : Int)) n 5 (j : Int) ν (-1) (-1)) 47 12 (n : Int)) 47 13 (f : Int)) (Mr' := ptk (wr Mr m 6 (φ j : Int) (pe φ ν) 0 0 0) w 0 (u : Int) (M0 14 ((G u).2.1 p)) ((p + 1 : Nat) : Int) (m : Int) (η : Int)) (fun a h1 _ => by rw [up_cell h1, up_cell h1]) (by rw [up_at (by decide), up_at (by decide)]) (fun a h1 h2 => ptk_cell h1 h2) (fun k hk => ptk_53 (by omega)) bs2
  have g := Grw_trans (Grw_trans gs1 gs2) gs3
  have plg := PL_grow g (k' := n + 1) (by omega) (by omega) pl
  have fm : ∀ x, x ≠ 47 → up (up (wc (up (up Mc 47 10 (M0 14 ((G u).2.1 p))) 47 11 ((60 * u + p + 1 : Nat) : Int)) n 5 (j : Int) ν (-1) (-1)) 47 12 (n : Int)) 47 13 (f : Int) x = wc (up (up Mc 47 10 (M0 14 ((G u).2.1 p))) 47 11 ((60 * u + p + 1 : Nat) : Int)) n 5 (j : Int) ν (-1) (-1) x := fun x hx => by rw [up_cell hx, up_cell hx]
  have f51 : up (up (wc (up (up Mc 47 10 (M0 14 ((G u).2.1 p))) 47 11 ((60 * u + p + 1 : Nat) : Int)) n 5 (j : Int) ν (-1) (-1)) 47 12 (n : Int)) 47 13 (f : Int) 51 = Mc 51 := by rw [fm 51 (by decide), wc_cell (by decide) (by decide), up_cell (by decide), up_cell (by decide)]
  refine ⟨_, _, (u, p, η), hc, hr, SE_mk (u := u) (p := p + 1) (f := f) (η := η) (ν := (n : Int)) sc bs3 g (fun k h1 h2 h3 h4 => by rw [up_at h4, up_at h3, wc_cell (by decide) (by decide), up_at h2, up_at h1]) (fun k _ => by rw [f51]) (fun k hk => by rw [ptk_53 (by omega), wr_53 (by omega)]) ptk_71 (fun a k h1 h2 h3 => by rw [ptk_old (by omega) (by omega), wr_cell (by omega) (by omega)]) ⟨pl.1, p1, plg.2.2.1, plg.2.2.2.1, plg.2.2.2.2.1, Or.inr ⟨p, n, p3, rfl, by omega, by rw [fm 49 (by decide)]; exact wc_row.1, fu_eq⟩⟩ ⟨?_, ?_, ?_, ?_, ptk_row.1, ptk_row.2.1, by rw [ptk_row.2.2.1, p2], ptk_row.2.2.2.1, ?_, ptk_row.2.2.2.2.2, tw⟩, g, f51, by rw [fm 49 (by decide)]; exact wc_row.1, by rw [fm 49 (by decide)]; exact wc_row.2.1, by rw [fm 49 (by decide), a6]; exact wc_row.2.2.1, by rw [up_at (by decide), up_same]⟩
  · rw [up_at (by decide), up_at (by decide), wc_cell (by decide) (by decide), up_at (by decide), up_same, p2]
  · rw [up_at (by decide), up_at (by decide), wc_cell (by decide) (by decide), up_same]; omega
  · rw [up_at (by decide), up_same]
  · rw [up_same]
  · rw [ptk_row.2.2.2.2.1]
    unfold pe
    rw [if_neg (by omega), Int.toNat_natCast, fu_eq]
end CALL
