/-! Run: applications are evaluated alike. -/
section APP
variable {M0 R0 : Mm} {N NT : Nat} {G : Nat → UGt} {Mc Mr : Mm} {φ : Nat → Nat} {τ : Nat → Ty} {κ : Nat → Nat × Nat × Nat} {Es : Nat → Int → Ty} {n m nf ne : Nat} {ω : Nat → Ty} {w s lim : Nat}
/-- a row more, here and there -/
theorem Sj_push {x1 x2 x3 x4 x5 y1 y2 y3 y4 y5 y6 : Int} {T : Ty} (sc : Sj M0 R0 N NT G Mc Mr φ τ κ Es n m nf ne ω w s lim) (hW : Grw Mc Mr φ τ κ Es n m nf ne (pw Mc w x1 x2 x3 x4 x5) (ptk Mr w y1 y2 y3 y4 y5 y6) φ τ κ Es n m nf ne → WOK M0 N G (pw Mc w x1 x2 x3 x4 x5) (ptk Mr w y1 y2 y3 y4 y5 y6) φ τ κ Es n m nf ne (fu ω (w + 1) T) w) : Sj M0 R0 N NT G (pw Mc w x1 x2 x3 x4 x5) (ptk Mr w y1 y2 y3 y4 y5 y6) φ τ κ Es n m nf ne (fu ω (w + 1) T) (w + 1) s lim ∧ Grw Mc Mr φ τ κ Es n m nf ne (pw Mc w x1 x2 x3 x4 x5) (ptk Mr w y1 y2 y3 y4 y5 y6) φ τ κ Es n m nf ne := by
  obtain ⟨b, g⟩ := Bas_fr (Mc' := pw Mc w x1 x2 x3 x4 x5) (Mr' := ptk Mr w y1 y2 y3 y4 y5 y6) (fun a h1 h2 => pw_cell h1 h2) (pw_47 (by decide)) (fun a h1 h2 => ptk_cell h1 h2) (fun j hj => ptk_53 (by omega)) sc.1
  obtain ⟨t1, t2, t3, t4, t5, t6⟩ := sc.2.1
  refine ⟨⟨b, ⟨by rw [pw_47 (by decide)]; exact t1, by rw [ptk_53 (by decide)]; exact t2, by rw [pw_47 (by decide)]; exact t3, by rw [ptk_53 (by decide)]; exact t4, by rw [pw_47 (by decide)]; exact t5, by rw [ptk_53 (by decide)]; exact t6⟩, pw_6, fun k hk => ?_⟩, g⟩
  by_cases e : k = w
  · subst e
    exact hW g
  · exact WOK_grow sc.1.2.2.2.2 g (fun j _ h2 => pw_old (by omega)) (fun a h1 h2 => ptk_old (by omega) (by omega)) ⟨fu_ne (by omega), fu_ne (by omega)⟩ (sc.2.2.2 k (by omega))
theorem f245_4 {M M1 : Mm} {e p a z w : Nat} {x1 x4 x5 : Int} (h : f246 M = some (1, M1)) (he : e < 200) (hp : p < 60) (hk : M1 63 e = 4) (ha : M1 64 e = (a : Int)) (ha2 : a < 200) (hz : M1 66 a = (z : Int)) (hz2 : z ≤ 60) (hw : w < 1900) (h71 : M1 53 71 = (w : Int)) : f245 M x1 (e : Int) (p : Int) x4 x5 = some (0, ptk (ptk M1 w 1 x1 (M1 65 e) ((p + 1 + z : Nat) : Int) x4 x5) (w + 1) 0 x1 (a : Int) ((p + 1 : Nat) : Int) x4 x5) := by
  have e64 : ptk M1 w 1 x1 (M1 65 e) ((p + 1 + z : Nat) : Int) x4 x5 64 e = (a : Int) := by rw [ptk_cell (by decide) (by omega)]; exact ha
  unfold f245
  rw [h, bs_]
  dsimp only
  rw [if_pos (by decide), if_pos (by omega), Int.toNat_natCast, if_neg (by omega), if_neg (by omega), if_neg (by omega), if_neg (by omega), if_pos hk, if_pos (by omega), if_pos (by rw [ha, Int.toNat_natCast, hz]; unfold rg; omega), ha, Int.toNat_natCast, hz, show (p : Int) + 1 + (z : Int) = ((p + 1 + z : Nat) : Int) by omega, f243_eq h71 (by omega), bs_]
  dsimp only
  rw [if_pos (by unfold rg; omega), e64, show (p : Int) + 1 = ((p + 1 : Nat) : Int) by omega, f243_eq (t := w + 1) ptk_71 (by omega), bs_]
/-- an application -/
theorem ev_app {u p f η : Nat} {ν : Int} (hst : Stat M0 R0) (hU : ∀ u, uIn M0 N u → UG M0 R0 u (G u)) (sc : Sj M0 R0 N NT G Mc Mr φ τ κ Es n m nf ne ω w s lim) (h71 : Mr 53 71 = ((w + 1 : Nat) : Int)) (pl : PL M0 N G Mc κ Es n nf ne u p f η ν) (rgs : Rgs G Mc Mr φ Es ω w u p f η ν) (hs : s < lim) (hl : lim ≤ 300) (hw : w < 903) (hk : M0 13 ((G u).2.1 p) = 4) : ∃ (Mc' Mr' : Mm) (ω' : Nat → Ty), f158 Mc = some (0, Mc') ∧ f244 Mr = some (0, Mr') ∧ SE M0 R0 N NT G Mc' Mr' φ τ κ Es n m nf ne ω' (w + 1) (s + 1) lim ∧ (∀ j, j < 5 * w → Mc' 51 j = Mc 51 j) ∧ Mc' 51 (5 * w) = 0 ∧ (∀ k, k ≤ w → ω' k = ω k) ∧ Mc' 49 = Mc 49 ∧ Mc' 51 (5 * w + 3) = Mc 47 12 ∧ Mc' 47 12 = Mc 47 12 := by
  obtain ⟨r1, r2, r3, r4, q1, q2, q3, q4, q5, q6, hω⟩ := rgs
  have ug := hU u pl.1
  have upl := ug.2.2.2.2.2.2 p pl.2.1
  have sta := sc.1.1
  obtain ⟨t1, t2, t3, t4, t5, t6⟩ := sc.2.1
  have eC := hst.2.2.2.1
  have eR := hst.2.2.2.2.1
  have pN := ug.1
  have pp := pl.2.1
  have u74 : u < 74 := by
    rcases pl.1 with z | z <;> omega
  generalize he : (G u).2.1 p = e at *
  have e12 := upl.1
  rw [he] at e12
  have e200 : e < 200 := by have := eC.1.2; omega
  obtain ⟨v1, v2, v3, v4⟩ := eR.2 e e12
  have x13 : Mc 13 e = M0 13 e := by rw [sta.1 13 (by omega)]
  have x14 : Mc 14 e = M0 14 e := by rw [sta.1 14 (by omega)]
  have hc := f158_hd (M := Mc) r1 e200 t1 t3 hs hl
  have h246 := f246_y (M := up Mr 53 71 (w : Int)) (s := s) (lim := lim) (by rw [up_at (by decide)]; exact t2) (by rw [up_at (by decide)]; exact t4) hs hl
  have yr : ∀ a, 53 < a → a ≤ 94 → up (up Mr 53 71 (w : Int)) 53 58 ((s : Int) + 1) a = R0 a := fun a h1 h2 => by rw [up_cell (by omega), up_cell (by omega), sta.2.2.1 a (by omega)]
  have xc : ∀ a, a < 47 → up (up Mc 47 9 0) 47 7 ((s : Int) + 1) a = M0 a := fun a h1 => by rw [up_cell (by omega), up_cell (by omega), sta.1 a (by omega)]
  have hr := f244_ev h71 (by omega) q1
  rw [q2, q3, q4, q5, q6] at hr
  rw [x13, x14] at hc
  unfold f158b at hc
  obtain ⟨-, -, -, -, -, -, u4, -⟩ := upl
  rw [he] at u4
  obtain ⟨a1, a2, a3, a4, a5, a6⟩ := u4 hk
  obtain ⟨k1, k2, k3, k4, k5⟩ := (eC.2 e e12).2.2.2.2.2.1 hk
  obtain ⟨a, ha⟩ : ∃ k : Nat, M0 14 e = (k : Int) := ⟨(M0 14 e).toNat, by omega⟩
  have a12 : (a : Int) < M0 12 4 := by omega
  have az := (eC.2 a a12).2.1
  obtain ⟨z, hz⟩ : ∃ k : Nat, M0 16 a = (k : Int) := ⟨(M0 16 a).toNat, by omega⟩
  rw [ha, Int.toNat_natCast, hz, Int.toNat_natCast] at a1 a3 a5 a6
  rw [ha] at a2
  have r64 : up (up Mr 53 71 (w : Int)) 53 58 ((s : Int) + 1) 64 e = (a : Int) := by rw [yr 64 (by omega) (by omega), v2]; exact ha
  have r66 : up (up Mr 53 71 (w : Int)) 53 58 ((s : Int) + 1) 66 a = (z : Int) := by rw [yr 66 (by omega) (by omega), (eR.2 a a12).2.2.2]; exact hz
  rw [f245_4 h246 e200 (by omega) (by rw [yr 63 (by omega) (by omega), v1]; exact hk) r64 (by have := eC.1.2; omega) r66 (by omega) (w := w) (by omega) (by rw [up_at (by decide), up_same]), bs_, yr 65 (by omega) (by omega), v3 (Or.inl hk), ← a3] at hr
  have r10 : up (up Mc 47 9 0) 47 7 ((s : Int) + 1) 47 10 = (e : Int) := by rw [up_at (by decide), up_at (by decide)]; exact r1
  have r11 : up (up Mc 47 9 0) 47 7 ((s : Int) + 1) 47 11 = ((60 * u + p : Nat) : Int) := by rw [up_at (by decide), up_at (by decide)]; exact r2
  have r12 : up (up Mc 47 9 0) 47 7 ((s : Int) + 1) 47 12 = ν := by rw [up_at (by decide), up_at (by decide)]; exact r3
  have r13 : up (up Mc 47 9 0) 47 7 ((s : Int) + 1) 47 13 = (f : Int) := by rw [up_at (by decide), up_at (by decide)]; exact r4
  have r6 : up (up Mc 47 9 0) 47 7 ((s : Int) + 1) 47 6 = (w : Int) := by rw [up_at (by decide), up_at (by decide)]; exact sc.2.2.1
  have e67 : f67 (up (up Mc 47 9 0) 47 7 ((s : Int) + 1)) (a : Int) = some (z : Int) := by
    unfold f67
    rw [if_pos (by have := eC.1.2; omega), Int.toNat_natCast, xc 16 (by omega), hz]
  have e72 : f72 (up (up Mc 47 9 0) 47 7 ((s : Int) + 1)) (e : Int) = some ((G u).2.1 (p + 1 + z) : Int) := by
    unfold f72
    rw [if_pos (by omega), Int.toNat_natCast, xc 15 (by omega), a3]
  rw [if_neg (by omega), if_neg (by omega), if_neg (by omega), if_neg (by omega), if_pos hk, ha, e67, bs_, r10, e72, bs_, r11, r12, r13, if_pos (by unfold rg; omega), show ((60 * u + p : Nat) : Int) + 1 + (z : Int) = ((60 * u + (p + 1 + z) : Nat) : Int) by omega, f166_eq r6 hw, bs_] at hc
  dsimp only at hc hr
  rw [if_pos (by rw [pw_47 (by decide), r11]; unfold rg; omega), pw_47 (by decide), r11, show ((60 * u + p : Nat) : Int) + 1 = ((60 * u + (p + 1) : Nat) : Int) by omega] at hc
  obtain ⟨sc1, g1⟩ := Sj_step (x := (w : Int)) sc
  have pl1 := PL_grow g1 (Nat.le_refl _) (Nat.le_refl _) pl
  have plx : ∀ p', p' < (G u).1 → (G u).2.2.1 p' = (G u).2.2.1 p → PL M0 N G (up (up Mc 47 9 0) 47 7 ((s : Int) + 1)) κ Es n nf ne u p' f η ν := fun p' h1 h2 => ⟨pl1.1, h1, pl1.2.2.1, pl1.2.2.2.1, pl1.2.2.2.2.1, by rw [h2]; exact pl1.2.2.2.2.2⟩
  have hT : sub (Es η) ((G u).2.2.2.1 (p + 1)) = tF (sub (Es η) ((G u).2.2.2.1 (p + 1 + z))) (ω w) := by rw [a6, hω]; rfl
  obtain ⟨sc2, g2⟩ := Sj_push (x1 := 0) (x2 := ((G u).2.1 (p + 1 + z) : Int)) (x3 := ((60 * u + (p + 1 + z) : Nat) : Int)) (x4 := ν) (x5 := (f : Int)) (y1 := 1) (y2 := (u : Int)) (y3 := ((G u).2.1 (p + 1 + z) : Int)) (y4 := ((p + 1 + z : Nat) : Int)) (y5 := pe φ ν) (y6 := (η : Int)) (T := sub (Es η) ((G u).2.2.2.1 (p + 1))) sc1 (fun g => Or.inl ⟨pw_row.1, ptk_row.1, u, p + 1 + z, f, η, ν, PL_grow g (Nat.le_refl _) (Nat.le_refl _) (plx _ a1 a5), pw_row.2.1, pw_row.2.2.1, pw_row.2.2.2.1, pw_row.2.2.2.2, ptk_row.2.1, ptk_row.2.2.1, ptk_row.2.2.2.1, ptk_row.2.2.2.2.1, ptk_row.2.2.2.2.2, by rw [fu_eq, fu_ne (by omega)]; exact hT⟩)
  have pl2 := PL_grow g2 (Nat.le_refl _) (Nat.le_refl _) (plx (p + 1) (by omega) a4)
  obtain ⟨b3, g3⟩ := Bas_fr (Mc' := up (up (pw (up (up Mc 47 9 0) 47 7 ((s : Int) + 1)) w 0 ((G u).2.1 (p + 1 + z) : Int) ((60 * u + (p + 1 + z) : Nat) : Int) ν (f : Int)) 47 10 (a : Int)) 47 11 ((60 * u + (p + 1) : Nat) : Int)) (Mr' := ptk (ptk (up (up Mr 53 71 (w : Int)) 53 58 ((s : Int) + 1)) w 1 (u : Int) ((G u).2.1 (p + 1 + z) : Int) ((p + 1 + z : Nat) : Int) (pe φ ν) (η : Int)) (w + 1) 0 (u : Int) (a : Int) ((p + 1 : Nat) : Int) (pe φ ν) (η : Int)) (fun a h1 h2 => by rw [up_cell h1, up_cell h1]) (by rw [up_at (by decide), up_at (by decide)]) (fun a h1 h2 => ptk_cell h1 h2) (fun j hj => ptk_53 (by omega)) sc2.1
  have pl3 := PL_grow g3 (Nat.le_refl _) (Nat.le_refl _) pl2
  obtain ⟨j1, j2, j3, j4, j5, j6⟩ := sc2.2.1
  have sc3 := Sj_to (s' := s + 1) sc2 b3 g3 ⟨by rw [up_at (by decide), up_at (by decide)]; exact j1, by rw [ptk_53 (by decide)]; exact j2, by rw [up_at (by decide), up_at (by decide)]; exact j3, by rw [ptk_53 (by decide)]; exact j4, by rw [up_at (by decide), up_at (by decide)]; exact j5, by rw [ptk_53 (by decide)]; exact j6⟩ (by rw [up_at (by decide), up_at (by decide)]; exact sc2.2.2.1) (fun j hj => by rw [up_cell (by decide), up_cell (by decide)]) (fun a k h1 h2 h3 => ptk_old (by omega) (by omega))
  refine ⟨_, _, fu ω (w + 1) (sub (Es η) ((G u).2.2.2.1 (p + 1))), hc, hr, ⟨sc3, ptk_71, u, p + 1, f, η, ν, pl3, by rw [up_at (by decide), up_same, a2], by rw [up_same], by rw [up_at (by decide), up_at (by decide), pw_47 (by decide)]; exact r12, by rw [up_at (by decide), up_at (by decide), pw_47 (by decide)]; exact r13, ptk_row.1, ptk_row.2.1, by rw [ptk_row.2.2.1, a2], ptk_row.2.2.2.1, ptk_row.2.2.2.2.1, ptk_row.2.2.2.2.2, fu_eq⟩, fun j hj => by rw [up_cell (by decide), up_cell (by decide), pw_old hj, up_cell (by decide), up_cell (by decide)], by rw [up_cell (by decide), up_cell (by decide)]; exact pw_row.1, fun k hk => fu_ne (by omega), by rw [up_cell (by decide), up_cell (by decide), pw_cell (by decide) (by decide), up_cell (by decide), up_cell (by decide)], by rw [up_cell (by decide), up_cell (by decide), r3]; exact pw_row.2.2.2.1, by rw [up_at (by decide), up_at (by decide), pw_47 (by decide), r12, r3]⟩
end APP
