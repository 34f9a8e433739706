/-! Run: numbers, primitives, lambdas are evaluated alike. -/
theorem PTy_sub {k : Nat} {T : Ty} (σ : Int → Ty) (h : PTy k T) : PTy k (sub σ T) := by
  rcases h with ⟨h, e⟩ | ⟨h, e⟩ | ⟨h, e⟩ | ⟨h, a, e⟩ | ⟨h, a, e⟩ | ⟨h, a, e⟩ | ⟨h, a, b, e⟩
  · rw [e]; exact Or.inl ⟨h, rfl⟩
  · rw [e]; exact Or.inr (Or.inl ⟨h, rfl⟩)
  · rw [e]; exact Or.inr (Or.inr (Or.inl ⟨h, rfl⟩))
  · rw [e]; exact Or.inr (Or.inr (Or.inr (Or.inl ⟨h, sub σ a, rfl⟩)))
  · rw [e]; exact Or.inr (Or.inr (Or.inr (Or.inr (Or.inl ⟨h, sub σ a, rfl⟩))))
  · rw [e]; exact Or.inr (Or.inr (Or.inr (Or.inr (Or.inr (Or.inl ⟨h, sub σ a, rfl⟩)))))
  · rw [e]; exact Or.inr (Or.inr (Or.inr (Or.inr (Or.inr (Or.inr ⟨h, sub σ a, sub σ b, rfl⟩)))))
/-- what a cell of the class points at -/
def fld (M : Mm) (i x : Nat) : Prop := ((M 49 (5 * i) = 2 ∨ M 49 (5 * i) = 5) ∧ (M 49 (5 * i + 1) = (x : Int) ∨ M 49 (5 * i + 2) = (x : Int))) ∨ (M 49 (5 * i) = 3 ∧ M 49 (5 * i + 3) = (x : Int)) ∨ (M 49 (5 * i) = 4 ∧ ((1 ≤ M 49 (5 * i + 2) ∧ M 49 (5 * i + 3) = (x : Int)) ∨ (M 49 (5 * i + 2) = 2 ∧ M 49 (5 * i + 4) = (x : Int))))
def clF (M : Mm) (n : Nat) (S : Nat → Prop) : Prop := ∀ i x, i < n → S i → fld M i x → S x
section EVC
variable {M0 R0 : Mm} {N NT : Nat} {G : Nat → UGt} {Mc Mr : Mm} {φ : Nat → Nat} {τ : Nat → Ty} {κ : Nat → Nat × Nat × Nat} {Es : Nat → Int → Ty} {n m nf ne : Nat} {ω : Nat → Ty} {w s lim : Nat}
/-- the registers stand at a place -/
def Rgs (G : Nat → UGt) (Mc Mr : Mm) (φ : Nat → Nat) (Es : Nat → Int → Ty) (ω : Nat → Ty) (w u p f η : Nat) (ν : Int) : Prop := Mc 47 10 = ((G u).2.1 p : Int) ∧ Mc 47 11 = ((60 * u + p : Nat) : Int) ∧ Mc 47 12 = ν ∧ Mc 47 13 = (f : Int) ∧ Mr 103 w = 0 ∧ Mr 104 w = (u : Int) ∧ Mr 105 w = ((G u).2.1 p : Int) ∧ Mr 106 w = (p : Int) ∧ Mr 107 w = pe φ ν ∧ Mr 108 w = (η : Int) ∧ ω w = sub (Es η) ((G u).2.2.2.1 p)
/-- what evaluating comes to where it makes a cell -/
def EvC (M0 R0 : Mm) (N NT : Nat) (G : Nat → UGt) (Mc Mr : Mm) (φ : Nat → Nat) (τ : Nat → Ty) (κ : Nat → Nat × Nat × Nat) (Es : Nat → Int → Ty) (n m nf ne : Nat) (ω : Nat → Ty) (w s lim : Nat) : Prop := ∃ (Mc' Mr' : Mm) (q : Nat × Nat × Nat), f158 Mc = some (0, Mc') ∧ f244 Mr = some (0, Mr') ∧ SV M0 R0 N NT G Mc' Mr' (fu φ n m) (fu τ n (ω w)) (fu κ n q) Es (n + 1) (m + 1) nf ne ω w (s + 1) lim ∧ Mc' 51 = Mc 51 ∧ (∀ j, j < 5 * n → Mc' 49 j = Mc 49 j) ∧ Mc' 47 14 = (n : Int) ∧ (Mc' 49 (5 * n) = 0 ∨ Mc' 49 (5 * n) = 1 ∨ (Mc' 49 (5 * n) = 3 ∧ Mc' 49 (5 * n + 3) = Mc 47 12) ∨ (Mc' 49 (5 * n) = 4 ∧ Mc' 49 (5 * n + 2) = 0))
theorem ev_fin {x1 x2 x3 x4 x5 y1 y2 y3 y4 y5 y6 : Int} {q : Nat × Nat × Nat} (hx : x1 = 0 ∨ x1 = 1 ∨ (x1 = 3 ∧ x4 = Mc 47 12) ∨ (x1 = 4 ∧ x3 = 0)) (sc : Sj M0 R0 N NT G Mc Mr φ τ κ Es n m nf ne ω w s lim) (hc : f158 Mc = some (0, up (up (wc (up (up Mc 47 9 0) 47 7 ((s : Int) + 1)) n x1 x2 x3 x4 x5) 47 14 (n : Int)) 47 10 (-1))) (hr : f244 Mr = some (0, up (wr (up (up Mr 53 71 (w : Int)) 53 58 ((s : Int) + 1)) m y1 y2 y3 y4 y5 y6) 53 78 (m : Int))) (hn : Grw (up (up Mc 47 9 0) 47 7 ((s : Int) + 1)) (up (up Mr 53 71 (w : Int)) 53 58 ((s : Int) + 1)) φ τ κ Es n m nf ne (wc (up (up Mc 47 9 0) 47 7 ((s : Int) + 1)) n x1 x2 x3 x4 x5) (wr (up (up Mr 53 71 (w : Int)) 53 58 ((s : Int) + 1)) m y1 y2 y3 y4 y5 y6) (fu φ n m) (fu τ n (ω w)) (fu κ n q) Es (n + 1) (m + 1) nf ne → COK M0 N G (wc (up (up Mc 47 9 0) 47 7 ((s : Int) + 1)) n x1 x2 x3 x4 x5) (wr (up (up Mr 53 71 (w : Int)) 53 58 ((s : Int) + 1)) m y1 y2 y3 y4 y5 y6) (fu φ n m) (fu τ n (ω w)) (fu κ n q) Es (m + 1) nf ne n) : EvC M0 R0 N NT G Mc Mr φ τ κ Es n m nf ne ω w s lim :=
  ⟨_, _, _, hc, hr, SV_new (Sj_step sc).1 (by rw [up_at (by decide), up_same]) hn, by rw [up_cell (by decide), up_cell (by decide), wc_cell (by decide) (by decide), up_cell (by decide), up_cell (by decide)], fun j hj => by rw [up_cell (by decide), up_cell (by decide), wc_old hj, up_cell (by decide), up_cell (by decide)], by rw [up_at (by decide), up_same], by rw [up_cell (by decide), up_cell (by decide), wc_row.1, wc_row.2.2.1, wc_row.2.2.2.1]; exact hx⟩
theorem ev_cell {u p f η : Nat} {ν : Int} (hst : Stat M0 R0) (hU : ∀ u, uIn M0 N u → UG M0 R0 u (G u)) (sc : Sj M0 R0 N NT G Mc Mr φ τ κ Es n m nf ne ω w s lim) (h71 : Mr 53 71 = ((w + 1 : Nat) : Int)) (pl : PL M0 N G Mc κ Es n nf ne u p f η ν) (rgs : Rgs G Mc Mr φ Es ω w u p f η ν) (hs : s < lim) (hl : lim ≤ 300) (hn : n < 602) (hm : m < 6000) (hw : w < 2000) (hk : M0 13 ((G u).2.1 p) = 0 ∨ M0 13 ((G u).2.1 p) = 1 ∨ M0 13 ((G u).2.1 p) = 3) : EvC M0 R0 N NT G Mc Mr φ τ κ Es n m nf ne ω w s lim := by
  obtain ⟨r1, r2, r3, r4, q1, q2, q3, q4, q5, q6, hω⟩ := rgs
  have ug := hU u pl.1
  have upl := ug.2.2.2.2.2.2 p pl.2.1
  have sta := sc.1.1
  obtain ⟨t1, t2, t3, t4, t5, t6⟩ := sc.2.1
  obtain ⟨b1, b2, b3, b4⟩ := sc.1.2.1
  have eC := hst.2.2.2.1
  have eR := hst.2.2.2.2.1
  have pN := ug.1
  have pp := pl.2.1
  generalize he : (G u).2.1 p = e at *
  have e12 := upl.1
  rw [he] at e12
  have e200 : e < 200 := by have := eC.1.2; omega
  obtain ⟨v1, v2, v3, v4⟩ := eR.2 e e12
  have x13 : Mc 13 e = M0 13 e := by rw [sta.1 13 (by omega)]
  have x14 : Mc 14 e = M0 14 e := by rw [sta.1 14 (by omega)]
  have hc := f158_hd (M := Mc) r1 e200 t1 t3 hs hl
  have n48 : up (up Mc 47 9 0) 47 7 ((s : Int) + 1) 48 2 = (n : Int) := by rw [up_cell (by decide), up_cell (by decide)]; exact b1
  have m61 : up (up Mr 53 71 (w : Int)) 53 58 ((s : Int) + 1) 53 61 = (m : Int) := by rw [up_at (by decide), up_at (by decide)]; exact b3
  have h246 := f246_y (M := up Mr 53 71 (w : Int)) (s := s) (lim := lim) (by rw [up_at (by decide)]; exact t2) (by rw [up_at (by decide)]; exact t4) hs hl
  have y63 : up (up Mr 53 71 (w : Int)) 53 58 ((s : Int) + 1) 63 e = M0 13 e := by rw [up_cell (by decide), up_cell (by decide), sta.2.2.1 63 (by omega)]; exact v1
  have y64 : up (up Mr 53 71 (w : Int)) 53 58 ((s : Int) + 1) 64 e = M0 14 e := by rw [up_cell (by decide), up_cell (by decide), sta.2.2.1 64 (by omega)]; exact v2
  have hr := f244_ev h71 hw q1
  rw [q2, q3, q4, q5, q6] at hr
  rw [x13, x14] at hc
  unfold f158b at hc
  obtain ⟨-, -, u0, u1, -, u3, -⟩ := upl
  rw [he] at u0 u1 u3
  rcases hk with hk | hk | hk
  · rw [if_pos hk] at hc
    unfold f160 f162 at hc
    rw [f161_eq n48 hn, bs_, bs_, bs_] at hc
    rw [f245_0 h246 e200 (by rw [y63]; exact hk), y64, f247_eq m61 hm, bs_, bs_] at hr
    refine ev_fin (q := (0, 0, 0)) (Or.inl rfl) sc hc hr (fun _ => ⟨by rw [fu_eq]; omega, Or.inl ⟨wc_row.1, Or.inl ⟨?_, ?_⟩, ?_⟩⟩)
    · rw [fu_eq, hω, u0 hk]; rfl
    · rw [fu_eq]; exact wr_row.1
    · rw [fu_eq, wr_row.2.1, wc_row.2.1]
  · have pt := PTy_sub (Es η) (u1 hk)
    rw [← hω] at pt
    obtain ⟨k1, k2⟩ := (eC.2 e e12).2.2.1 hk
    obtain ⟨k, hk14⟩ : ∃ k : Nat, M0 14 e = (k : Int) := ⟨(M0 14 e).toNat, by omega⟩
    rw [hk14, Int.toNat_natCast] at pt
    rw [if_neg (by omega), if_pos hk, hk14] at hc
    rw [f245_1 h246 e200 (by rw [y63]; exact hk), y64, hk14] at hr
    unfold f163 f160 f162 at hc
    by_cases z0 : k = 0
    · subst z0
      rw [if_pos (by omega), if_neg (by omega), f161_eq n48 hn, bs_, bs_, bs_, bs_] at hc
      rw [if_neg (by omega), if_pos (by unfold rg; omega), f247_eq m61 hm, bs_, bs_] at hr
      refine ev_fin (q := (0, 0, 0)) (Or.inl rfl) sc hc hr (fun _ => ⟨by rw [fu_eq]; omega, Or.inl ⟨wc_row.1, Or.inr ⟨?_, ?_⟩, ?_⟩⟩)
      · rw [fu_eq]
        rcases pt with z | z | z | z | z | z | z
        · exact z.2
        all_goals (have := z.1; omega)
      · rw [fu_eq]; exact wr_row.1
      · rw [fu_eq, wr_row.2.1, wc_row.2.1]; rfl
    by_cases z1 : k = 1
    · subst z1
      rw [if_neg (by omega), if_neg (by omega), if_pos (by omega), f161_eq n48 hn, bs_, bs_, bs_, bs_] at hc
      rw [if_neg (by omega), if_pos (by unfold rg; omega), f247_eq m61 hm, bs_, bs_] at hr
      refine ev_fin (q := (0, 0, 0)) (Or.inl rfl) sc hc hr (fun _ => ⟨by rw [fu_eq]; omega, Or.inl ⟨wc_row.1, Or.inr ⟨?_, ?_⟩, ?_⟩⟩)
      · rw [fu_eq]
        rcases pt with z | z | z | z | z | z | z
        · exact z.2
        all_goals (have := z.1; omega)
      · rw [fu_eq]; exact wr_row.1
      · rw [fu_eq, wr_row.2.1, wc_row.2.1]; rfl
    by_cases z5 : k = 5
    · subst z5
      rw [if_neg (by omega), if_pos (by omega), if_neg (by omega), f161_eq n48 hn, bs_, bs_, bs_] at hc
      rw [if_pos (by omega), if_neg (by omega), f247_eq m61 hm, bs_, bs_] at hr
      refine ev_fin (q := (0, 0, 0)) (Or.inr (Or.inl rfl)) sc hc hr (fun _ => ⟨by rw [fu_eq]; omega, Or.inr (Or.inl ⟨wc_row.1, ?_, ?_⟩)⟩)
      · rw [fu_eq]; exact wr_row.1
      · rw [fu_eq]
        rcases pt with z | z | z | z | z | z | z
        · have := z.1; omega
        · have := z.1; omega
        · have := z.1; omega
        · have := z.1; omega
        · exact z.2
        · have := z.1; omega
        · have := z.1; omega
    · rw [if_neg (by omega), if_pos (by omega), if_pos (by omega), f161_eq n48 hn, bs_, bs_, bs_] at hc
      rw [if_pos (by omega), if_pos (by omega), f247_eq m61 hm, bs_, bs_] at hr
      refine ev_fin (q := (0, 0, 0)) (Or.inr (Or.inr (Or.inr ⟨rfl, rfl⟩))) sc hc hr (fun _ => ⟨by rw [fu_eq]; omega, Or.inr (Or.inr (Or.inr (Or.inr (Or.inl ⟨wc_row.1, ?_, k, ⟨by omega, by omega, z5⟩, wc_row.2.1, ?_, Or.inl ⟨wc_row.2.2.1, ?_, ?_⟩⟩))))⟩)
      · rw [fu_eq]; exact wr_row.1
      · rw [fu_eq]; exact wr_row.2.1
      · rw [fu_eq]; exact wr_row.2.2.1
      · rw [fu_eq]; exact pt
  · have r11 : up (up Mc 47 9 0) 47 7 ((s : Int) + 1) 47 11 = ((60 * u + p : Nat) : Int) := by rw [up_at (by decide), up_at (by decide)]; exact r2
    have r12 : up (up Mc 47 9 0) 47 7 ((s : Int) + 1) 47 12 = ν := by rw [up_at (by decide), up_at (by decide)]; exact r3
    have r13 : up (up Mc 47 9 0) 47 7 ((s : Int) + 1) 47 13 = (f : Int) := by rw [up_at (by decide), up_at (by decide)]; exact r4
    have u74 : u < 74 := by
      rcases pl.1 with z | z <;> omega
    rw [if_neg (by omega), if_neg (by omega), if_neg (by omega), if_pos hk, r11, r12, r13, if_pos (by unfold rg; omega)] at hc
    unfold f162 at hc
    rw [f161_eq n48 hn, bs_, bs_] at hc
    rw [f245_3 h246 e200 (by omega) (by rw [y63]; exact hk), y64, f247_eq m61 hm, bs_, bs_] at hr
    have g1 := (Sj_step (x := (w : Int)) sc).2
    have pl1 := PL_grow g1 (Nat.le_refl _) (Nat.le_refl _) pl
    refine ev_fin (q := (0, 0, 0)) (Or.inr (Or.inr (Or.inl ⟨rfl, r3.symm⟩))) sc hc hr (fun g => ⟨by rw [fu_eq]; omega, Or.inr (Or.inr (Or.inr (Or.inl ⟨wc_row.1, ?_, u, p, f, η, ν, PL_grow g (Nat.le_refl _) (Nat.le_refl _) pl1, by rw [he]; exact hk, by rw [he]; exact wc_row.2.1, ?_, wc_row.2.2.2.1, wc_row.2.2.2.2, ?_, ?_, ?_, ?_, ?_, ?_⟩)))⟩)
    · rw [fu_eq]; exact wr_row.1
    · rw [wc_row.2.2.1]; omega
    · rw [fu_eq]; exact wr_row.2.1
    · rw [fu_eq, he]; exact wr_row.2.2.1
    · rw [fu_eq, wr_row.2.2.2.1]; omega
    · rw [fu_eq, wr_row.2.2.2.2.1, pe_grow g (k := n) (Nat.le_refl _) pl1.2.2.2.2.2]
    · rw [fu_eq]; exact wr_row.2.2.2.2.2
    · rw [fu_eq, hω]
end EVC
