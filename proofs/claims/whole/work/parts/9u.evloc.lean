/-! Run: locals and applications are evaluated alike. -/
theorem f165_eq {M : Mm} {i j : Nat} (hi : i < 602) (hj : j < 4) : f165 M (i : Int) (j : Int) = some (M 49 (5 * i + 1 + j)) := by
  unfold f165
  rw [if_pos (by omega), show Int.toNat ((i : Int) * 5 + 1 + (j : Int)) = 5 * i + 1 + j by omega]
section LOC
variable {M0 R0 : Mm} {N NT : Nat} {G : Nat → UGt} {Mc Mr : Mm} {φ : Nat → Nat} {τ : Nat → Ty} {κ : Nat → Nat × Nat × Nat} {Es : Nat → Int → Ty} {n m nf ne : Nat} {ω : Nat → Ty} {w s lim : Nat}
theorem COK_5 {i : Nat} (h : COK M0 N G Mc Mr φ τ κ Es m nf ne i) (k : Mc 49 (5 * i) = 5) : C5 G Mc Mr φ τ κ Es ne i := by
  rcases h.2 with h | h | h | h | h | h
  · have := h.1; omega
  · have := h.1; omega
  · have := h.1; omega
  · have := h.1; omega
  · have := h.1; omega
  · exact h
theorem walk {u η l K e : Nat} {x0 z1 z3 z4 z5 z6 : Int} (hC : ∀ i, i < n → COK M0 N G Mc Mr φ τ κ Es m nf ne i) (hn : n ≤ 602) (hm : m ≤ 6000) (hK : K ≤ 100) (he : e < 200) (h64 : Mr 64 e = (K : Int)) : ∀ (k x : Nat) (q ν : Int) (f f' : Nat), x + k = K → k < f → k < f' → EnK Mc κ n u q ν η → arl (G u).2.2.1 k q = (l : Int) →
    ∃ i j : Nat, i < n ∧ j < i ∧ l164 f 5 Mc x0 (K : Int) ν (x : Int) = some (j : Int) ∧ l245 f' 164 Mr z1 (e : Int) z3 z4 z5 z6 (pe φ ν) (x : Int) = some (0, up Mr 53 78 (φ j : Int)) ∧ τ j = sub (Es η) ((G u).2.2.2.2.1 l) ∧ ∀ S : Nat → Prop, clF Mc n S → (∀ y : Nat, ν = (y : Int) → S y) → S j := by
  intro k
  induction k with
  | zero =>
    intro x q ν f f' hx hf hf' en ha
    obtain ⟨f, rfl⟩ : ∃ f2, f = f2 + 1 := ⟨f - 1, by omega⟩
    obtain ⟨f', rfl⟩ : ∃ f2, f' = f2 + 1 := ⟨f' - 1, by omega⟩
    have ha : q = (l : Int) := ha
    rcases en with ⟨e1, _⟩ | ⟨l0, i, e1, e2, e3, e4, e5⟩
    · omega
    · obtain rfl : l0 = l := by omega
      subst e2
      obtain ⟨_, _, u', l', η', j, d1, d2, d3, d4, d5, d6, d7, d8⟩ := COK_5 (hC i e3) e4
      rw [e5] at d1
      obtain ⟨rfl, d1b⟩ := Prod.mk.inj d1
      obtain ⟨rfl, rfl⟩ := Prod.mk.inj d1b
      have y := (hC i e3).1
      refine ⟨i, j, e3, d3, ?_, ?_, d6, fun S h1 h2 => h1 i j e3 (h2 i rfl) (Or.inl ⟨Or.inr e4, Or.inl d4⟩)⟩
      · rw [l164, if_pos (by omega), show (0 : Int) = ((0 : Nat) : Int) from rfl, f165_eq (by omega) (by omega), bs_, Nat.add_zero, d4]
      · have ep : pe φ (i : Int) = (φ i : Int) := by unfold pe; rw [if_neg (by omega), Int.toNat_natCast]
        rw [l245, ep, if_pos (by omega), Int.toNat_natCast, h64, if_pos (by omega), if_pos (by omega), Int.toNat_natCast, d5]
  | succ k ih =>
    intro x q ν f f' hx hf hf' en ha
    obtain ⟨f, rfl⟩ : ∃ f2, f = f2 + 1 := ⟨f - 1, by omega⟩
    obtain ⟨f', rfl⟩ : ∃ f2, f' = f2 + 1 := ⟨f' - 1, by omega⟩
    have ha : (if q = -1 then -1 else arl (G u).2.2.1 k ((G u).2.2.1 q.toNat)) = (l : Int) := ha
    rcases en with ⟨e1, _⟩ | ⟨l0, i, e1, e2, e3, e4, e5⟩
    · rw [if_pos e1] at ha
      omega
    · subst e2
      rw [if_neg (by omega), e1, Int.toNat_natCast] at ha
      obtain ⟨_, _, u', l', η', j, d1, d2, d3, d4, d5, d6, d7, d8⟩ := COK_5 (hC i e3) e4
      rw [e5] at d1
      obtain ⟨rfl, d1b⟩ := Prod.mk.inj d1
      obtain ⟨rfl, rfl⟩ := Prod.mk.inj d1b
      have y := (hC i e3).1
      have en2 : EnK Mc κ n u ((G u).2.2.1 l0) (Mc 49 (5 * i + 2)) η := by
        rcases d8 with z | ⟨l2, i2, z1, z2, z3, z4⟩
        · exact Or.inl z
        · exact Or.inr ⟨l2, i2, z1, z2, by omega, z4⟩
      obtain ⟨i2, j2, r1, r2, r3, r4, r5, r6⟩ := ih (x + 1) _ _ f f' (by omega) (by omega) (by omega) en2 ha
      refine ⟨i2, j2, r1, r2, ?_, ?_, r5, fun S h1 h2 => r6 S h1 (fun y hy => h1 i y e3 (h2 i rfl) (Or.inl ⟨Or.inr e4, Or.inr hy⟩))⟩
      · rw [l164, if_neg (by omega), show (1 : Int) = ((1 : Nat) : Int) from rfl, f165_eq (by omega) (by omega), bs_, if_pos (by unfold rg; omega)]
        exact r3
      · have ep : pe φ (i : Int) = (φ i : Int) := by unfold pe; rw [if_neg (by omega), Int.toNat_natCast]
        rw [l245, ep, if_pos (by omega), Int.toNat_natCast, h64, if_neg (by omega), if_pos (by omega), if_pos (by unfold rg; omega), Int.toNat_natCast, d7]
        exact r4
theorem f245_2 {M M1 : Mm} {e p u : Nat} {x4 x5 : Int} (h : f246 M = some (1, M1)) (he : e < 200) (hp : p < 60) (hu : u < 74) (hk : M1 63 e = 2) : f245 M (u : Int) (e : Int) (p : Int) x4 x5 = l245 FU 164 M1 (u : Int) (e : Int) (p : Int) x4 x5 ((8 : Int) * (((60 : Int) * (u : Int)) + (p : Int))) x4 0 := by
  unfold f245
  rw [h, bs_]
  dsimp only
  rw [if_pos (by decide), if_pos (by omega), Int.toNat_natCast, if_neg (by omega), if_neg (by omega), if_pos hk, if_pos (by unfold rg; omega)]
/-- a local -/
theorem ev_loc {u p f η : Nat} {ν : Int} (hst : Stat M0 R0) (hU : ∀ u, uIn M0 N u → UG M0 R0 u (G u)) (sc : Sj M0 R0 N NT G Mc Mr φ τ κ Es n m nf ne ω w s lim) (h71 : Mr 53 71 = ((w + 1 : Nat) : Int)) (pl : PL M0 N G Mc κ Es n nf ne u p f η ν) (rgs : Rgs G Mc Mr φ Es ω w u p f η ν) (hs : s < lim) (hl : lim ≤ 300) (hn : n ≤ 602) (hm : m ≤ 6000) (hw : w < 2000) (hk : M0 13 ((G u).2.1 p) = 2) : ∃ (Mc' Mr' : Mm), f158 Mc = some (0, Mc') ∧ f244 Mr = some (0, Mr') ∧ SV M0 R0 N NT G Mc' Mr' φ τ κ Es n m nf ne ω w (s + 1) lim ∧ Mc' 51 = Mc 51 ∧ Mc' 49 = Mc 49 ∧ ∀ S : Nat → Prop, clF Mc n S → (∀ y : Nat, Mc 47 12 = (y : Int) → S y) → ∀ y : Nat, Mc' 47 14 = (y : Int) → S y := by
  obtain ⟨r1, r2, r3, r4, q1, q2, q3, q4, q5, q6, hω⟩ := rgs
  have ug := hU u pl.1
  have upl := ug.2.2.2.2.2.2 p pl.2.1
  have sta := sc.1.1
  obtain ⟨t1, t2, t3, t4, t5, t6⟩ := sc.2.1
  have eC := hst.2.2.2.1
  have eR := hst.2.2.2.2.1
  have pN := ug.1
  have pp := pl.2.1
  have u74 : u < 74 := by
    rcases pl.1 with z | z <;> omega
  generalize he : (G u).2.1 p = e at *
  have e12 := upl.1
  rw [he] at e12
  have e200 : e < 200 := by have := eC.1.2; omega
  obtain ⟨v1, v2, v3, v4⟩ := eR.2 e e12
  have x13 : Mc 13 e = M0 13 e := by rw [sta.1 13 (by omega)]
  have x14 : Mc 14 e = M0 14 e := by rw [sta.1 14 (by omega)]
  have hc := f158_hd (M := Mc) r1 e200 t1 t3 hs hl
  have h246 := f246_y (M := up Mr 53 71 (w : Int)) (s := s) (lim := lim) (by rw [up_at (by decide)]; exact t2) (by rw [up_at (by decide)]; exact t4) hs hl
  have y63 : up (up Mr 53 71 (w : Int)) 53 58 ((s : Int) + 1) 63 e = M0 13 e := by rw [up_cell (by decide), up_cell (by decide), sta.2.2.1 63 (by omega)]; exact v1
  have y64 : up (up Mr 53 71 (w : Int)) 53 58 ((s : Int) + 1) 64 e = M0 14 e := by rw [up_cell (by decide), up_cell (by decide), sta.2.2.1 64 (by omega)]; exact v2
  have hr := f244_ev h71 hw q1
  rw [q2, q3, q4, q5, q6] at hr
  rw [x13, x14] at hc
  unfold f158b at hc
  obtain ⟨-, -, -, -, u2, -⟩ := upl
  rw [he] at u2
  obtain ⟨l, l1, l2⟩ := u2 hk
  obtain ⟨k1, k2⟩ := (eC.2 e e12).2.2.2.1 hk
  obtain ⟨K, hK⟩ : ∃ k : Nat, M0 14 e = (k : Int) := ⟨(M0 14 e).toNat, by omega⟩
  rw [hK, Int.toNat_natCast] at l1
  obtain ⟨sc1, g1⟩ := Sj_step (x := (w : Int)) sc
  have pl1 := PL_grow g1 (Nat.le_refl _) (Nat.le_refl _) pl
  obtain ⟨i, j, w1, w2, w3, w4, w5, w6⟩ := walk (u := u) (η := η) (l := l) (K := K) (e := e) (x0 := ν) (z1 := (u : Int)) (z3 := (p : Int)) (z4 := pe φ ν) (z5 := (η : Int)) (z6 := (8 : Int) * (((60 : Int) * (u : Int)) + (p : Int))) sc1.1.2.2.2.2 hn hm (by omega) e200 (by rw [y64]; exact hK) K 0 _ ν FU FU (by omega) (by unfold FU; omega) (by unfold FU; omega) pl1.2.2.2.2.2 l1
  have r12 : up (up Mc 47 9 0) 47 7 ((s : Int) + 1) 47 12 = ν := by rw [up_at (by decide), up_at (by decide)]; exact r3
  rw [if_neg (by omega), if_neg (by omega), if_pos hk, r12, hK] at hc
  unfold f164 f162 at hc
  have w3 : l164 FU 5 (up (up Mc 47 9 0) 47 7 ((s : Int) + 1)) ν (K : Int) ν 0 = some (j : Int) := w3
  rw [w3, bs_, bs_] at hc
  rw [f245_2 h246 e200 (by omega) u74 (by rw [y63]; exact hk)] at hr
  have w4 : l245 FU 164 (up (up Mr 53 71 (w : Int)) 53 58 ((s : Int) + 1)) (u : Int) (e : Int) (p : Int) (pe φ ν) (η : Int) ((8 : Int) * (((60 : Int) * (u : Int)) + (p : Int))) (pe φ ν) 0 = some (0, up (up (up Mr 53 71 (w : Int)) 53 58 ((s : Int) + 1)) 53 78 (φ j : Int)) := w4
  rw [w4, bs_] at hr
  dsimp only at hc hr
  refine ⟨_, _, hc, hr, SV_old sc1 (by rw [up_at (by decide), up_same]) (by omega) (by rw [w5, hω, l2]), by rw [up_cell (by decide), up_cell (by decide), up_cell (by decide), up_cell (by decide)], by rw [up_cell (by decide), up_cell (by decide), up_cell (by decide), up_cell (by decide)], fun S h1 h2 y hy => ?_⟩
  rw [up_at (by decide), up_same] at hy
  obtain rfl : j = y := by omega
  refine w6 S (fun i x hi hS hf => h1 i x hi hS ?_) (fun y hy => h2 y (by rw [r3]; exact hy))
  unfold fld at hf ⊢
  rw [up_cell (by decide), up_cell (by decide)] at hf
  exact hf
end LOC
