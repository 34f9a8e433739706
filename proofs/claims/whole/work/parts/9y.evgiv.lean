/-! Run: a definition that is used is entered alike. -/
section GIV
variable {M0 R0 : Mm} {N NT : Nat} {G : Nat → UGt} {Mc Mr : Mm} {φ : Nat → Nat} {τ : Nat → Ty} {κ : Nat → Nat × Nat × Nat} {Es : Nat → Int → Ty} {n m nf ne : Nat} {ω : Nat → Ty} {w s lim : Nat}
theorem f245_6 {M M1 : Mm} {e p u g : Nat} {x4 x5 : Int} (h : f246 M = some (1, M1)) (he : e < 200) (hp : p < 60) (hu : u < 74) (hk : M1 63 e = 6) (hg : M1 64 e = (g : Int)) : f245 M (u : Int) (e : Int) (p : Int) x4 x5 = l245 FU 409 M1 (u : Int) (e : Int) (p : Int) x4 x5 ((8 * (60 * u + p) : Nat) : Int) (g : Int) 0 := by
  unfold f245
  rw [h, bs_]
  dsimp only
  rw [if_pos (by decide), if_pos (by omega), Int.toNat_natCast, if_neg (by omega), if_neg (by omega), if_neg (by omega), if_neg (by omega), if_neg (by omega), if_neg (by omega), if_pos (by unfold rg; omega), hg, show (8 : Int) * (((60 : Int) * (u : Int)) + (p : Int)) = ((8 * (60 * u + p) : Nat) : Int) by omega]
theorem ev_giv {u p f η : Nat} {ν : Int} (hrl : Rl M0 R0 N NT) (hNT : NT ≤ 190000) (hU : ∀ u, uIn M0 N u → UG M0 R0 u (G u)) (sc : Sj M0 R0 N NT G Mc Mr φ τ κ Es n m nf ne ω w s lim) (h71 : Mr 53 71 = ((w + 1 : Nat) : Int)) (pl : PL M0 N G Mc κ Es n nf ne u p f η ν) (rgs : Rgs G Mc Mr φ Es ω w u p f η ν) (hs : s < lim) (hl : lim ≤ 300) (hnf : nf < 302) (hne : ne < 400) (hw : w < 1900) (hk : M0 13 ((G u).2.1 p) = 6) : ∃ (Mc' Mr' : Mm) (Es' : Nat → Int → Ty), f158 Mc = some (0, Mc') ∧ f244 Mr = some (0, Mr') ∧ SE M0 R0 N NT G Mc' Mr' φ τ κ Es' n m (nf + 1) (ne + 1) ω w (s + 1) lim ∧ Mc' 51 = Mc 51 ∧ Mc' 49 = Mc 49 ∧ Mc' 47 12 = -1 := by
  obtain ⟨hst, hct, hsp, htt, hdf, hmt, hvr⟩ := hrl
  obtain ⟨r1, r2, r3, r4, q1, q2, q3, q4, q5, q6, hω⟩ := rgs
  have ug := hU u pl.1
  have upl := ug.2.2.2.2.2.2 p pl.2.1
  have sta := sc.1.1
  obtain ⟨t1, t2, t3, t4, t5, t6⟩ := sc.2.1
  obtain ⟨b1, b2, b3, b4⟩ := sc.1.2.1
  obtain ⟨tC, tR, tV, eC, eR, clT, dfT⟩ := hst
  have pN := ug.1
  have pp := pl.2.1
  have u74 : u < 74 := by
    rcases pl.1 with z | z <;> omega
  generalize he : (G u).2.1 p = e at *
  have e12 := upl.1
  rw [he] at e12
  have e200 : e < 200 := by have := eC.1.2; omega
  obtain ⟨v1, v2, v3, v4⟩ := eR.2 e e12
  have x13 : Mc 13 e = M0 13 e := by rw [sta.1 13 (by omega)]
  have x14 : Mc 14 e = M0 14 e := by rw [sta.1 14 (by omega)]
  have hc := f158_hd (M := Mc) r1 e200 t1 t3 hs hl
  have h246 := f246_y (M := up Mr 53 71 (w : Int)) (s := s) (lim := lim) (by rw [up_at (by decide)]; exact t2) (by rw [up_at (by decide)]; exact t4) hs hl
  have hr := f244_ev h71 (by omega) q1
  rw [q2, q3, q4, q5, q6] at hr
  rw [x13, x14] at hc
  unfold f158b at hc
  obtain ⟨-, -, -, -, -, -, -, -, u6⟩ := upl
  rw [he] at u6
  obtain ⟨d1, d2, d3, d4⟩ := u6 hk
  obtain ⟨k1, k2⟩ := (eC.2 e e12).2.2.2.2.2.2.2.1 hk
  obtain ⟨g, hg⟩ : ∃ k : Nat, M0 14 e = (k : Int) := ⟨(M0 14 e).toNat, by omega⟩
  rw [hg, Int.toNat_natCast] at d1 d2 d3 d4
  have g17 : (g : Int) < M0 17 4 := by omega
  have g20 : g < 20 := by have := dfT.1.2; omega
  obtain ⟨f1, f2, f3, cnt, c8, c69, c4, c21⟩ := dfT.2 g g17
  obtain ⟨sc1, g1⟩ := Sj_step (x := (w : Int)) sc
  generalize hMc1 : up (up Mc 47 9 0) 47 7 ((s : Int) + 1) = A at *
  generalize hMr1 : up (up Mr 53 71 (w : Int)) 53 58 ((s : Int) + 1) = B at *
  have pl1 := PL_grow g1 (Nat.le_refl _) (Nat.le_refl _) pl
  have sta1 := sc1.1.1
  obtain ⟨c1, c2, c3, c4'⟩ := sc1.1.2.1
  have A11 : A 47 11 = ((60 * u + p : Nat) : Int) := by rw [← hMc1, up_at (by decide), up_at (by decide)]; exact r2
  have A13 : A 47 13 = (f : Int) := by rw [← hMc1, up_at (by decide), up_at (by decide)]; exact r4
  have A51 : A 51 = Mc 51 := by rw [← hMc1, up_cell (by decide), up_cell (by decide)]
  have A49 : A 49 = Mc 49 := by rw [← hMc1, up_cell (by decide), up_cell (by decide)]
  have B71 : B 53 71 = (w : Int) := by rw [← hMr1, up_at (by decide), up_same]
  have fnf := pl.2.2.1
  have hηe := pl.2.2.2.1
  -- there
  obtain ⟨R1, w1, w2, w3, w4⟩ := l245_g (Ma := B) (g := g) (cnt := cnt) (ne := ne) (w := w) (U := 60 * u + p) (η := η) (x1 := (u : Int)) (x2 := (e : Int)) (x3 := (p : Int)) (x4 := pe φ ν) g20 (by rw [sta1.2.2.1 69 (by omega)]; exact c69) c8 c4' hne (by omega) B71 (by omega) cnt 0 FU B (by omega) (by unfold FU; omega) (fun _ _ _ => rfl) (fun _ _ => ⟨rfl, rfl⟩) (fun v hv => by omega)
  have w1 : l245 FU 409 B (u : Int) (e : Int) (p : Int) (pe φ ν) (η : Int) ((8 * (60 * u + p) : Nat) : Int) (g : Int) 0 = some (0, ptk (up R1 53 68 ((ne : Int) + 1)) w 0 (g : Int) (B 67 g) 0 (-1) (ne : Int)) := w1
  rw [f245_6 h246 e200 (by omega) u74 (by rw [sta1.2.2.1 63 (by omega), v1]; exact hk) (by rw [sta1.2.2.1 64 (by omega), v2]; exact hg), w1, bs_] at hr
  -- here
  obtain ⟨C1, y1, y2, y3, y4, y5, y6⟩ := f154_ok c2 hnf
  have pln8 : ∀ v, v < 8 → 0 ≤ M0 23 (8 * (60 * u + p) + v) ∧ M0 23 (8 * (60 * u + p) + v) ≤ 3100000 ∧ M0 23 (8 * (60 * u + p) + v) % 16 < 12 := fun v hv => by
    by_cases z : (v : Int) < R0 69 g
    · obtain ⟨i1, i2, t, i3, i4, i5⟩ := d2 v z
      have j1 := plc_dec _ i2
      have j2 := plc_trm (M := R0) (t := t) (by rw [i5]; exact i2)
      rw [i5] at j2
      have := htt.1
      rw [i1]
      omega
    · rw [d3 v (by omega) hv]
      omega
  have fbf := fun v (hv : v < 8) => sc1.1.2.2.2.1 f v fnf hv
  obtain ⟨C2, z1, z2, z3, z4⟩ := l173_in (Ma := C1) (g := g) (U := 60 * u + p) (f0 := f) (fr := nf) (B := 800000 * ((f : Int) + 1)) g20 (by omega) fnf hnf (by omega) (by omega) (fun v hv => by rw [y2 23 (by decide) (by decide), sta1.1 23 (by omega)]; have := pln8 v hv; omega) (fun v hv => by rw [y5 _ (by omega)]; exact fbf v hv) (by rw [y2 47 (by decide) (by decide)]; exact A11) (by rw [y2 47 (by decide) (by decide)]; exact A13) 8 0 FU C1 (by omega) (by unfold FU; omega) (fun _ _ => rfl) (fun _ _ => rfl) (fun v hv => by omega)
  have z1 : l173 FU 10 C1 (g : Int) (nf : Int) 0 = some (0, up (up (up (up C2 47 10 (C1 18 g)) 47 11 ((60 * g : Nat) : Int)) 47 12 (-1)) 47 13 (nf : Int)) := z1
  rw [if_neg (by omega), if_neg (by omega), if_neg (by omega), if_neg (by omega), if_neg (by omega), if_neg (by omega), hg] at hc
  unfold f173 at hc
  rw [y1, bs_] at hc
  dsimp only at hc hr
  rw [z1, bs_] at hc
  dsimp only at hc
  have C18 : C1 18 g = M0 18 g := by rw [y2 18 (by decide) (by decide), sta1.1 18 (by omega)]
  have av1 : ∀ v, v < 8 → C2 50 (8 * nf + v) = av A (M0 23 (8 * (60 * u + p) + v)) f := fun v hv => by
    rw [z4 v hv, y2 23 (by decide) (by decide), sta1.1 23 (by omega)]
    exact av_fr (pln8 v hv).2.2 (fun v hv => y5 _ (by omega))
  obtain ⟨e67, eg, eg1, _⟩ := hdf g g17
  have ugg := hU g (Or.inl ⟨g20, g17⟩)
  have cF : ∀ v : Nat, v < cnt → FT M0 R0 u p v ((G u).2.2.2.2.2 p v) := fun v hv => d2 v (by omega)
  have avb : ∀ v : Nat, v < 8 → 0 ≤ av A (M0 23 (8 * (60 * u + p) + v)) f ∧ av A (M0 23 (8 * (60 * u + p) + v)) f ≤ 800000 * ((nf : Int) + 1) := fun v hv => by
    have e23 : A 23 = M0 23 := sta1.1 23 (by omega)
    have q := pln8 v hv
    obtain ⟨_, o1, o2⟩ := act_run (M := A) (i := 8 * (60 * u + p) + v) (f := f) (x1 := ((60 * u + p : Nat) : Int)) (x2 := (v : Int)) (B := 800000 * ((f : Int) + 1)) (by omega) (by omega) (by rw [e23]; omega) (by rw [e23]; omega) (by rw [e23]; omega) (by omega) (by omega) (fun v hv => fbf v hv) (by omega)
    rw [e23] at o1 o2
    omega
  have trB : ∀ t, trm B t = trm R0 t := trm_fr (sta1.2.2.1 73 (by omega)) (sta1.2.2.1 74 (by omega)) (sta1.2.2.1 75 (by omega))
  obtain ⟨b', gB⟩ := Bas_env (Mc' := up (up (up (up C2 47 10 (C1 18 g)) 47 11 ((60 * g : Nat) : Int)) 47 12 (-1)) 47 13 (nf : Int)) (Mr' := ptk (up R1 53 68 ((ne : Int) + 1)) w 0 (g : Int) (B 67 g) 0 (-1) (ne : Int)) (σ := fun v : Int => if 0 ≤ v ∧ v < (cnt : Int) then sub (Es η) ((G u).2.2.2.2.2 p v.toNat) else tF tI tI) sc1.1
    (fun a h1 h2 h3 _ => by rw [up_cell h1, up_cell h1, up_cell h1, up_cell h1, z2 a h3, y2 a h2 h3])
    (by rw [up_at (by decide), up_at (by decide), up_at (by decide), up_at (by decide), z2 47 (by decide), y2 47 (by decide) (by decide)])
    (by rw [up_cell (by decide), up_cell (by decide), up_cell (by decide), up_cell (by decide), z2 48 (by decide), y3 2 (by decide)])
    (by rw [up_cell (by decide), up_cell (by decide), up_cell (by decide), up_cell (by decide), z2 48 (by decide), y4])
    (fun j hj => by rw [up_cell (by decide), up_cell (by decide), up_cell (by decide), up_cell (by decide), z3 j (Or.inl hj), y5 j (Or.inl hj)])
    (fun v hv => by rw [up_cell (by decide), up_cell (by decide), up_cell (by decide), up_cell (by decide), av1 v hv]; exact avb v hv)
    (fun a h1 h2 h3 h4 => by rw [ptk_cell h1 h4, up_cell h1, w2 a h2 h3])
    (fun j hj => by rw [ptk_53 (by omega), up_at (by omega), w2 53 (by decide) (by decide)])
    (by rw [ptk_53 (by decide), up_same]; omega)
    (fun j hj => by rw [ptk_cell (by decide) (by omega), ptk_cell (by decide) (by omega), up_cell (by decide), up_cell (by decide)]; exact w3 j hj)
    (fun v => by
      by_cases z : 0 ≤ v ∧ v < (cnt : Int)
      · obtain ⟨k, rfl⟩ : ∃ k : Nat, v = (k : Int) := ⟨v.toNat, by omega⟩
        obtain ⟨i1, i2, t, i3, i4, i5⟩ := cF k (by omega)
        have h53 := htt.1
        obtain ⟨o1, o2⟩ := w4 k (by omega)
        refine Or.inr ⟨k, t, η, rfl, by omega, ?_, ?_, by omega, hηe, ?_⟩
        · rw [ptk_cell (by decide) (by omega), up_cell (by decide), o1, sta1.2.2.1 72 (by omega)]; exact i3
        · rw [ptk_cell (by decide) (by omega), up_cell (by decide), o2]
        · rw [if_pos z, trB, i5, Int.toNat_natCast]
      · exact Or.inl (if_neg z))
  obtain ⟨m1, m2, m3, m4, m5, m6⟩ := sc1.2.1
  have X47 : ∀ j, j ≠ 10 → j ≠ 11 → j ≠ 12 → j ≠ 13 → up (up (up (up C2 47 10 (C1 18 g)) 47 11 ((60 * g : Nat) : Int)) 47 12 (-1)) 47 13 (nf : Int) 47 j = A 47 j := fun j h1 h2 h3 h4 => by rw [up_at h4, up_at h3, up_at h2, up_at h1, z2 47 (by decide), y2 47 (by decide) (by decide)]
  have X53 : ∀ j, j ≠ 71 → j ≠ 68 → ptk (up R1 53 68 ((ne : Int) + 1)) w 0 (g : Int) (B 67 g) 0 (-1) (ne : Int) 53 j = B 53 j := fun j h1 h2 => by rw [ptk_53 h1, up_at h2, w2 53 (by decide) (by decide)]
  have X51 : up (up (up (up C2 47 10 (C1 18 g)) 47 11 ((60 * g : Nat) : Int)) 47 12 (-1)) 47 13 (nf : Int) 51 = A 51 := by rw [up_cell (by decide), up_cell (by decide), up_cell (by decide), up_cell (by decide), z2 51 (by decide), y2 51 (by decide) (by decide)]
  have sc3 := Sj_to (s' := s + 1) sc1 b' gB ⟨by rw [X47 7 (by decide) (by decide) (by decide) (by decide)]; exact m1, by rw [X53 58 (by decide) (by decide)]; exact m2, by rw [X47 8 (by decide) (by decide) (by decide) (by decide)]; exact m3, by rw [X53 59 (by decide) (by decide)]; exact m4, by rw [X47 9 (by decide) (by decide) (by decide) (by decide)]; exact m5, by rw [X53 60 (by decide) (by decide)]; exact m6⟩ (by rw [X47 6 (by decide) (by decide) (by decide) (by decide)]; exact sc1.2.2.1) (fun j _ => by rw [X51]) (fun a k h1 h2 h3 => by rw [ptk_old (by omega) (by omega), up_cell (by omega), w2 a (by omega) (by omega)])
  have uEg : ((G g).2.1 0 : Int) = M0 18 g := by
    rw [ugg.2.2.2.1]
    unfold uE
    rw [if_pos g20, eg1, Int.toNat_natCast]
  refine ⟨_, _, _, hc, hr, ⟨sc3, ptk_71, g, 0, nf, ne, -1, ⟨Or.inl ⟨g20, g17⟩, by have := ugg.1; omega, by omega, by omega, fun c v q => ?_, Or.inl ⟨ugg.2.2.2.2.1, rfl⟩⟩, by rw [up_at (by decide), up_at (by decide), up_at (by decide), up_same, C18, uEg], by rw [up_at (by decide), up_at (by decide), up_same]; omega, by rw [up_at (by decide), up_same], by rw [up_same], ptk_row.1, ptk_row.2.1, by rw [ptk_row.2.2.1, sta1.2.2.1 67 (by omega), e67, uEg], ptk_row.2.2.2.1, ptk_row.2.2.2.2.1, ptk_row.2.2.2.2.2, ?_⟩, by rw [X51, A51], by rw [up_cell (by decide), up_cell (by decide), up_cell (by decide), up_cell (by decide), z2 49 (by decide), y2 49 (by decide) (by decide), A49], by rw [up_at (by decide), up_same]⟩
  · unfold uA at q
    rw [if_pos g20] at q
    obtain ⟨i, k, i1, i2, i3, i4⟩ := q
    obtain ⟨_, c', v', o1, o2, o3⟩ := c21 i i1
    have hN := hct.1.1
    have kc : k < cnt := by omega
    obtain ⟨l1, l2, _⟩ := cF k kc
    refine ⟨by omega, k, i3, i2, ?_⟩
    subst i2
    rw [fu_eq, up_cell (by decide), up_cell (by decide), up_cell (by decide), up_cell (by decide), av1 k i3, l1, if_pos (by omega), Int.toNat_natCast]
    exact cf_sub (CT_CW hct) hsp (fun v hv => (fbf v hv).1) pl1.2.2.2.2.1 _ c l2 (d4 i c k i1 i3 i4)
  · rw [fu_eq, ugg.2.2.2.2.2.1, hω, d1, sub_sub]
    unfold uT
    rw [if_pos g20]
    exact sub_vlt (m := (cnt : Int)) (fun v h1 h2 => by rw [if_pos ⟨h1, h2⟩]) _ (dt_vlt tC tV (by omega) (by rw [c4]))
end GIV
