/-! Run: a use of a method is entered alike. -/
section USE
variable {M0 R0 : Mm} {N NT : Nat} {G : Nat → UGt} {Mc Mr A B Mc' Mr' : Mm} {φ φ' : Nat → Nat} {τ τ' : Nat → Ty} {κ κ' : Nat → Nat × Nat × Nat} {Es Es' : Nat → Int → Ty} {n m nf ne n' m' nf' ne' : Nat} {ω : Nat → Ty} {w s lim : Nat}
/-- a place is to be evaluated: all that is to be seen -/
theorem SE_mk {u p f η : Nat} {ν : Int} (sc : Sj M0 R0 N NT G A B φ τ κ Es n m nf ne ω w s lim) (b : Bas M0 R0 N NT G Mc' Mr' φ' τ' κ' Es' n' m' nf' ne') (g : Grw A B φ τ κ Es n m nf ne Mc' Mr' φ' τ' κ' Es' n' m' nf' ne') (h47 : ∀ j, j ≠ 10 → j ≠ 11 → j ≠ 12 → j ≠ 13 → Mc' 47 j = A 47 j) (h51 : ∀ j, j < 5 * w → Mc' 51 j = A 51 j) (h53 : ∀ j, (j = 58 ∨ j = 59 ∨ j = 60) → Mr' 53 j = B 53 j) (h71 : Mr' 53 71 = ((w + 1 : Nat) : Int)) (h103 : ∀ a k, 103 ≤ a → a ≤ 108 → k < w → Mr' a k = B a k) (pl : PL M0 N G Mc' κ' Es' n' nf' ne' u p f η ν) (rgs : Rgs G Mc' Mr' φ' Es' ω w u p f η ν) : SE M0 R0 N NT G Mc' Mr' φ' τ' κ' Es' n' m' nf' ne' ω w s lim := by
  obtain ⟨m1, m2, m3, m4, m5, m6⟩ := sc.2.1
  exact ⟨Sj_to sc b g ⟨by rw [h47 7 (by decide) (by decide) (by decide) (by decide)]; exact m1, by rw [h53 58 (by omega)]; exact m2, by rw [h47 8 (by decide) (by decide) (by decide) (by decide)]; exact m3, by rw [h53 59 (by omega)]; exact m4, by rw [h47 9 (by decide) (by decide) (by decide) (by decide)]; exact m5, by rw [h53 60 (by omega)]; exact m6⟩ (by rw [h47 6 (by decide) (by decide) (by decide) (by decide)]; exact sc.2.2.1) h51 h103, h71, u, p, f, η, ν, pl, rgs⟩
theorem ev_use {u p f η : Nat} {ν : Int} (hrl : Rl M0 R0 N NT) (hNT : NT ≤ 190000) (hU : ∀ u, uIn M0 N u → UG M0 R0 u (G u)) (sc : Sj M0 R0 N NT G Mc Mr φ τ κ Es n m nf ne ω w s lim) (h71 : Mr 53 71 = ((w + 1 : Nat) : Int)) (pl : PL M0 N G Mc κ Es n nf ne u p f η ν) (rgs : Rgs G Mc Mr φ Es ω w u p f η ν) (hs : s < lim) (hl : lim ≤ 300) (hnf : nf < 302) (hne : ne < 400) (hw : w < 1900) (hk : M0 13 ((G u).2.1 p) = 5) : ∃ (Mc' Mr' : Mm) (Es' : Nat → Int → Ty) (ne' : Nat), f158 Mc = some (0, Mc') ∧ f244 Mr = some (0, Mr') ∧ SE M0 R0 N NT G Mc' Mr' φ τ κ Es' n m (nf + 1) ne' ω w (s + 1) lim ∧ Mc' 51 = Mc 51 ∧ Mc' 49 = Mc 49 ∧ ne' ≤ ne + 1 ∧ Mc' 47 12 = -1 := by
  obtain ⟨hst, hct, hsp, htt, hdf, hmt, hvr⟩ := hrl
  obtain ⟨r1, r2, r3, r4, q1, q2, q3, q4, q5, q6, hω⟩ := rgs
  have ug := hU u pl.1
  have upl := ug.2.2.2.2.2.2 p pl.2.1
  have sta := sc.1.1
  obtain ⟨t1, t2, t3, t4, t5, t6⟩ := sc.2.1
  obtain ⟨b1, b2, b3, b4⟩ := sc.1.2.1
  obtain ⟨tC, tR, tV, eC, eR, clT, dfT⟩ := hst
  have pN := ug.1
  have pp := pl.2.1
  have u74 : u < 74 := by
    rcases pl.1 with z | z <;> omega
  generalize he : (G u).2.1 p = e at *
  have e12 := upl.1
  rw [he] at e12
  have e200 : e < 200 := by have := eC.1.2; omega
  obtain ⟨v1, v2, v3, v4⟩ := eR.2 e e12
  have x13 : Mc 13 e = M0 13 e := by rw [sta.1 13 (by omega)]
  have x14 : Mc 14 e = M0 14 e := by rw [sta.1 14 (by omega)]
  have hc := f158_hd (M := Mc) r1 e200 t1 t3 hs hl
  have h246 := f246_y (M := up Mr 53 71 (w : Int)) (s := s) (lim := lim) (by rw [up_at (by decide)]; exact t2) (by rw [up_at (by decide)]; exact t4) hs hl
  have hr := f244_ev h71 (by omega) q1
  rw [q2, q3, q4, q5, q6] at hr
  rw [x13, x14] at hc
  unfold f158b at hc
  obtain ⟨-, -, -, -, -, -, -, u5, -⟩ := upl
  rw [he] at u5
  obtain ⟨d1, d2, d3⟩ := u5 hk
  obtain ⟨k1, k2, k3, k4⟩ := (eC.2 e e12).2.2.2.2.2.2.1 hk
  obtain ⟨c, hc14⟩ : ∃ k : Nat, M0 14 e = (k : Int) := ⟨(M0 14 e).toNat, by omega⟩
  obtain ⟨mm, hm15⟩ : ∃ k : Nat, M0 15 e = (k : Int) := ⟨(M0 15 e).toNat, by omega⟩
  rw [hc14, Int.toNat_natCast] at d1 d2 k4
  rw [hm15, Int.toNat_natCast] at d1
  have hN5 := hct.1.1
  have hN6 := hct.1.2.2
  have cN : c < N := by omega
  obtain ⟨cl1, cl2⟩ := clT.2 c (by omega)
  have m7 : (mm : Int) < M0 7 c := by omega
  obtain ⟨cl3, cl4, cl5⟩ := cl2 mm m7
  have mm3 : mm < 3 := by omega
  obtain ⟨dt8, hdt8⟩ : ∃ k : Nat, M0 8 (3 * c + mm) = (k : Int) := ⟨(M0 8 (3 * c + mm)).toNat, by omega⟩
  rw [hdt8, Int.toNat_natCast] at d1 cl5
  have dv : vlt ((1 : Nat) : Int) (dt M0 dt8) := dt_vlt tC tV (by omega) (by rw [cl5]; rfl)
  obtain ⟨sc1, g1⟩ := Sj_step (x := (w : Int)) sc
  generalize hMc1 : up (up Mc 47 9 0) 47 7 ((s : Int) + 1) = A at *
  generalize hMr1 : up (up Mr 53 71 (w : Int)) 53 58 ((s : Int) + 1) = B at *
  have pl1 := PL_grow g1 (Nat.le_refl _) (Nat.le_refl _) pl
  have sta1 := sc1.1.1
  obtain ⟨c1, c2, c3, c4'⟩ := sc1.1.2.1
  have A10 : A 47 10 = (e : Int) := by rw [← hMc1, up_at (by decide), up_at (by decide)]; exact r1
  have A11 : A 47 11 = ((60 * u + p : Nat) : Int) := by rw [← hMc1, up_at (by decide), up_at (by decide)]; exact r2
  have A13 : A 47 13 = (f : Int) := by rw [← hMc1, up_at (by decide), up_at (by decide)]; exact r4
  have A51 : A 51 = Mc 51 := by rw [← hMc1, up_cell (by decide), up_cell (by decide)]
  have A49 : A 49 = Mc 49 := by rw [← hMc1, up_cell (by decide), up_cell (by decide)]
  have B71 : B 53 71 = (w : Int) := by rw [← hMr1, up_at (by decide), up_same]
  have fnf := pl.2.2.1
  have hηe := pl.2.2.2.1
  have fbf := fun v (hv : v < 8) => sc1.1.2.2.2.1 f v fnf hv
  have cfT := cf_sub (CT_CW hct) hsp (fun v hv => (fbf v hv).1) pl1.2.2.2.2.1 _ c d3.2.1 d2
  obtain ⟨i1, i2, t, i3, i4, i5⟩ := d3
  have h53 := htt.1
  have tNT : t < NT := by omega
  have trB : ∀ t, trm B t = trm R0 t := trm_fr (sta1.2.2.1 73 (by omega)) (sta1.2.2.1 74 (by omega)) (sta1.2.2.1 75 (by omega))
  have hwB : WTm B NT := by
    unfold WTm
    rw [sta1.2.2.1 73 (by omega), sta1.2.2.1 74 (by omega), sta1.2.2.1 75 (by omega)]
    exact htt.2.1
  obtain ⟨M2, t', η', o1, o2, o3, o4, o5, o6, o7, o8, o9⟩ := res_ok (Mr := B) (NT := NT) (ne := ne) (t := t) (η := η) (Es := Es) hwB (by omega) (by omega) sc1.1.2.2.1 hηe tNT (by rw [trB, i5]; exact cf_pln cfT)
  rw [trB t, i5] at o8
  -- what the class reads
  have plcb : 0 ≤ plc ((G u).2.2.2.2.2 p 0) ∧ plc ((G u).2.2.2.2.2 p 0) ≤ 3100000 ∧ plc ((G u).2.2.2.2.2 p 0) % 16 < 12 := by
    have j1 := plc_dec _ i2
    have j2 := plc_trm (M := R0) (t := t) (by rw [i5]; exact i2)
    rw [i5] at j2
    omega
  have e23 : A 23 = M0 23 := sta1.1 23 (by omega)
  obtain ⟨a1, a2, a3⟩ := act_run (M := A) (i := 8 * (60 * u + p) + 0) (f := f) (x1 := ((60 * u + p : Nat) : Int)) (x2 := 0) (B := 800000 * ((f : Int) + 1)) (by omega) (by omega) (by rw [e23, i1]; omega) (by rw [e23, i1]; omega) (by rw [e23, i1]; omega) (by omega) (by omega) (fun v hv => fbf v hv) (by omega)
  rw [e23, i1] at a1 a2 a3
  generalize hz : av A (plc ((G u).2.2.2.2.2 p 0)) f = z at *
  have zb : z ≤ 800000 * ((nf : Int) + 1) := by omega
  have hact : f169_50 A (A 47 11) 0 (A 47 13) = some z := by rw [A11, A13]; exact a1
  have e72 : f72 A (A 47 10) = some (mm : Int) := by
    unfold f72
    rw [A10, if_pos (by omega), Int.toNat_natCast, sta1.1 15 (by omega), hm15]
  rw [if_neg (by omega), if_neg (by omega), if_neg (by omega), if_neg (by omega), if_neg (by omega), if_pos hk, hc14, e72, bs_] at hc
  have m73 : M2 73 = B 73 := o2 73 (by decide)
  have m74 : M2 74 = B 74 := o2 74 (by decide)
  have h63 : B 63 e = 5 := by rw [sta1.2.2.1 63 (by omega), v1]; exact hk
  have h64 : M2 64 e = (c : Int) := by rw [o2 64 (by decide), sta1.2.2.1 64 (by omega), v2]; exact hc14
  have h65 : M2 65 e = (mm : Int) := by rw [o2 65 (by decide), sta1.2.2.1 65 (by omega), v3 (Or.inr hk)]; exact hm15
  have b72 : B 72 (8 * (60 * u + p)) = (t : Int) := by rw [sta1.2.2.1 72 (by omega)]; exact i3
  rw [f245_5 h246 e200 (by omega) u74 h63 b72 o1 o4 (by omega), m73] at hr
  have M68 : M2 53 68 = (ne : Int) := by rw [o3 68 (by decide) (by decide)]; exact c4'
  have M71 : M2 53 71 = (w : Int) := by rw [o3 71 (by decide) (by decide)]; exact B71
  have key : (∃ sh : Nat, sh < 2 ∧ sub (Es η) ((G u).2.2.2.2.2 p 0) = shT sh ∧ B 73 t' = (sh : Int) ∧ z = (sh : Int) ∧ M0 9 (3 * c + sh) = 1) ∨ (B 73 t' = 3 ∧ ∃ a : Nat, B 74 t' = (a : Int) ∧ a < t' ∧ sub (Es η) ((G u).2.2.2.2.2 p 0) = tL (sub (Es η') (trm B a)) ∧ 4 ≤ z ∧ M0 9 (3 * c + 2) = 1 ∧ (M0 10 (3 * c + 2) = -1 ∨ cf M0 (sub (Es η') (trm B a)) (M0 10 (3 * c + 2)).toNat (z - 4))) := by
    rcases o9 with ⟨h1, h2⟩ | ⟨h1, h2⟩ | ⟨h1, a, h2, h3, h4⟩
    · rw [h2] at o8
      have o8 : tI = sub (Es η) ((G u).2.2.2.2.2 p 0) := o8
      rw [← o8] at cfT
      have cfT : M0 9 (3 * c) = 1 ∧ z = 0 := cfT
      exact Or.inl ⟨0, by omega, o8.symm, h1, cfT.2, cfT.1⟩
    · rw [h2] at o8
      have o8 : tB = sub (Es η) ((G u).2.2.2.2.2 p 0) := o8
      rw [← o8] at cfT
      have cfT : M0 9 (3 * c + 1) = 1 ∧ z = 1 := cfT
      exact Or.inl ⟨1, by omega, o8.symm, h1, cfT.2, cfT.1⟩
    · rw [h4] at o8
      have o8 : tL (sub (Es η') (trm B a)) = sub (Es η) ((G u).2.2.2.2.2 p 0) := o8
      rw [← o8] at cfT
      have cfT : M0 9 (3 * c + 2) = 1 ∧ 4 ≤ z ∧ (M0 10 (3 * c + 2) = -1 ∨ cf M0 (sub (Es η') (trm B a)) (M0 10 (3 * c + 2)).toNat (z - 4)) := cfT
      exact Or.inr ⟨h1, a, h2, h3, o8.symm, cfT.2.1, cfT.1, cfT.2.2⟩
  -- the new unit
  have unit : ∀ sh : Nat, sh < 3 → M0 9 (3 * c + sh) = 1 → uIn M0 N (20 + (9 * c + 3 * sh + mm)) ∧ M0 11 (9 * c + 3 * sh + mm) = ((G (20 + (9 * c + 3 * sh + mm))).2.1 0 : Int) ∧ R0 62 (9 * c + 3 * sh + mm) = ((G (20 + (9 * c + 3 * sh + mm))).2.1 0 : Int) ∧ (G (20 + (9 * c + 3 * sh + mm))).2.2.2.1 0 = sub (fun _ => shT sh) (dt M0 dt8) ∧ uA M0 (20 + (9 * c + 3 * sh + mm)) = Mth (M0 10 (3 * c + sh)) := fun sh h1 h2 => by
    have w1 : (20 + (9 * c + 3 * sh + mm) - 20) / 9 = c := by omega
    have w2 : (20 + (9 * c + 3 * sh + mm) - 20) / 3 = 3 * c + sh := by omega
    have w3 : (20 + (9 * c + 3 * sh + mm) - 20) % 3 = mm := by omega
    have w4 : (3 * c + sh) % 3 = sh := by omega
    have w5 : 20 + (9 * c + 3 * sh + mm) - 20 = 9 * c + 3 * sh + mm := by omega
    have ui : uIn M0 N (20 + (9 * c + 3 * sh + mm)) := Or.inr ⟨by omega, by omega, by rw [w1]; exact cN, by rw [w2]; exact h2, by rw [w1, w3]; exact m7⟩
    have ugg := hU _ ui
    obtain ⟨y1, y2, y3, _⟩ := hmt c sh mm cN h1 h2 m7
    have uEg : ((G (20 + (9 * c + 3 * sh + mm))).2.1 0 : Int) = M0 11 (9 * c + 3 * sh + mm) := by
      rw [ugg.2.2.2.1]
      unfold uE
      rw [if_neg (by omega), w5, y3, Int.toNat_natCast]
    refine ⟨ui, uEg.symm, by rw [y1, uEg], ?_, ?_⟩
    · rw [ugg.2.2.2.2.2.1]
      unfold uT
      rw [if_neg (by omega), w1, w2, w3, w4, hdt8, Int.toNat_natCast]
    · unfold uA
      rw [if_neg (by omega), w2]
  have plac : ∀ sh : Nat, sh < 3 → M0 9 (3 * c + sh) = 1 → 0 < (G (20 + (9 * c + 3 * sh + mm))).1 ∧ (G (20 + (9 * c + 3 * sh + mm))).2.2.1 0 = -1 := fun sh h1 h2 => by
    have ugg := hU _ (unit sh h1 h2).1
    exact ⟨ugg.1.1, ugg.2.2.2.2.1⟩
  rcases key with ⟨sh, s1, s2, s3, s4, s5⟩ | ⟨s1, a, s2, s3, s4, s5, s6, s7⟩
  · -- INT, BOOL
    obtain ⟨ne1, rfl⟩ : ∃ k, ne = k + 1 := ⟨ne - 1, by omega⟩
    obtain ⟨u1, u2, u3, u4, u5'⟩ := unit sh (by omega) s5
    obtain ⟨pc1, pc2⟩ := plac sh (by omega) s5
    obtain ⟨C1, y1, y2, y3, y4, y5, y6⟩ := f167_ok (M := A) (nf := nf) (c := c) (mm := mm) (sh := sh) (z := z) hact (by omega) (by omega) (by omega) mm3 (by rw [sta1.1 9 (by omega)]; exact s5) c2 hnf
    rw [y1, bs_] at hc
    rw [s3, if_neg (by omega), show FU = (FU - 1) + 1 from rfl, l245, if_pos (by omega), show FU - 1 = (FU - 2) + 1 from rfl, l245_341 e200 h64 h65 (by omega) (by omega) mm3 M68 (by omega) M71 (by omega), bs_] at hr
    dsimp only at hc hr
    rw [if_pos (show z < 4 by omega), sta1.1 11 (by omega)] at hc
    rw [o2 62 (by decide), sta1.2.2.1 62 (by omega)] at hr
    have C50 : ∀ v, v < 8 → up C1 50 (8 * nf) 2 50 (8 * nf + v) = 2 := fun v hv => by
      by_cases v0 : v = 0
      · subst v0; exact up_same _ _ _ _
      · rw [up_at (by omega)]; exact y6 v hv
    obtain ⟨b', gB⟩ := Bas_frm (Mc' := up (up (up (up (up C1 50 (8 * nf) 2) 47 10 (M0 11 (9 * c + 3 * sh + mm))) 47 11 ((60 * (20 + (9 * c + 3 * sh + mm)) : Nat) : Int)) 47 12 (-1)) 47 13 (nf : Int)) (Mr' := ptk M2 w 0 ((20 + (9 * c + 3 * sh + mm) : Nat) : Int) (R0 62 (9 * c + 3 * sh + mm)) 0 (-1) (ne1 : Int)) sc1.1
      (fun a h1 h2 h3 _ => by rw [up_cell h1, up_cell h1, up_cell h1, up_cell h1, up_cell h3, y2 a h2 h3])
      (by rw [up_at (by decide), up_at (by decide), up_at (by decide), up_at (by decide), up_cell (by decide), y2 47 (by decide) (by decide)])
      (by rw [up_cell (by decide), up_cell (by decide), up_cell (by decide), up_cell (by decide), up_cell (by decide), y3 2 (by decide)])
      (by rw [up_cell (by decide), up_cell (by decide), up_cell (by decide), up_cell (by decide), up_cell (by decide), y4])
      (fun j hj => by rw [up_cell (by decide), up_cell (by decide), up_cell (by decide), up_cell (by decide), up_at (by omega), y5 j (Or.inl hj)])
      (fun v hv => by rw [up_cell (by decide), up_cell (by decide), up_cell (by decide), up_cell (by decide), C50 v hv]; omega)
      (fun a h1 h2 => by rw [ptk_cell h1 h2, o2 a h1])
      (fun j hj => by rw [ptk_53 (by omega), o3 j (by omega) (by omega)])
    refine ⟨_, _, Es, ne1 + 1, hc, hr, SE_mk (u := 20 + (9 * c + 3 * sh + mm)) (p := 0) (f := nf) (η := ne1) (ν := -1) sc1 b' gB (fun j h1 h2 h3 h4 => by rw [up_at h4, up_at h3, up_at h2, up_at h1, up_cell (by decide), y2 47 (by decide) (by decide)]) (fun j hj => by rw [up_cell (by decide), up_cell (by decide), up_cell (by decide), up_cell (by decide), up_cell (by decide), y2 51 (by decide) (by decide)]) (fun j hj => by rw [ptk_53 (by omega), o3 j (by omega) (by omega)]) ptk_71 (fun a k h1 h2 h3 => by rw [ptk_old (by omega) (by omega), o2 a (by omega)]) ⟨u1, pc1, by omega, by omega, fun c' v q => ?_, Or.inl ⟨pc2, rfl⟩⟩ ⟨by rw [up_at (by decide), up_at (by decide), up_at (by decide), up_same, u2], by rw [up_at (by decide), up_at (by decide), up_same]; omega, by rw [up_at (by decide), up_same], by rw [up_same], ptk_row.1, ptk_row.2.1, by rw [ptk_row.2.2.1, u3], ptk_row.2.2.2.1, ptk_row.2.2.2.2.1, ptk_row.2.2.2.2.2, ?_⟩, by rw [up_cell (by decide), up_cell (by decide), up_cell (by decide), up_cell (by decide), up_cell (by decide), y2 51 (by decide) (by decide), A51], by rw [up_cell (by decide), up_cell (by decide), up_cell (by decide), up_cell (by decide), up_cell (by decide), y2 49 (by decide) (by decide), A49], by omega, by rw [up_at (by decide), up_same]⟩
    · rw [u5'] at q
      obtain ⟨_, q⟩ := q
      have := (hct.2.2 (3 * c + sh) (by omega)).2
      omega
    · rw [u4, hω, d1, sub_sub, sub_sub]
      refine sub_vlt (m := ((1 : Nat) : Int)) (fun v h1 h2 => ?_) _ dv
      have v0 : v.toNat = 0 := by omega
      rw [v0, s2]
      have sh2 : sh = 0 ∨ sh = 1 := by omega
      rcases sh2 with e | e
      · subst e; rfl
      · subst e; rfl
  · -- LIST
    obtain ⟨u1, u2, u3, u4, u5'⟩ := unit 2 (by omega) s6
    obtain ⟨pc1, pc2⟩ := plac 2 (by omega) s6
    obtain ⟨C1, y1, y2, y3, y4, y5, y6⟩ := f167_ok (M := A) (nf := nf) (c := c) (mm := mm) (sh := 2) (z := z) hact (by omega) (by omega) (by omega) mm3 (by rw [sta1.1 9 (by omega)]; exact s6) c2 hnf
    rw [y1, bs_] at hc
    have e79 : (M2 53 79).toNat = t' := by rw [o4, Int.toNat_natCast]
    have f249 := f249_eq (M := M2) (x1 := (a : Int)) (x2 := (η' : Int)) M68 hne
    have q341 := l245_341 (M := up (up (up M2 101 (8 * ne) (a : Int)) 102 (8 * ne) (η' : Int)) 53 68 ((ne : Int) + 1)) (e := e) (c := c) (sh := 2) (mm := mm) (ne := ne) (w := w) (f := FU - 2) (x1 := (u : Int)) (x3 := (p : Int)) (x4 := pe φ ν) (x5 := (η : Int)) (x6 := ((8 * (60 * u + p) : Nat) : Int)) e200 (by rw [up_cell (by decide), up_cell (by decide), up_cell (by decide)]; exact h64) (by rw [up_cell (by decide), up_cell (by decide), up_cell (by decide)]; exact h65) (by omega) (by omega) mm3 (by rw [up_same]; omega) (by omega) (by rw [up_at (by decide), up_cell (by decide), up_cell (by decide)]; exact M71) (by omega)
    have q341 : l245 (FU - 1) 341 (up (up (up M2 101 (8 * ne) (a : Int)) 102 (8 * ne) (η' : Int)) 53 68 ((ne : Int) + 1)) (u : Int) (e : Int) (p : Int) (pe φ ν) (η : Int) ((8 * (60 * u + p) : Nat) : Int) 2 0 = _ := q341
    rw [s1, if_pos rfl, show FU = (FU - 1) + 1 from rfl, l245, if_neg (fun q => q rfl), if_pos (by rw [o4]; omega), e79, m74, s2, o5, f249, bs_] at hr
    dsimp only at hc hr
    rw [q341, bs_] at hr
    dsimp only at hr
    rw [if_neg (show ¬ z < 4 by omega), sta1.1 11 (by omega)] at hc
    rw [up_cell (show 62 ≠ 53 by decide), up_cell (show 62 ≠ 102 by decide), up_cell (show 62 ≠ 101 by decide), o2 62 (by decide), sta1.2.2.1 62 (by omega)] at hr
    have C50 : up C1 50 (8 * nf) (z - 4) 50 (8 * nf) = z - 4 := up_same _ _ _ _
    have C50' : ∀ v, v < 8 → v ≠ 0 → up C1 50 (8 * nf) (z - 4) 50 (8 * nf + v) = 2 := fun v hv v0 => by
      rw [up_at (by omega)]; exact y6 v hv
    obtain ⟨b', gB⟩ := Bas_env (Mc' := up (up (up (up (up C1 50 (8 * nf) (z - 4)) 47 10 (M0 11 (9 * c + 3 * 2 + mm))) 47 11 ((60 * (20 + (9 * c + 3 * 2 + mm)) : Nat) : Int)) 47 12 (-1)) 47 13 (nf : Int)) (Mr' := ptk (up (up (up M2 101 (8 * ne) (a : Int)) 102 (8 * ne) (η' : Int)) 53 68 ((ne : Int) + 1)) w 0 ((20 + (9 * c + 3 * 2 + mm) : Nat) : Int) (R0 62 (9 * c + 3 * 2 + mm)) 0 (-1) (ne : Int)) (σ := fun v : Int => if v = 0 then sub (Es η') (trm B a) else tF tI tI) sc1.1
      (fun a h1 h2 h3 _ => by rw [up_cell h1, up_cell h1, up_cell h1, up_cell h1, up_cell h3, y2 a h2 h3])
      (by rw [up_at (by decide), up_at (by decide), up_at (by decide), up_at (by decide), up_cell (by decide), y2 47 (by decide) (by decide)])
      (by rw [up_cell (by decide), up_cell (by decide), up_cell (by decide), up_cell (by decide), up_cell (by decide), y3 2 (by decide)])
      (by rw [up_cell (by decide), up_cell (by decide), up_cell (by decide), up_cell (by decide), up_cell (by decide), y4])
      (fun j hj => by rw [up_cell (by decide), up_cell (by decide), up_cell (by decide), up_cell (by decide), up_at (by omega), y5 j (Or.inl hj)])
      (fun v hv => by
        rw [up_cell (by decide), up_cell (by decide), up_cell (by decide), up_cell (by decide)]
        by_cases v0 : v = 0
        · subst v0; rw [Nat.add_zero, C50]; omega
        · rw [C50' v hv v0]; omega)
      (fun a h1 h2 h3 h4 => by rw [ptk_cell h1 h4, up_cell h1, up_cell h3, up_cell h2, o2 a h1])
      (fun j hj => by rw [ptk_53 (by omega), up_at (by omega), up_cell (by decide), up_cell (by decide), o3 j (by omega) (by omega)])
      (by rw [ptk_53 (by decide), up_same]; omega)
      (fun j hj => ⟨by rw [ptk_cell (by decide) (by omega), up_cell (by decide), up_cell (by decide), up_at (by omega), o2 101 (by decide)], by rw [ptk_cell (by decide) (by omega), up_cell (by decide), up_at (by omega), up_cell (by decide), o2 102 (by decide)]⟩)
      (fun v => by
        by_cases v0 : v = 0
        · subst v0
          refine Or.inr ⟨0, a, η', rfl, by omega, ?_, ?_, by omega, by omega, if_pos rfl⟩
          · rw [ptk_cell (by decide) (by omega), up_cell (by decide), up_cell (by decide), Nat.add_zero, up_same]
          · rw [ptk_cell (by decide) (by omega), up_cell (by decide), Nat.add_zero, up_same]
        · exact Or.inl (if_neg v0))
    refine ⟨_, _, _, ne + 1, hc, hr, SE_mk (u := 20 + (9 * c + 3 * 2 + mm)) (p := 0) (f := nf) (η := ne) (ν := -1) sc1 b' gB (fun j h1 h2 h3 h4 => by rw [up_at h4, up_at h3, up_at h2, up_at h1, up_cell (by decide), y2 47 (by decide) (by decide)]) (fun j hj => by rw [up_cell (by decide), up_cell (by decide), up_cell (by decide), up_cell (by decide), up_cell (by decide), y2 51 (by decide) (by decide)]) (fun j hj => by rw [ptk_53 (by omega), up_at (by omega), up_cell (by decide), up_cell (by decide), o3 j (by omega) (by omega)]) ptk_71 (fun a k h1 h2 h3 => by rw [ptk_old (by omega) (by omega), up_cell (by omega), up_cell (by omega), up_cell (by omega), o2 a (by omega)]) ⟨u1, pc1, by omega, by omega, fun c' v q => ?_, Or.inl ⟨pc2, rfl⟩⟩ ⟨by rw [up_at (by decide), up_at (by decide), up_at (by decide), up_same, u2], by rw [up_at (by decide), up_at (by decide), up_same]; omega, by rw [up_at (by decide), up_same], by rw [up_same], ptk_row.1, ptk_row.2.1, by rw [ptk_row.2.2.1, u3], ptk_row.2.2.2.1, ptk_row.2.2.2.2.1, ptk_row.2.2.2.2.2, ?_⟩, by rw [up_cell (by decide), up_cell (by decide), up_cell (by decide), up_cell (by decide), up_cell (by decide), y2 51 (by decide) (by decide), A51], by rw [up_cell (by decide), up_cell (by decide), up_cell (by decide), up_cell (by decide), up_cell (by decide), y2 49 (by decide) (by decide), A49], by omega, by rw [up_at (by decide), up_same]⟩
    · rw [u5'] at q
      obtain ⟨v0, q⟩ := q
      have ct2 := (hct.2.2 (3 * c + 2) (by omega)).2
      refine ⟨by omega, 0, by omega, v0, ?_⟩
      rw [fu_eq, if_pos v0, up_cell (by decide), up_cell (by decide), up_cell (by decide), up_cell (by decide), Nat.add_zero, C50]
      rw [q, Int.toNat_natCast] at s7
      exact s7.resolve_left (by omega)
    · rw [u4, hω, d1, sub_sub, sub_sub, fu_eq]
      refine sub_vlt (m := ((1 : Nat) : Int)) (fun v h1 h2 => ?_) _ dv
      have v0 : v.toNat = 0 := by omega
      rw [v0, s4]
      rfl
end USE
