/-! A method of an instance, looked at: whole. -/
theorem f214_raw {M : Mm} {k a b : Int} (h : 0 ≤ M 53 28 ∧ M 53 28 ≤ 3000) : ∃ M', f214 M k a b = some (M 53 28, M') ∧ (∀ x, x ≠ 53 → ¬ (76 ≤ x ∧ x ≤ 79) → M' x = M x) ∧ (∀ j, j ≠ 28 → M' 53 j = M 53 j) ∧ M' 53 28 = M 53 28 + 1 := by
  refine ⟨up (up (up (up (up M 76 (Int.toNat (M 53 28)) k) 77 (Int.toNat (M 53 28)) a) 78 (Int.toNat (M 53 28)) b) 79 (Int.toNat (M 53 28)) (M 53 28)) 53 28 ((M 53 28) + 1), ?_, fun x h1 h2 => ?_, fun j hj => ?_, ?_⟩
  · unfold f214
    rw [if_pos (by omega), if_pos (by omega), if_pos (by omega), show M 53 28 + 1 - 1 = M 53 28 by omega]
  · rw [up_cell h1, up_cell (by omega), up_cell (by omega), up_cell (by omega), up_cell (by omega)]
  · rw [up_at hj, up_cell (by decide), up_cell (by decide), up_cell (by decide), up_cell (by decide)]
  · rw [up_same]
/-- a reference's shape node, even if nothing was typed -/
theorem shape_raw {M : Mm} {s : Int} (h : Nf M) : ∃ (v : Int) (M' : Mm), (if ¬ s = 2 then f214 M s 0 0 else (f214 M 5 0 0).bind (fun z => f214 z.2 3 z.1 0)) = some (v, M') ∧ (∀ x, x ≠ 53 → ¬ (76 ≤ x ∧ x ≤ 79) → M' x = M x) ∧ ∀ j, j ≠ 28 → M' 53 j = M 53 j := by
  unfold Nf at h
  by_cases e : s = 2
  · rw [if_neg (fun z => z e)]
    obtain ⟨M1, a1, a2, a3, a4⟩ := f214_raw (k := 5) (a := 0) (b := 0) (M := M) (by omega)
    obtain ⟨M2, b1, b2, b3, b4⟩ := f214_raw (k := 3) (a := M 53 28) (b := 0) (M := M1) (by omega)
    refine ⟨_, M2, by rw [a1, bs_]; exact b1, fun x h1 h2 => by rw [b2 x h1 h2, a2 x h1 h2], fun j hj => by rw [b3 j hj, a3 j hj]⟩
  · rw [if_pos e]
    obtain ⟨M1, a1, a2, a3, a4⟩ := f214_raw (k := s) (a := 0) (b := 0) (M := M) (by omega)
    exact ⟨_, M1, a1, a2, a3⟩
theorem f239_eq (M : Mm) (c s m e : Int) : f239 M c s m e = (f211 M e).bind (fun z => (if ¬ s = 2 then f214 z.2 s 0 0 else (f214 z.2 5 0 0).bind (fun y => f214 y.2 3 y.1 0)).bind (fun x => l239 FU 41 x.2 c s m e z.1 x.1 2)) := by
  unfold f239
  congr 1
  funext z
  by_cases e : s = 2
  · rw [if_neg (fun y => y e), if_neg (fun y => y e), Option.bind_assoc]
  · rw [if_pos e, if_pos e]
set_option maxRecDepth 4000 in
theorem meth_ok {Mc Mr : Mm} {N NT c s m e : Nat} (st : Stat Mc Mr) (ct : CT Mc Mr N) (tN : Mr 53 24 = (NT : Int)) (tw : WTm Mr NT) (tl : NT + 2560 ≤ 200000) (hc : c < N) (hs : s < 3) (hm : (m : Int) < Mc 7 c) (he : (e : Int) < Mc 12 4) (hb : Mc 11 (9 * c + 3 * s + m) = (e : Int)) (hctx : Mr 53 53 = Mc 10 (3 * c + s)) :
    ∃ (w : Int) (Mc' Mr' : Mm), f63 Mc (c : Int) (s : Int) (m : Int) = some (w, Mc') ∧ f239 Mr (c : Int) (s : Int) (m : Int) (e : Int) = some (w, Mr') ∧ MFc Mc Mc' (20 + (9 * c + 3 * s + m)) ∧ MFr Mr Mr' (20 + (9 * c + 3 * s + m)) ∧
      ((w ≠ 0 ∧ Mr' 53 24 = Mr 53 24) ∨ (w = 0 ∧ ∃ NT' : Nat, Mr' 53 24 = (NT' : Int) ∧ WTm Mr' NT' ∧ NT' ≤ NT + 2560 ∧ UOK Mc' Mr' (20 + (9 * c + 3 * s + m)) e (Mth (Mc 10 (3 * c + s))) (sub (fun _ => shT s) (dt Mc (Mc 8 (3 * c + m)).toNat)))) := by
  have n6 := ct.1.2.2
  have h5 := ct.1.1
  obtain ⟨tC, tR, tV, eC, eR, clT, dfT⟩ := id st
  have c7 := (clT.2 c (by omega)).1
  obtain ⟨c8, c8t, c84⟩ := (clT.2 c (by omega)).2 m hm
  obtain ⟨t, ht⟩ : ∃ t : Nat, Mc 8 (3 * c + m) = (t : Int) := ⟨(Mc 8 (3 * c + m)).toNat, by omega⟩
  rw [ht, Int.toNat_natCast] at c84
  have t13 : (t : Int) < Mc 1 3 := by omega
  have e64 : f64 Mc (c : Int) (s : Int) (m : Int) = some (e : Int) := by
    unfold f64
    rw [if_pos (by omega), show ((((c : Int) * 3) + (s : Int)) * 3) + (m : Int) = ((9 * c + 3 * s + m : Nat) : Int) by omega, Int.toNat_natCast, hb]
  obtain ⟨b, C1, R1, e1, e2, e3, e4, e5⟩ := types_ok st he
  have wc1 : WkC Mc C1 := fun a ha => e3.1 a (by omega)
  have wr1 : WkS Mr R1 := ⟨fun a ha => e4.1 a (by omega) (by omega), fun k hk => e4.2 k (by omega) (by omega) (by omega)⟩
  rw [f239_eq]
  unfold f63
  rw [e64, bs_, e1, bs_, e2, bs_]
  dsimp only
  rcases e5 with ⟨e5, nf⟩ | ⟨e5, S, n, n', cs, np, ow, ps, h34, h16⟩
  · obtain ⟨v, R2, s1, s2, s3⟩ := shape_raw (s := (s : Int)) nf
    obtain ⟨R3, l1, l2, l3, l4⟩ := l239_41 (c := (c : Int)) (s := (s : Int)) (m := (m : Int)) (e := (e : Int)) (a := v) (b := b) 8 2 FU R2 (by omega) (by unfold FU; omega) (by omega)
    have l1 : l239 FU 41 R2 (c : Int) (s : Int) (m : Int) (e : Int) b v 2 = _ := l1
    have wr3 : WkS R1 R3 := ⟨fun a ha => by rw [l2 a (by omega), s2 a (by omega) (by omega)], fun j hj => by rw [l2 53 (by decide), s3 j (by omega)]⟩
    refine ⟨-1, C1, R3, by rw [if_neg (fun z => z e5)], ?_, WkC_M _ wc1, WkS_M _ (WkS_trans wr1 wr3), Or.inl ⟨by decide, (WkS_trans wr1 wr3).2 24 (by omega)⟩⟩
    rw [s1, bs_]
    dsimp only
    rw [l1, show FU - 8 = (FU - 9) + 1 by unfold FU; omega, l239, if_pos (by decide), if_pos e5]
  · have ps0 := ps
    have nb : n ≤ 62 + 39 * np := ps.2.2.2.2.2.2.2.1
    have nb' := (PS_28 ps).1
    have np60 := (PS_28 ps).2
    have k5 : ∀ x, x < n → C1 26 x ≠ 5 := ps.2.2.2.2.2.2.2.2.2
    have pt1 : PT C1 R1 S cs np := PT_of ps
    obtain ⟨g1w, csn⟩ := Tw_G ps.1
    obtain ⟨q36, u, q85, qS⟩ := pt1.2.2.1 0 (by have := pt1.2.1.1; omega)
    have q36 : C1 36 0 = 2 := q36
    have qS : S 2 u := qS
    obtain ⟨y, v, C2, R2, S2, m2, m2', a1, a2, a3, a4, a5, a6, a7, a8, a9⟩ := shape_ok (s := s) ps.1 (by omega) (by omega) hs
    obtain ⟨R3, l1, l2, l3, l4⟩ := l239_41 (c := (c : Int)) (s := (s : Int)) (m := (m : Int)) (e := (e : Int)) (a := (v : Int)) (b := b) 8 2 FU R2 (by omega) (by unfold FU; omega) (by omega)
    have l1 : l239 FU 41 R2 (c : Int) (s : Int) (m : Int) (e : Int) b (v : Int) 2 = _ := l1
    let C2' := up C2 38 480 (y : Int)
    have c2c : ∀ a, a ≠ 38 → C2' a = C2 a := fun a ha => up_cell ha
    have c238 : ∀ i, C2' 38 i = if i = 480 then (y : Int) else C2 38 i := fun i => by
      show (up C2 38 480 (y : Int)) 38 i = _
      simp [up]
    have tw2 : Tw C2' R3 S2 m2 m2' cs := Tw_same (fun a b1 b2 => c2c a (by omega)) (fun a b1 b2 => l2 a (by omega)) (by rw [l2 53 (by decide)]) a3
    have cg1 : ∀ a, a < 25 ∨ (29 < a ∧ a ≠ 33 ∧ ¬ (40 ≤ a ∧ a ≤ 41)) → C2 a = C1 a := a7.1
    have c1t : ∀ a, a < 24 → C1 a = Mc a := fun a ha => wc1 a (by omega)
    have c2t : ∀ a, a < 24 → C2' a = Mc a := fun a ha => by rw [c2c a (by omega), cg1 a (by omega), c1t a ha]
    have r3t : ∀ a, 54 ≤ a → a ≤ 75 → R3 a = Mr a := fun a b1 b2 => by rw [l2 a (by omega), a8.1 a (by omega) (by omega) (by omega), wr1.1 a (by omega)]
    have r3k : ∀ k, k < 28 → R3 53 k = Mr 53 k := fun k hk => by rw [l2 53 (by decide), a8.2.1 k (by omega), wr1.2 k (by omega)]
    have st3 : Stat C2' R3 := Stat_fr c2t r3t r3k st
    have tb : ∀ a, a < 24 → C2' a = Mc a := c2t
    obtain ⟨y2, v2, C3, R4, S3, m3, m3', ν, n1, n2, n3, n4, n5, n6', n7, n8⟩ := nodeFor_ok (row := 480) (t := t) (fill := fun _ => y) (w := fun _ => v) tw2 st3.1 st3.2.1 (by rw [tb 1 (by omega)]; exact t13) (by omega) (by omega) (by omega) (fun i h2 h10 o => by
      have hi := Oc_var st3.1 st3.2.2.1 (t := t) (m := 1) (by rw [tb 1 (by omega)]; exact t13) (by rw [tb 4 (by omega)]; exact c84) o h2 h10
      have i2 : i = 2 := by omega
      subst i2
      exact ⟨by rw [c238, if_pos rfl], l3 2 (by omega) (by omega), a4⟩)
    have n3' := n3
    obtain ⟨tw3, cg3, rg3, mn3, sl3, sf3, k53⟩ := n3
    obtain ⟨b2, C4, R5, j1, j2, F, F', jw⟩ := Tw_join (x := 2) (u := u) tw3 (sl3 _ _ (a6 _ _ qS)) n4
    have cg4 : ∀ a, a < 25 ∨ (34 ≤ a ∧ a ≤ 37) ∨ a = 39 ∨ 42 ≤ a → C4 a = C1 a := fun a ha => by rw [F.1 a (by omega) (by omega), cg3.1 a (by omega), c2c a (by omega), cg1 a (by omega)]
    have rg4 : ∀ a, a ≠ 53 → ¬ (76 ≤ a ∧ a ≤ 83) → R5 a = R1 a := fun a b1 b2 => by rw [F'.1 a (by omega) (by omega), rg3.1 a b1 (by omega) (by omega), l2 a (by omega), a8.1 a b1 (by omega) (by omega)]
    have rg53 : ∀ j, j ≠ 28 → R5 53 j = R1 53 j := fun j hj => by rw [F'.1 53 (by decide) (by decide), rg3.2.1 j hj, l2 53 (by decide), a8.2.1 j hj]
    have wc4 : WkC C1 C4 := fun a ha => cg4 a (by omega)
    have wr4 : WkS R1 R5 := ⟨fun a ha => rg4 a (by omega) (by omega), fun j hj => rg53 j (by omega)⟩
    have e85' : f85 C1 (c : Int) (m : Int) = some (t : Int) := by
      unfold f85
      rw [if_pos (by omega), show ((c : Int) * 3) + (m : Int) = ((3 * c + m : Nat) : Int) by omega, Int.toNat_natCast, wc1 8 (by omega), ht]
    have e96 : f96 C2 (t : Int) (y : Int) = some (b2, C4) := by
      unfold f96
      have n1 : f89 (up C2 38 (Int.toNat 480) (y : Int)) (t : Int) 480 = some ((y2 : Int), C3) := n1
      have j1 : f79 C3 2 (y2 : Int) = some (b2, C4) := j1
      rw [n1, bs_]
      dsimp only
      rw [show Int.toNat 0 = 0 from rfl, cg1 36 (by omega), q36, j1, bs_]
      dsimp only
      rw [if_pos (by rcases jw with ⟨z, _⟩ | z <;> omega)]
    have r59 : R3 59 (3 * c + m) = (t : Int) := by rw [r3t 59 (by omega) (by omega), c8, ht]
    have r385 : R3 85 0 = (u : Int) := by rw [l2 85 (by decide), a8.1 85 (by decide) (by decide) (by decide)]; exact q85
    have hd : l239 (FU - 8) 41 R3 (c : Int) (s : Int) (m : Int) (e : Int) b (v : Int) 10 = if b2 = 0 then (some ((-1), R5)) else (f225 R5).bind (fun zq43 => if zq43.1 = 0 then (f227 (up zq43.2 53 50 0)).bind (fun zq52 => if (zq52.2 53 47) = 0 then (if (zq52.2 53 48) = 0 then (if (zq52.2 53 49) = 0 then (f240 zq52.2 (c : Int) (s : Int) (m : Int)).bind (fun q61 => (f234 zq52.2 q61).bind (fun zq66 => some (0, zq66.2))) else (some ((-4), zq52.2))) else (some ((-3), zq52.2))) else (some ((-2), zq52.2))) else (some ((-1), zq43.2))) := by
      rw [show FU - 8 = (FU - 9) + 1 by unfold FU; omega, l239, if_pos (by decide), if_neg (by omega), if_pos (by omega), show ((3 : Int) * (c : Int)) + (m : Int) = ((3 * c + m : Nat) : Int) by omega, Int.toNat_natCast, r59, n2, bs_]
      dsimp only
      rw [show Int.toNat 0 = 0 from rfl, r385, j2, bs_]
    rw [if_pos (by omega), e85', bs_, a1, bs_]
    dsimp only
    rw [e96, bs_, a2, bs_]
    dsimp only
    rw [l1, hd]
    rcases jw with ⟨jb, tw4⟩ | jb
    · rw [if_neg (by omega), if_neg (by omega)]
      obtain ⟨ρ, ρ', fin⟩ := Fin2_of tw4
      obtain ⟨b3, C5, R6, g1, g2, g3, g4, g5, g6⟩ := end_ok fin
      have wc5 : WkC C4 C5 := fun a ha => g3.1 a (by omega) (by omega) (by omega)
      have wr6 : WkS R5 R6 := ⟨fun a ha => g4 a (by omega), fun k _ => by rw [g4 53 (by decide)]⟩
      rw [g1, bs_, g2, bs_]
      dsimp only
      by_cases hb3 : b3 = 0
      · rw [if_pos hb3, if_pos hb3]
        have ac : Acy C4 ρ m3 := by
          rcases g6 with z | z
          · exact z.2
          · omega
        obtain ⟨C6, f1, f2, f3, f4, f5, f6⟩ := f103_ok g5.1
        have wc6 : WkC C5 C6 := fun a ha => f2.1 a (by omega) (by omega) (by omega) (by omega) (by omega)
        let R6' := up R6 53 50 0
        have r6c : ∀ a, a ≠ 53 → R6' a = R6 a := fun a ha => up_cell ha
        have r6k : ∀ j, j ≠ 50 → R6' 53 j = R6 53 j := fun j hj => up_at hj
        have wr6' : WkS R6 R6' := ⟨fun a ha => r6c a (by omega), fun k hk => r6k k (by omega)⟩
        have gr6 : ∀ a, 26 ≤ a → a ≤ 28 → C6 a = C4 a := fun a b1 b2 => by rw [f2.1 a (by omega) (by omega) (by omega) (by omega) (by omega), g3.1 a (by omega) (by omega) (by omega)]
        have fin6 : Fin2 C6 R6' S3 m3 m3' ((2, y2) :: cs) ρ ρ' := Fin2_same g5 ⟨f2.1 26 (by decide) (by decide) (by decide) (by decide) (by decide), f2.1 27 (by decide) (by decide) (by decide) (by decide) (by decide), f2.1 28 (by decide) (by decide) (by decide) (by decide) (by decide)⟩ ⟨r6c 76 (by decide), r6c 77 (by decide), r6c 78 (by decide)⟩ f3 (Fr_same (fun a b1 b2 => r6c a (by omega)) (r6k 28 (by decide)) g5.2.1)
        have nm6 : Nm C6 R6' S3 m3 m3' ρ ρ' 0 := Nm_zero ⟨f4, up_same _ _ _ _⟩ f5
        have wcA : WkC Mc C6 := WkC_trans wc1 (WkC_trans wc4 (WkC_trans wc5 wc6))
        have wrA : WkS Mr R6' := WkS_trans wr1 (WkS_trans wr4 (WkS_trans wr6 wr6'))
        have ct6 : CT C6 R6' N := CT_fr (fun a ha => wcA a (by omega)) (fun a b1 b2 => wrA.1 a (by omega)) (fun k hk => wrA.2 k (by omega)) ct
        have ac6 : Acy C6 ρ m3 := by
          unfold Acy mu
          rw [gr6 26 (by decide) (by decide), gr6 27 (by decide) (by decide), gr6 28 (by decide) (by decide)]
          exact ac
        obtain ⟨T, tg⟩ := TyG_of fin6.1 ac6
        have ci := ct.2.2 (3 * c + s) (by omega)
        have ctxr : -1 ≤ Mc 10 (3 * c + s) ∧ Mc 10 (3 * c + s) < (N : Int) := by
          rcases ci.2 with z | z
          · omega
          · rcases z.2.2.2 with w | w <;> omega
        have c53 : R6' 53 53 = Mc 10 (3 * c + s) := by rw [r6k 53 (by decide), g4 53 (by decide), rg53 53 (by decide), wr1.2 53 (by omega)]; exact hctx
        have c3old : ∀ x, x < n → C6 26 x = C1 26 x ∧ C6 27 x = C1 27 x ∧ C6 28 x = C1 28 x := fun x hx => by
          rw [gr6 26 (by decide) (by decide), gr6 27 (by decide) (by decide), gr6 28 (by decide) (by decide), F.1 26 (by decide) (by decide), F.1 27 (by decide) (by decide), F.1 28 (by decide) (by decide), (cg3.2.2 x (by omega)).1, (cg3.2.2 x (by omega)).2.1, (cg3.2.2 x (by omega)).2.2, c2c 26 (by decide), c2c 27 (by decide), c2c 28 (by decide)]
          exact a7.2.2 x hx
        have c6x : ∀ a, a < 25 ∨ (34 ≤ a ∧ a ≤ 37) ∨ a = 39 → C6 a = C1 a := fun a ha => by rw [f2.1 a (by omega) (by omega) (by omega) (by omega) (by omega), g3.1 a (by omega) (by omega) (by omega), cg4 a (by omega)]
        have pt6 : PT C6 R6' S3 ((2, y2) :: cs) np := by
          refine PT_more (Mc := C1) (Mr := R1) g1w csn (fun a ha => c6x a (by omega)) (fun a b1 b2 => c6x a (by omega)) (c6x 39 (by omega)) (fun i hi => ?_) c3old (fun z hz => List.mem_cons_of_mem _ hz) (fun c' u' q => sl3 _ _ (a6 _ _ q)) (fun a ha => ?_) (fun k hk => ?_) pt1
          · rw [f2.1 38 (by decide) (by decide) (by decide) (by decide) (by decide), g3.1 38 (by decide) (by decide) (by decide), F.1 38 (by decide) (by decide), cg3.1 38 (by omega), c238, if_neg (by omega), cg1 38 (by omega)]
          · rw [r6c a (by omega), g4 a (by omega), rg4 a (by omega) (by omega)]
          · rw [r6k k (by omega), g4 53 (by decide), rg53 k (by omega)]
        obtain ⟨C7, R7, w, s1, s2, s3, s4, s5, s6, s7, s8, s9⟩ := wrong_ok fin6 nm6 ct6 tg ac6 ⟨c53, ctxr.1, ctxr.2⟩ pt6 (fun i hi => by omega)
        have wc7 : WkC C6 C7 := fun a ha => s6.1 a (by omega) (by omega) (by omega)
        have wr7 : WkS R6' R7 := ⟨fun a ha => s7.1 a (by omega) (by omega), fun k hk => s7.2 k (by omega) (by omega) (by omega)⟩
        have wcB := WkC_trans wcA wc7
        have wrB := WkS_trans wrA wr7
        have e104 : s = 2 → f104 C6 (c : Int) = some (Mc 10 (3 * c + s)) := fun z => by
          subst z
          rw [f104_ok ct6 hc, wcA 10 (by omega)]
        have ctx0 : s ≠ 2 → Mc 10 (3 * c + s) = -1 := fun z => by
          rcases ci.2 with y | y
          · exact y.2
          · rcases y.2.2.2 with x | x
            · exact x
            · omega
        -- the class's rest, whatever the shape
        have ctail : (if ¬ (s : Int) = 2 then (f105 C6 (-1)).bind (fun zq46 => if ¬ zq46.1 = 0 then (some (zq46.1, zq46.2)) else (f119 zq46.2 (c : Int) (s : Int) (m : Int)).bind (fun q53 => (f120_24 zq46.2 q53).bind (fun zq58 => some (zq46.1, zq58.2)))) else (f104 C6 (c : Int)).bind (fun q64 => (f105 C6 q64).bind (fun zq69 => if ¬ zq69.1 = 0 then (some (zq69.1, zq69.2)) else (f119 zq69.2 (c : Int) (s : Int) (m : Int)).bind (fun q76 => (f120_24 zq69.2 q76).bind (fun zq81 => some (zq69.1, zq81.2)))))) = if ¬ w = 0 then some (w, C7) else (f119 C7 (c : Int) (s : Int) (m : Int)).bind (fun q => (f120_24 C7 q).bind (fun z => some (w, z.2))) := by
          by_cases e : s = 2
          · rw [if_neg (fun z => z (by omega)), e104 e, bs_, s1, bs_]
          · rw [if_pos (by omega), ← ctx0 e, s1, bs_]
        rw [f1, bs_]
        dsimp only
        rw [ctail, s2, bs_]
        dsimp only
        by_cases z47 : R7 53 47 = 0
        · rw [if_pos z47] at s8 ⊢
          by_cases z48 : R7 53 48 = 0
          · rw [if_pos z48] at s8 ⊢
            by_cases z49 : R7 53 49 = 0
            · rw [if_pos z49] at s8 ⊢
              rw [if_neg (fun z => z s8)]
              obtain ⟨fin7, nm7, ct7, tg7, ac7, hx7⟩ := s3
              have c76 : ∀ a, a ≠ 29 → a ≠ 45 → a ≠ 46 → C7 a = C6 a := s6.1
              have pt7 : PT C7 R7 S3 ((2, y2) :: cs) np := PT_fr (fun a ha => c76 a (by omega) (by omega) (by omega)) (fun a ha => s7.1 a (by omega) (by omega)) (fun k hk => s7.2 k (by omega) (by omega) (by omega)) pt6
              have npb := pt7.2.1.1
              have h31 : ∀ y, y < m3 → -2 ≤ C7 31 y ∧ C7 31 y ≤ 3000 := fun y hy => by
                rw [c76 31 (by decide) (by decide) (by decide), f5 y hy]
                omega
              have wU : ∃ U : Nat, U = 20 + (9 * c + 3 * s + m) ∧ U < 74 := ⟨_, rfl, by omega⟩
              obtain ⟨U, eU, hU⟩ := wU
              rw [← eU]
              obtain ⟨C8, x1, x2, x3, x4, x5, x6⟩ := write_ok (un := U) (np := np) fin7.1 tg7 ac7 h31 hU npb.2 pt7.2.1.2.1 (fun p hp => by
                obtain ⟨kk, g1, g2, g3, g4, g5⟩ := (pt7.2.2.2.1 p hp).1 hp
                refine ⟨kk, g1, g2, fun v hv => ?_⟩
                obtain ⟨c', u', g6, g7, g8⟩ := g5 v hv
                exact ⟨c', g6, (T_lt (T_S fin7 g8)).1⟩)
              have t7N : R7 53 24 = (NT : Int) := by rw [wrB.2 24 (by omega)]; exact tN
              have t7w : WTm R7 NT := by
                unfold WTm
                rw [wrB.1 73 (by omega), wrB.1 74 (by omega), wrB.1 75 (by omega)]
                exact tw
              obtain ⟨NT', R8, k1, k2, k3, k4, k5', k6, k7⟩ := keep_ok (un := U) (N := NT) fin7 nm7 tg7 ac7 hU npb.2 pt7.2.1.2.2.1 pt7.2.2.2.1 t7N t7w (by omega)
              have e119 : f119 C7 (c : Int) (s : Int) (m : Int) = some ((60 * U : Nat) : Int) := by
                unfold f119
                rw [if_pos (by omega), show (((20 : Int) + ((((c : Int) * 3) + (s : Int)) * 3)) + (m : Int)) * 60 = ((60 * U : Nat) : Int) by omega]
              have e240 : f240 R7 (c : Int) (s : Int) (m : Int) = some (U : Int) := by
                unfold f240
                rw [if_pos (by omega), show (((20 : Int) + ((9 : Int) * (c : Int))) + ((3 : Int) * (s : Int))) + (m : Int) = (U : Int) by omega]
              rw [e119, bs_, x1, bs_, e240, bs_, k1, bs_, s8]
              have gt7 : Gt R7 R8 := ⟨k2.2.2.2, k2.2.2.1⟩
              have mfc : MFc C7 C8 U := ⟨fun a ha => x2 a (by omega) (by omega), x5⟩
              have mfr : MFr R7 R8 U := ⟨fun a ha => k2.1 a (by omega) (by omega) (by omega) (by omega) (by omega) (by omega) (by omega), fun j hj => k2.2.1 j (by omega), k6, gt7⟩
              refine ⟨0, C8, R8, rfl, rfl, MFc_trans (WkC_M U wcB) mfc, MFr_trans (WkS_M U wrB) mfr, Or.inr ⟨rfl, NT', k3, k4, by omega, ?_⟩⟩
              have cq7 : ∀ q, q < np → CQ C7 (Mth (Mc 10 (3 * c + s))) T q := fun q hq => by
                have z := CQ_fr (N := C7) (fun a ha => c76 a (by omega) (by omega) (by omega)) ⟨c76 34 (by decide) (by decide) (by decide), c76 38 (by decide) (by decide) (by decide)⟩ (s9 z47 z48 q hq)
                refine CQ_mono (fun c' v hcv => ?_) z
                rcases hcv with ⟨i, b', a1, _⟩ | z
                · omega
                · exact z
              have h34' : C7 34 0 = (e : Int) := by rw [c76 34 (by decide) (by decide) (by decide), c6x 34 (by omega)]; exact h34
              have h16' : C7 16 e = (np : Int) := by rw [wcB 16 (by omega)]; exact h16
              have tab7 : tabC C7 = tabC Mc := by unfold tabC; rw [wcB 1 (by omega), wcB 2 (by omega), wcB 3 (by omega)]
              obtain ⟨tC7, tR7, tV7, eC7, eR7, clT7, dfT7⟩ := id pt7.1
              have uo := U_of (Mp := C8) (Mt := R8) (un := U) (A := Mth (Mc 10 (3 * c + s))) fin7 tg7 pt7 h34' h16' cq7 (fun q w' hq h8 => x6 q w' (Or.inl hq) hq h8) (fun q w' hq hw => by
                obtain ⟨t', g1, g2, g3⟩ := k7 q w' hq hw
                exact ⟨t', g1, by omega, g3⟩) (fun g _ => by rw [k2.1 69 (by decide) (by decide) (by decide) (by decide) (by decide) (by decide) (by decide)]) (fun y hy => by
                rcases nm7.2.1 y hy with z | z | ⟨_, i, i1, _, _⟩ <;> omega)
              have r69 : R8 69 = R7 69 := k2.1 69 (by decide) (by decide) (by decide) (by decide) (by decide) (by decide) (by decide)
              have ug := U_grow (Mc' := C8) (Mp' := C8) (Mr' := R8) (B := Mth (Mc 10 (3 * c + s))) (CT_CW ct7) tC7 eC7 (fun c' hc' m' hm' => ((clT7.2 c' hc').2 m' hm').2.1) (fun g' hg' => by
                obtain ⟨d1, d2, d3, m', d4, d5, d6, d7⟩ := dfT7.2 g' hg'
                rw [r69]
                refine ⟨d2, by omega, by omega, by omega, fun i hi => ?_⟩
                obtain ⟨c', v', q1, q2, q3⟩ := (d7 i hi).2
                exact ⟨c', v', q1, by omega, q3⟩) k3 k4 (Gw_fr (fun a ha => x2 a (by omega) (by omega))) ⟨Int.le_refl _, fun _ _ => ⟨rfl, rfl, rfl⟩⟩ (fun _ _ _ => ⟨rfl, rfl⟩) (fun _ _ => rfl) (fun c' v' z => by have := z.2; omega) (fun _ _ z => z) uo
              have top : T 2 = sub (fun _ => shT s) (dt Mc t) := by
                have c73 : ∀ a, 26 ≤ a → a ≤ 28 → C7 a = C3 a := fun a b1 b2 => by rw [c76 a (by omega) (by omega) (by omega), gr6 a b1 b2, F.1 a (by omega) (by omega)]
                have y2n : y2 < m3 := (Tw_lt tw3 n4).1
                have tns : TNs C7 (C7 2) (C7 3) (fun _ => y) ν t (t + 1) := by
                  rw [show C7 2 = C2' 2 by rw [wcB 2 (by omega), c2t 2 (by omega)], show C7 3 = C2' 3 by rw [wcB 3 (by omega), c2t 3 (by omega)]]
                  exact TNs_fr ⟨c73 26 (by decide) (by decide), c73 27 (by decide) (by decide), c73 28 (by decide) (by decide)⟩ n5
                have z1 := T_TNs fin7 tg7 tC7 (t := t) (by rw [wcB 1 (by omega)]; exact t13) (by rw [n6']; exact y2n) tns
                have z2 : dt C7 t = dt Mc t := by unfold dt; rw [tab7]
                have z3 : T 2 = T y2 := T_eq fin7 tg7 List.mem_cons_self
                rw [z3, ← n6', z1, z2]
                have ty : T y = shT s := by
                  unfold shT
                  rcases a9 with ⟨b1, b2⟩ | ⟨b1, a', b2, b3, b4, b5⟩
                  · subst b2
                    by_cases e0 : y = 0
                    · rw [if_pos e0, e0]; exact (T_int fin7 tg7).1
                    · rw [if_neg e0, if_pos (by omega), show y = 1 by omega]; exact (T_int fin7 tg7).2
                  · rw [if_neg (by omega), if_neg (by omega)]
                    have r2 : ∀ x, x < m2 → C7 26 x = C2 26 x ∧ C7 27 x = C2 27 x := fun x hx => by
                      rw [c73 26 (by decide) (by decide), c73 27 (by decide) (by decide), (cg3.2.2 x hx).1, (cg3.2.2 x hx).2.1, c2c 26 (by decide), c2c 27 (by decide)]
                      exact ⟨rfl, rfl⟩
                    have il : isL C7 y a' := ⟨by rw [(r2 y b5).1]; exact b2.1, by rw [(r2 y b5).2]; exact b2.2⟩
                    have a5' : C7 26 a' = 5 := by rw [(r2 a' b4).1]; exact b3
                    have am3 : a' < m3 := by omega
                    rw [T_isL fin7 tg7 (by omega) il]
                    have k5r := T_kd fin7 am3 (by omega)
                    rw [(tg7.2 a' am3).2.2.2.2.2 (by omega)]
                rw [ty]
              rw [ht, Int.toNat_natCast, ← top]
              exact ug
            · rw [if_neg z49] at s8 ⊢
              rw [if_pos (by omega), s8]
              exact ⟨-4, C7, R7, rfl, rfl, WkC_M _ wcB, WkS_M _ wrB, Or.inl ⟨by decide, wrB.2 24 (by omega)⟩⟩
          · rw [if_neg z48] at s8 ⊢
            rw [if_pos (by omega), s8]
            exact ⟨-3, C7, R7, rfl, rfl, WkC_M _ wcB, WkS_M _ wrB, Or.inl ⟨by decide, wrB.2 24 (by omega)⟩⟩
        · rw [if_neg z47] at s8 ⊢
          rw [if_pos (by omega), s8]
          exact ⟨-2, C7, R7, rfl, rfl, WkC_M _ wcB, WkS_M _ wrB, Or.inl ⟨by decide, wrB.2 24 (by omega)⟩⟩
      · rw [if_neg hb3, if_neg hb3]
        exact ⟨-1, C5, R6, rfl, rfl, WkC_M _ (WkC_trans wc1 (WkC_trans wc4 wc5)), WkS_M _ (WkS_trans wr1 (WkS_trans wr4 wr6)), Or.inl ⟨by decide, (WkS_trans wr1 (WkS_trans wr4 wr6)).2 24 (by omega)⟩⟩
    · rw [if_pos jb, if_pos jb]
      exact ⟨-1, C4, R5, rfl, rfl, WkC_M _ (WkC_trans wc1 wc4), WkS_M _ (WkS_trans wr1 wr4), Or.inl ⟨by decide, (WkS_trans wr1 wr4).2 24 (by omega)⟩⟩
