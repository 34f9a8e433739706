/-! The simple calls: is, method. -/
theorem f92_lt {M : Mm} {t : Nat} (h : t < 10) : f92 M (t : Int) = some 0 := by
  unfold f92
  rw [if_pos (by omega)]
/-- the end of the way, the class's -/
def isE (M : Mm) (x3 x4 : Int) : Option Int := (f92 M x4).bind (fun q8 => if q8 = 0 then (if x4 = 0 then (f34 M x3 x4).bind (fun q15 => if q15 = 0 then (some 0) else (some 1)) else (if ¬ x4 = 1 then (some 0) else (f34 M x3 x4).bind (fun q22 => if q22 = 0 then (some 0) else (some 1)))) else (f34 M x3 2).bind (fun q28 => if q28 = 0 ∨ q28 = 1 then (some q28) else none))
theorem l147_eq (f : Nat) (M : Mm) (x1 x2 x3 x4 x5 : Int) (h0 : 0 ≤ x5) (h : x5 < 40) : l147 (f + 1) 8 M x1 x2 x3 x4 x5 = (f92 M x4).bind (fun q2 => if q2 = 0 then isE M x3 x4 else (f104 M x3).bind (fun q34 => if q34 = (-1) then isE M x3 x4 else (f104 M x3).bind (fun q66 => (f91 M x4).bind (fun q71 => l147 f 8 M x1 x2 q66 q71 (x5 + 1))))) := by
  rw [l147, if_neg (show ¬ 40 ≤ x5 by omega)]
  have g1 : rg (x5 + 1) := by omega
  congr 1
  funext q2
  by_cases e : q2 = 0
  · rw [if_pos e, if_pos e]; rfl
  · rw [if_neg e, if_neg e]
    congr 1
    funext q
    by_cases e2 : q = -1
    · rw [if_neg (fun z => z e2), if_pos e2]; rfl
    · rw [if_pos e2, if_neg e2]
      simp only [if_pos g1]
theorem is_loop {Mc Mr R : Mm} {N : Nat} {x1 x2 y1 y2 : Int} (ct : CT Mc Mr N) (tC : TyC Mc) (tR : TyR Mc Mr) (hR : ∀ a, a ≠ 53 → R a = Mr a) (b : Nat) : ∀ (c t f g : Nat) (u : Int), 0 ≤ u → (t : Int) + u ≤ 39 → t ≤ b → b < f → b < g → c < N → (t : Int) < Mc 1 3 → ∃ v : Int, l147 f 8 Mc x1 x2 (c : Int) (t : Int) u = some v ∧ l199 g 39 R y1 y2 (c : Int) (t : Int) = some (v, R) ∧ (v = 0 ∨ v = 1) := by
  have n6 := ct.1.2.2
  have c13 := tC.1
  have r54 : R 54 = Mr 54 := hR 54 (by decide)
  have r55 : R 55 = Mr 55 := hR 55 (by decide)
  have r60 : R 60 = Mr 60 := hR 60 (by decide)
  have r61 : R 61 = Mr 61 := hR 61 (by decide)
  induction b with
  | zero =>
    intro c t f g u hu1 hu2 h1 h2 h3 hc ht
    exact small c t f g u hu1 hu2 (by omega) (by omega) (by omega) hc ht
  | succ b ih =>
    intro c t f g u hu1 hu2 h1 h2 h3 hc ht
    by_cases h10 : t < 10
    · exact small c t f g u hu1 hu2 h10 (by omega) (by omega) hc ht
    · obtain ⟨f, rfl⟩ : ∃ f', f = f' + 1 := ⟨f - 1, by omega⟩
      obtain ⟨g, rfl⟩ : ∃ g', g = g' + 1 := ⟨g - 1, by omega⟩
      have w := tC.2 t (by omega) ht
      obtain ⟨q1, q2⟩ := tR.2.2 t (by omega) ht
      have e92 := f92_eq (M := Mc) (i := t) (by omega) (by omega)
      have t40 : 0 ≤ (t : Int) ∧ (t : Int) < 40 := by omega
      obtain ⟨k1, k2⟩ := ct.2.2 (3 * c + 2) (by omega)
      have e34 := (f34_ok (s := 2) ct hc (by omega))
      have e34' : f34 Mc (c : Int) 2 = some (Mc 9 (3 * c + 2)) := e34.1
      have e104 := f104_ok ct hc
      have b18 : 0 ≤ ((3 * c + 2 : Nat) : Int) ∧ ((3 * c + 2 : Nat) : Int) < 18 := by omega
      have i2 : ((3 : Int) * (c : Int)) + 2 = ((3 * c + 2 : Nat) : Int) := by omega
      rcases q2 with ⟨z1, z2, z3⟩ | ⟨z1, z2, z3⟩
      · rw [if_pos z1] at e92
        have eE : isE Mc (c : Int) (t : Int) = some (Mc 9 (3 * c + 2)) := by
          unfold isE
          rw [e92, bs_, if_neg (show ¬ (1 : Int) = 0 by decide), e34', bs_, if_pos e34.2]
        have n3 : ¬ ¬ Mr 54 t = 3 := fun z => z z2
        rcases k2 with ⟨y1', y2'⟩ | ⟨y1', y2', y3', y4'⟩
        · refine ⟨0, ?_, ?_, Or.inl rfl⟩
          · rw [l147_eq _ _ _ _ _ _ _ hu1 (by omega), e92, bs_, if_neg (show ¬ (1 : Int) = 0 by decide), e104, bs_, if_pos y2', eE, y1']
          · rw [l199, if_pos t40, Int.toNat_natCast, r54, if_neg n3, i2, if_pos b18, Int.toNat_natCast, r60, k1, if_pos y1', if_neg n3, if_pos (Or.inl y1'), y1']
        · by_cases cm : Mc 10 (3 * c + 2) = -1
          · refine ⟨1, ?_, ?_, Or.inr rfl⟩
            · rw [l147_eq _ _ _ _ _ _ _ hu1 (by omega), e92, bs_, if_neg (show ¬ (1 : Int) = 0 by decide), e104, bs_, if_pos cm, eE, y1']
            · rw [l199, if_pos t40, Int.toNat_natCast, r54, if_neg n3, i2, if_pos b18, Int.toNat_natCast, r60, k1, if_neg (show ¬ Mc 9 (3 * c + 2) = 0 by omega), r61, y3', if_pos cm, if_neg n3, if_pos (Or.inr y1'), y1']
          · obtain ⟨d, hd⟩ : ∃ d : Nat, Mc 10 (3 * c + 2) = (d : Int) := ⟨(Mc 10 (3 * c + 2)).toNat, by omega⟩
            obtain ⟨l, hl⟩ : ∃ l : Nat, Mc 2 t = (l : Int) := ⟨(Mc 2 t).toNat, by omega⟩
            obtain ⟨v, v1, v2, v3⟩ := ih d l f g (u + 1) (by omega) (by omega) (by omega) (by omega) (by omega) (by omega) (by omega)
            refine ⟨v, ?_, ?_, v3⟩
            · rw [l147_eq _ _ _ _ _ _ _ hu1 (by omega), e92, bs_, if_neg (show ¬ (1 : Int) = 0 by decide), e104, bs_, if_neg cm, bs_, f91_eq (by omega), bs_, hd, hl, v1]
            · rw [l199, if_pos t40, Int.toNat_natCast, r54, if_neg n3, i2, if_pos b18, Int.toNat_natCast, r60, k1, if_neg (show ¬ Mc 9 (3 * c + 2) = 0 by omega), r61, y3', if_neg cm, r55, q1, hd, hl, v2]
      · rw [if_neg z1] at e92
        refine ⟨0, ?_, ?_, Or.inl rfl⟩
        · rw [l147_eq _ _ _ _ _ _ _ hu1 (by omega), e92, bs_, if_pos rfl]
          unfold isE
          rw [e92, bs_, if_pos rfl, if_neg (show ¬ (t : Int) = 0 by omega), if_pos (show ¬ (t : Int) = 1 by omega)]
        · have n3 : ¬ Mr 54 t = 3 := by omega
          rw [l199, if_pos t40, Int.toNat_natCast, r54, if_pos n3, if_pos n3, if_pos (show 2 ≤ Mr 54 t by omega)]
where
  small : ∀ (c t f g : Nat) (u : Int), 0 ≤ u → (t : Int) + u ≤ 39 → t < 10 → 0 < f → 0 < g → c < N → (t : Int) < Mc 1 3 → ∃ v : Int, l147 f 8 Mc x1 x2 (c : Int) (t : Int) u = some v ∧ l199 g 39 R y1 y2 (c : Int) (t : Int) = some (v, R) ∧ (v = 0 ∨ v = 1) := by
    intro c t f g u hu1 hu2 h10 h2 h3 hc ht
    have n6 := ct.1.2.2
    have r54 : R 54 = Mr 54 := hR 54 (by decide)
    have r60 : R 60 = Mr 60 := hR 60 (by decide)
    obtain ⟨f, rfl⟩ : ∃ f', f = f' + 1 := ⟨f - 1, by omega⟩
    obtain ⟨g, rfl⟩ : ∃ g', g = g' + 1 := ⟨g - 1, by omega⟩
    have k := tR.2.1 t h10
    have t40 : 0 ≤ (t : Int) ∧ (t : Int) < 40 := by omega
    have hd : l147 (f + 1) 8 Mc x1 x2 (c : Int) (t : Int) u = isE Mc (c : Int) (t : Int) := by rw [l147_eq _ _ _ _ _ _ _ hu1 (by omega), f92_lt h10, bs_, if_pos rfl]
    rw [hd]
    unfold isE
    rw [f92_lt h10, bs_, if_pos rfl]
    by_cases t2 : t < 2
    · rw [if_pos t2] at k
      have n3 : ¬ Mr 54 t = 3 := by omega
      obtain ⟨e1, e2⟩ := f34_ok (s := t) ct hc (by omega)
      obtain ⟨k1, k2⟩ := ct.2.2 (3 * c + t) (by omega)
      have lr : l199 (g + 1) 39 R y1 y2 (c : Int) (t : Int) = if Mc 9 (3 * c + t) = 0 then some (0, R) else some (1, R) := by
        rw [l199, if_pos t40, Int.toNat_natCast, r54, if_pos n3, if_pos n3, if_neg (show ¬ 2 ≤ Mr 54 t by omega), k, show ((3 : Int) * (c : Int)) + (t : Int) = ((3 * c + t : Nat) : Int) by omega, if_pos (show 0 ≤ ((3 * c + t : Nat) : Int) ∧ ((3 * c + t : Nat) : Int) < 18 by omega), Int.toNat_natCast, r60, k1]
      rw [lr, e1, bs_]
      rcases e2 with z | z
      · refine ⟨0, ?_, by rw [if_pos z], Or.inl rfl⟩
        by_cases t0 : (t : Int) = 0
        · rw [if_pos t0, if_pos z]
        · rw [if_neg t0, if_neg (show ¬ ¬ (t : Int) = 1 by omega), if_pos z]
      · have nz : ¬ Mc 9 (3 * c + t) = 0 := by omega
        refine ⟨1, ?_, by rw [if_neg nz], Or.inr rfl⟩
        by_cases t0 : (t : Int) = 0
        · rw [if_pos t0, if_neg nz]
        · rw [if_neg t0, if_neg (show ¬ ¬ (t : Int) = 1 by omega), if_neg nz]
    · rw [if_neg t2] at k
      have n3 : ¬ Mr 54 t = 3 := by omega
      refine ⟨0, by rw [if_neg (show ¬ (t : Int) = 0 by omega), if_pos (show ¬ (t : Int) = 1 by omega)], ?_, Or.inl rfl⟩
      rw [l199, if_pos t40, Int.toNat_natCast, r54, if_pos n3, if_pos n3, if_pos (show 2 ≤ Mr 54 t by omega)]
theorem is_call {Mc Mr : Mm} (rel : Rel Mc Mr) (x y : Int) : Ans Mc Mr (f146 Mc x y) (f199 Mr x y) := by
  obtain ⟨N, NT, st, ct, _⟩ := id rel
  have n6 := ct.1.2.2
  have h5 := ct.1.1
  have h53 := ct.1.2.1
  have c13 := st.1.1
  have e1 : Mr 53 1 = Mc 1 3 := st.2.1.1
  unfold f146 f199
  rw [f26_b, bs_, f195_b, bs_, h5, h53]
  rcases b01_01 (N : Int) x with z | ⟨z, z1, z2⟩
  · rw [if_pos z, if_pos z]; exact Ans_thr rel (Or.inl rfl)
  · have nz : ¬ b01 (N : Int) x = 0 := by omega
    rw [if_neg nz, if_neg nz, f17_b, bs_, f190_b, bs_, e1]
    rcases b01_01 (Mc 1 3) y with w | ⟨w, w1, w2⟩
    · rw [if_pos w, if_pos w]; exact Ans_thr rel (Or.inl rfl)
    · have nw : ¬ b01 (Mc 1 3) y = 0 := by omega
      rw [if_neg nw, if_neg nw]
      obtain ⟨c, rfl⟩ : ∃ c : Nat, x = (c : Int) := ⟨x.toNat, by omega⟩
      obtain ⟨t, rfl⟩ : ∃ t : Nat, y = (t : Int) := ⟨y.toNat, by omega⟩
      obtain ⟨v, v1, v2, v3⟩ := is_loop (R := up Mr 53 0 0) (x1 := (c : Int)) (x2 := (t : Int)) (y1 := (c : Int)) (y2 := (t : Int)) ct st.1 st.2.1 (fun a ha => up_cell ha) 40 c t FU FU 0 (by omega) (by omega) (by omega) (by unfold FU; omega) (by unfold FU; omega) (by omega) w2
      have v1 : f147 Mc (c : Int) (t : Int) = some v := v1
      rw [v1, bs_, if_pos v3, v2]
      exact ⟨0, v, v, Mc, up Mr 53 0 0, rfl, rfl, up_same _ _ _ _, by omega, fun _ => rfl, Rel_0 0 rel, fun _ _ => rfl, FrR_0 Mr 0⟩
