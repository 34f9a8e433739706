/-! Following a condition. -/
def tl110 (M : Mm) (x3 x4 x5 : Int) : Option (Int × Mm) := if ¬ (M 45 8) = 0 then (f113 (up M 45 8 1) x3 x4).bind (fun zq12 => some (0, zq12.2)) else (if x5 ≤ 3 then (f113 (up M 45 8 0) x3 x4).bind (fun zq21 => some (0, zq21.2)) else (f113 (up M 45 8 1) x3 x4).bind (fun zq29 => some (0, zq29.2)))
theorem l110_eq (f : Nat) (M : Mm) (x1 x2 x3 x4 x5 : Int) : l110 (f + 1) 15 M x1 x2 x3 x4 x5 = if 2504 ≤ x5 then tl110 M x3 x4 x5 else (f111 M x4).bind (fun q28 => if ¬ q28 = 3 then tl110 M x3 x4 x5 else (f104 M x3).bind (fun q53 => if q53 = (-1) then tl110 M x3 x4 x5 else (f104 M x3).bind (fun q78 => (f112 M x4).bind (fun zq83 => if rg (x5 + 1) then (l110 f 15 zq83.2 x1 x2 q78 zq83.1 (x5 + 1)) else none)))) := by
  rw [l110]; rfl
section FOLLOW
variable {Mc Mr : Mm} {S : Nat → Nat → Prop} {n n' N k : Nat} {cs : List (Nat × Nat)} {ρ ρ' : Nat → Nat} {T : Nat → Ty} {ctx : Int}
/-- what stands while conditions are followed -/
def FS (Mc Mr : Mm) (S : Nat → Nat → Prop) (n n' N k : Nat) (cs : List (Nat × Nat)) (ρ ρ' : Nat → Nat) (T : Nat → Ty) (ctx : Int) : Prop := Fin2 Mc Mr S n n' cs ρ ρ' ∧ Nm Mc Mr S n n' ρ ρ' k ∧ CT Mc Mr N ∧ TyG Mc n ρ T ∧ Acy Mc ρ n ∧ (Mc 45 5 = ctx ∧ Mr 53 53 = ctx ∧ -1 ≤ ctx ∧ ctx < (N : Int))
theorem FS_go {Mc' Mr' : Mm} (h : FS Mc Mr S n n' N k cs ρ ρ' T ctx) (cj : Cj Mc Mc' n) (rj : Rj Mr Mr') (fg : Fg Mc' n ρ) : FS Mc' Mr' S n n' N k cs ρ ρ' T ctx := by
  obtain ⟨f2, nm, ct, tg, ac, hc⟩ := h
  have e : ∀ a, a < 45 → a ≠ 29 → Mc' a = Mc a := fun a h1 h2 => cj.1 a h2 (by omega) (by omega)
  refine ⟨Fin2_same f2 ⟨e 26 (by omega) (by omega), e 27 (by omega) (by omega), e 28 (by omega) (by omega)⟩ ⟨rj.1 76 (by decide) (by decide), rj.1 77 (by decide) (by decide), rj.1 78 (by decide) (by decide)⟩ fg (Fr_same (fun a h1 h2 => rj.1 a (by omega) (by omega)) (rj.2 28 (by decide) (by decide) (by decide)) f2.2.1), ?_, CT_fr (fun a ha => e a (by omega) (by omega)) (fun a h1 h2 => rj.1 a (by omega) (by omega)) (fun j hj => rj.2 j (by omega) (by omega) (by omega)) ct, TyG_fr ⟨e 26 (by omega) (by omega), e 27 (by omega) (by omega), e 28 (by omega) (by omega), e 31 (by omega) (by omega)⟩ tg, ?_, by rw [cj.2.1]; exact hc.1, by rw [rj.2 53 (by decide) (by decide) (by decide)]; exact hc.2.1, hc.2.2⟩
  · unfold Nm
    rw [e 25 (by omega) (by omega), e 26 (by omega) (by omega), e 31 (by omega) (by omega), e 32 (by omega) (by omega), rj.2 50 (by decide) (by decide) (by decide), rj.1 92 (by decide) (by decide)]
    exact nm
  · unfold Acy mu
    rw [e 26 (by omega) (by omega), e 27 (by omega) (by omega), e 28 (by omega) (by omega)]
    exact ac
theorem Fg_45 {M : Mm} {j : Nat} {v : Int} (h : Fg M n ρ) : Fg (up M 45 j v) n ρ := Fg_same (fun a h1 h2 => up_cell (by omega)) h
theorem con_29 {M M' : Mm} {A : Nat → Int → Prop} {t : Ty} {c : Nat} (h : ∀ a, a < 24 → M' a = M a) (q : con M' A t c) : con M A t c := con_fr (h 6 (by omega)).symm (h 9 (by omega)).symm (h 10 (by omega)).symm t c q
theorem tail_ok {x u q d f x5 : Nat} {x1 x2 : Int} (h : FS Mc Mr S n n' N k cs ρ ρ' T ctx) (fl : Fl Mc Mr) (bi : Bi Mc Mr k N) (t : Tt S n n' ρ ρ' x u) (hx : ρ x = x) (hq : ρ' u = q) (hd : d < N) (hl : Mc 26 x = 3 → Mc 10 (3 * d + 2) = -1) :
    ∃ Mc' Mr', tl110 Mc (d : Int) (x : Int) (x5 : Int) = some (0, Mc') ∧ l228 (f + 3) 80 Mr x1 x2 (d : Int) (q : Int) (x5 : Int) 0 = some (0, Mr') ∧ Jn Mc Mr Mc' Mr' n k N ctx ∧ (Mc' 45 6 = 0 → Mc' 45 7 = 0 → con Mc (Ab Mc' k ctx) (T x) d) ∧ Mc' 29 = Mc 29 := by
  obtain ⟨w, w1, w2, w3⟩ : ∃ w : Int, (w = Mc 45 8 ∨ w = 1) ∧ tl110 Mc (d : Int) (x : Int) (x5 : Int) = (f113 (up Mc 45 8 w) (d : Int) (x : Int)).bind (fun zq13 => some (0, zq13.2)) ∧ l228 (f + 3) 80 Mr x1 x2 (d : Int) (q : Int) (x5 : Int) 0 = l228 (f + 2) 102 (up Mr 53 49 w) x1 x2 (d : Int) (q : Int) (x5 : Int) 0 := by
    unfold tl110
    rw [l228, ← fl.2.2.1]
    by_cases z : Mc 45 8 = 0
    · by_cases e : (x5 : Int) ≤ 3
      · exact ⟨0, Or.inl z.symm, by rw [if_neg (fun q => q z), if_pos e], by rw [if_neg (fun q => q z), if_pos e]⟩
      · exact ⟨1, Or.inr rfl, by rw [if_neg (fun q => q z), if_neg e], by rw [if_neg (fun q => q z), if_neg e]⟩
    · exact ⟨1, Or.inr rfl, by rw [if_pos z], by rw [if_pos z]⟩
  have J := Jn_flag (n := n) (ctx := ctx) (w := w) 8 (Or.inr (Or.inr rfl)) fl bi w1
  have F := FS_go h J.2.2.1 J.2.2.2.1 (Fg_45 h.1.1)
  obtain ⟨Mc', Mr', r1, r2, r3, r4, r5⟩ := judge_ok (f := f) (x1 := x1) (x2 := x2) (x5 := (x5 : Int)) F.1 F.2.1 F.2.2.1 J.1 J.2.1 F.2.2.2.1 t hx hq hd F.2.2.2.2.2 (fun z => by rw [up_cell (by decide)] at z ⊢; exact hl z)
  exact ⟨Mc', Mr', by rw [w2, r1, bs_], by rw [w3]; exact r2, Jn_trans J r3, fun e1 e2 => con_29 (fun a ha => up_cell (by omega)) (r4 e1 e2), by rw [r5, up_cell (by decide)]⟩
theorem Fg_29 {M M' : Mm} (h : Fg M n ρ) (cj : Cj M M' n) (e : M' 29 = M 29) : Fg M' n ρ := Fg_same (fun a h1 h2 => by
  by_cases z : a = 29
  · rw [z]; exact e
  · exact cj.1 a z (by omega) (by omega)) h
theorem follow_loop {x1 x2 y1 y2 : Int} {r : Nat → Nat} (hr : ∀ x m, x < n → ρ x = x → mu Mc ρ x m ≠ 0 → r m < r x) (b : Nat) : ∀ (x u c x5 f g : Nat) (M : Mm), r x ≤ b → x5 + b ≤ 2504 → b < f → b + 4 < g → FS M Mr S n n' N k cs ρ ρ' T ctx → Cj Mc M n → Fl M Mr → Bi M Mr k N → Tt S n n' ρ ρ' x u → ρ x = x → c < N →
    ∃ Mc' Mr', l110 f 15 M x1 x2 (c : Int) (x : Int) (x5 : Int) = some (0, Mc') ∧ l228 g 12 Mr y1 y2 (c : Int) (ρ' u : Int) (x5 : Int) 0 = some (0, Mr') ∧ Jn M Mr Mc' Mr' n k N ctx ∧ Fg Mc' n ρ ∧ (Mc' 45 6 = 0 → Mc' 45 7 = 0 → con M (Ab Mc' k ctx) (T x) c) := by
  induction b with
  | zero =>
    intro x u c x5 f g M hb h5 hf hg h cj fl bi t hx hc
    obtain ⟨f, rfl⟩ : ∃ f', f = f' + 1 := ⟨f - 1, by omega⟩
    obtain ⟨g, rfl⟩ : ∃ f', g = f' + 4 := ⟨g - 4, by omega⟩
    have xl := (T_lt t).1
    have hn := h.1.1.1.2.2.1
    have hn' := h.1.2.1.1.2.1
    have ql := (h.1.2.1.2.2 u (T_lt t).2).1
    have kk := T_k h.1 t
    rw [hx] at kk
    have k3 : ¬ M 26 x = 3 := fun z => by
      have e26 := cj.1 26 (by decide) (by decide) (by decide)
      rw [e26] at z
      have := hr x (ρ (Mc 27 x).toNat) xl hx (mu_iff.mpr (Or.inl ⟨by omega, rfl⟩))
      omega
    obtain ⟨Mc', Mr', r1, r2, r3, r4, r5⟩ := tail_ok (f := g) (x5 := x5) (x1 := y1) (x2 := y2) h fl bi t hx rfl hc (fun z => absurd z k3)
    have tq : Int.toNat (ρ' u : Int) = ρ' u := Int.toNat_natCast _
    refine ⟨Mc', Mr', ?_, ?_, r3, Fg_29 h.1.1 r3.2.2.1 r5, r4⟩
    · rw [l110_eq, f111_ok (by omega), bs_, if_pos k3, r1]
      split <;> rfl
    · rw [l228, if_pos (by omega), tq, if_pos (by omega)]
      exact r2
  | succ b ih =>
    intro x u c x5 f g M hb h5 hf hg h cj fl bi t hx hc
    obtain ⟨f, rfl⟩ : ∃ f', f = f' + 1 := ⟨f - 1, by omega⟩
    obtain ⟨g, rfl⟩ : ∃ f', g = f' + 4 := ⟨g - 4, by omega⟩
    have xl := (T_lt t).1
    have hN := h.2.2.1.1.2.2
    have hn := h.1.1.1.2.2.1
    have hn' := h.1.2.1.1.2.1
    have ql := (h.1.2.1.2.2 u (T_lt t).2).1
    have kk := T_k h.1 t
    rw [hx] at kk
    have tq : Int.toNat (ρ' u : Int) = ρ' u := Int.toNat_natCast _
    obtain ⟨c60, c10⟩ := h.2.2.1.2.2 (3 * c + 2) (by omega)
    have t3 : ((3 : Int) * (c : Int) + 2).toNat = 3 * c + 2 := by omega
    by_cases k3 : M 26 x = 3 ∧ M 10 (3 * c + 2) ≠ -1
    · rcases c10 with ⟨-, z⟩ | ⟨p1, p2, p3, p4⟩
      · exact absurd z k3.2
      · rcases p4 with z | ⟨p4, p5, -⟩
        · exact absurd z k3.2
        · have e26 := cj.1 26 (by decide) (by decide) (by decide)
          have e27 := cj.1 27 (by decide) (by decide) (by decide)
          have gw := (h.1.1.1.2.2.2 x xl).2.1 (by omega)
          obtain ⟨a, ha⟩ : ∃ a : Nat, M 27 x = (a : Int) := ⟨(M 27 x).toNat, by omega⟩
          obtain ⟨d, hd⟩ : ∃ d : Nat, M 10 (3 * c + 2) = (d : Int) := ⟨(M 10 (3 * c + 2)).toNat, by omega⟩
          obtain ⟨M1, e1, e2, e3⟩ := Fg_80 h.1.1 (x := a) (by omega)
          have ta := T_a h.1 t (by rw [hx]; omega)
          rw [hx, ha, Int.toNat_natCast] at ta
          have ra := h.1.1.2.2 a (T_lt ta).1
          have cj1 : Cj M M1 n := ⟨fun z h1 _ _ => e2.1 z h1, by rw [e2.1 45 (by decide)], e2.2⟩
          have F1 := FS_go h cj1 (Rj_refl Mr) e3
          have rk := hr x (ρ (Mc 27 x).toNat) xl hx (mu_iff.mpr (Or.inl ⟨by rw [← e26]; omega, rfl⟩))
          rw [← e27, ha, Int.toNat_natCast] at rk
          have fl1 : Fl M1 Mr := by unfold Fl; rw [e2.1 45 (by decide)]; exact fl
          have bi1 : Bi M1 Mr k N := by unfold Bi; rw [e2.1 46 (by decide), e2.1 32 (by decide)]; exact bi
          obtain ⟨Mc', Mr', r1, r2, r3, r4, r5⟩ := ih (ρ a) (Mr 77 (ρ' u)).toNat d (x5 + 1) f (g + 3) M1 (by omega) (by omega) (by omega) (by omega) F1 (Cj_trans cj cj1) fl1 bi1 (T_r ta ra.1 (T_lt ta).2 ra.2.symm rfl) ra.2 (by omega)
          have J0 : Jn M Mr M1 Mr n k N ctx := ⟨fl1, bi1, cj1, Rj_refl _, fun c v z => by unfold Ab at z ⊢; rw [e2.1 46 (by decide), e2.1 32 (by decide)]; exact z, fun z => by rw [e2.1 45 (by decide)] at z; exact z, fun z => by rw [e2.1 45 (by decide)] at z; exact z⟩
          refine ⟨Mc', Mr', ?_, ?_, Jn_trans J0 r3, r4, fun z1 z2 => ?_⟩
          · rw [l110_eq, if_neg (by omega), f111_ok (by omega), bs_, if_neg (fun z => z k3.1), f104_ok h.2.2.1 hc, bs_, if_neg k3.2, bs_]
            unfold f112
            rw [if_pos (by omega), Int.toNat_natCast, ha, e1, bs_, bs_]
            dsimp only
            rw [if_pos (by omega), hd, show (x5 : Int) + 1 = ((x5 + 1 : Nat) : Int) by omega]
            exact r1
          · rw [l228, if_pos (by omega), tq, if_neg (fun z => z (by rw [← kk]; exact k3.1)), if_pos (by omega), t3, c60, if_neg (by omega), p3, if_neg k3.2]
            have gu := (h.1.2.1.1.2.2 (ρ' u) ql).2.1 (by omega)
            rw [show Mr 77 (ρ' u) = (((Mr 77 (ρ' u)).toNat : Nat) : Int) by omega, Fr_217 h.1.2.1 (T_lt ta).2, bs_, if_pos (by omega), hd, show (x5 : Int) + 1 = ((x5 + 1 : Nat) : Int) by omega]
            exact r2
          · have := (h.2.2.2.1.2 x xl).2.2.2.1 (by rw [hx]; exact k3.1)
            rw [hx, ha, Int.toNat_natCast] at this
            rw [this]
            refine ⟨p1, Or.inr ?_⟩
            rw [hd, Int.toNat_natCast]
            have q := r5 z1 z2
            rw [h.2.2.2.1.1 (ρ a) a ra.2] at q
            exact con_29 (fun z hz => e2.1 z (by omega)) q
    · have hl : M 26 x = 3 → M 10 (3 * c + 2) = -1 := fun z => by
        by_cases e : M 10 (3 * c + 2) = -1
        · exact e
        · exact absurd ⟨z, e⟩ k3
      obtain ⟨Mc', Mr', r1, r2, r3, r4, r5⟩ := tail_ok (f := g) (x5 := x5) (x1 := y1) (x2 := y2) h fl bi t hx rfl hc hl
      refine ⟨Mc', Mr', ?_, ?_, r3, Fg_29 h.1.1 r3.2.2.1 r5, r4⟩
      · rw [l110_eq, f111_ok (by omega), bs_, f104_ok h.2.2.1 hc, bs_, r1]
        split
        · rfl
        · split
          · rfl
          · rename_i z1 z2
            rw [if_pos (hl (by omega))]
      · rw [l228, if_pos (by omega), tq]
        by_cases k3' : M 26 x = 3
        · rw [if_neg (fun z => z (by rw [← kk]; exact k3')), if_pos (by omega), t3, c60]
          rcases c10 with ⟨z, -⟩ | ⟨p1, p2, p3, p4⟩
          · rw [if_pos z]; exact r2
          · rw [if_neg (by omega), p3, if_pos (hl k3')]; exact r2
        · rw [if_pos (by omega)]; exact r2
theorem follow_ok {x u c : Nat} (h : FS Mc Mr S n n' N k cs ρ ρ' T ctx) (fl : Fl Mc Mr) (bi : Bi Mc Mr k N) (t : Tt S n n' ρ ρ' x u) (hc : c < N) :
    ∃ Mc' Mr', f110 Mc (c : Int) (x : Int) = some (0, Mc') ∧ f228 Mr (c : Int) (u : Int) = some (0, Mr') ∧ Jn Mc Mr Mc' Mr' n k N ctx ∧ FS Mc' Mr' S n n' N k cs ρ ρ' T ctx ∧ (Mc' 45 6 = 0 → Mc' 45 7 = 0 → con Mc (Ab Mc' k ctx) (T x) c) := by
  obtain ⟨r, hb, hr⟩ := h.2.2.2.2.1
  have xl := (T_lt t).1
  have rx := h.1.1.2.2 x xl
  have hn := h.1.1.1.2.2.1
  obtain ⟨M1, e1, e2, e3⟩ := Fg_80 h.1.1 xl
  have cj1 : Cj Mc M1 n := ⟨fun z h1 _ _ => e2.1 z h1, by rw [e2.1 45 (by decide)], e2.2⟩
  have F1 := FS_go h cj1 (Rj_refl Mr) e3
  have fl1 : Fl M1 Mr := by unfold Fl; rw [e2.1 45 (by decide)]; exact fl
  have bi1 : Bi M1 Mr k N := by unfold Bi; rw [e2.1 46 (by decide), e2.1 32 (by decide)]; exact bi
  obtain ⟨Mc', Mr', r1, r2, r3, r4, r5⟩ := follow_loop (x1 := (c : Int)) (x2 := (x : Int)) (y1 := (c : Int)) (y2 := (u : Int)) hr n (ρ x) u c 0 FU FU M1 (hb _) (by omega) (by unfold FU; omega) (by unfold FU; omega) F1 cj1 fl1 bi1 (T_r t rx.1 (T_lt t).2 rx.2.symm rfl) rx.2 hc
  have J0 : Jn Mc Mr M1 Mr n k N ctx := ⟨fl1, bi1, cj1, Rj_refl _, fun c v z => by unfold Ab at z ⊢; rw [e2.1 46 (by decide), e2.1 32 (by decide)]; exact z, fun z => by rw [e2.1 45 (by decide)] at z; exact z, fun z => by rw [e2.1 45 (by decide)] at z; exact z⟩
  have J := Jn_trans J0 r3
  refine ⟨Mc', Mr', ?_, ?_, J, FS_go h J.2.2.1 J.2.2.2.1 r4, fun z1 z2 => ?_⟩
  · unfold f110
    rw [e1, bs_]
    exact r1
  · unfold f228
    rw [Fr_217 h.1.2.1 (T_lt t).2, bs_]
    exact r2
  · have q := r5 z1 z2
    rw [h.2.2.2.1.1 (ρ x) x rx.2] at q
    exact con_29 (fun z hz => e2.1 z (by omega)) q
end FOLLOW
