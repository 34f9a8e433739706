/-! Judging where a condition has been followed to. -/
theorem f34_ok {Mc Mr : Mm} {N d s : Nat} (h : CT Mc Mr N) (hd : d < N) (hs : s < 3) : f34 Mc (d : Int) (s : Int) = some (Mc 9 (3 * d + s)) ∧ (Mc 9 (3 * d + s) = 0 ∨ Mc 9 (3 * d + s) = 1) := by
  have hN := h.1.2.2
  have q := (h.2.2 (3 * d + s) (by omega)).2
  have q' : Mc 9 (3 * d + s) = 0 ∨ Mc 9 (3 * d + s) = 1 := q.imp (fun z => z.1) (fun z => z.1)
  refine ⟨?_, q'⟩
  unfold f34
  rw [if_pos (by omega), show ((d : Int) * 3 + (s : Int)).toNat = 3 * d + s by omega, if_pos q']
theorem f104_ok {Mc Mr : Mm} {N d : Nat} (h : CT Mc Mr N) (hd : d < N) : f104 Mc (d : Int) = some (Mc 10 (3 * d + 2)) := by
  have hN := h.1.2.2
  unfold f104
  rw [if_pos (by omega), show ((d : Int) * 3 + 2).toNat = 3 * d + 2 by omega]
theorem f111_ok {M : Mm} {x : Nat} (hx : x < 2504) : f111 M (x : Int) = some (M 26 x) := by
  unfold f111
  rw [if_pos (by omega), Int.toNat_natCast]
def Fl (Mc Mr : Mm) : Prop := (Mc 45 6 = Mr 53 47 ∧ (Mc 45 6 = 0 ∨ Mc 45 6 = 1)) ∧ (Mc 45 7 = Mr 53 48 ∧ (Mc 45 7 = 0 ∨ Mc 45 7 = 1)) ∧ Mc 45 8 = Mr 53 49 ∧ (Mc 45 8 = 0 ∨ Mc 45 8 = 1)
def Bi (Mc Mr : Mm) (k N : Nat) : Prop := ∀ i : Nat, i < k → ∃ b : Nat, b < 64 ∧ Mc 46 (Mc 32 i).toNat = (b : Int) ∧ Mr 93 i = (b : Int) ∧ ∀ c : Nat, b.testBit c = true → c < N
/-- what is assumed of the variables -/
def Ab (M : Mm) (k : Nat) (ctx : Int) (c : Nat) (v : Int) : Prop := (∃ i b : Nat, i < k ∧ v = (i : Int) ∧ M 46 (M 32 i).toNat = (b : Int) ∧ b < 64 ∧ b.testBit c = true ∧ c < 6) ∨ (v = 0 ∧ ctx = (c : Int))
def Cj (M M' : Mm) (n : Nat) : Prop := (∀ a, a ≠ 29 → a ≠ 45 → a ≠ 46 → M' a = M a) ∧ M' 45 5 = M 45 5 ∧ ∀ y, n ≤ y → M' 29 y = M 29 y
def Rj (M M' : Mm) : Prop := (∀ a, a ≠ 53 → a ≠ 93 → M' a = M a) ∧ ∀ j, j ≠ 47 → j ≠ 48 → j ≠ 49 → M' 53 j = M 53 j
theorem Cj_trans {M M1 M2 : Mm} {n : Nat} (a : Cj M M1 n) (b : Cj M1 M2 n) : Cj M M2 n := ⟨fun c h1 h2 h3 => (b.1 c h1 h2 h3).trans (a.1 c h1 h2 h3), b.2.1.trans a.2.1, fun y hy => (b.2.2 y hy).trans (a.2.2 y hy)⟩
theorem Rj_trans {M M1 M2 : Mm} (a : Rj M M1) (b : Rj M1 M2) : Rj M M2 := ⟨fun c h1 h2 => (b.1 c h1 h2).trans (a.1 c h1 h2), fun j h1 h2 h3 => (b.2 j h1 h2 h3).trans (a.2 j h1 h2 h3)⟩
theorem Cj_refl (M : Mm) (n : Nat) : Cj M M n := ⟨fun _ _ _ _ => rfl, rfl, fun _ _ => rfl⟩
theorem Rj_refl (M : Mm) : Rj M M := ⟨fun _ _ _ => rfl, fun _ _ _ _ => rfl⟩
theorem Cj_45 (M : Mm) (n j : Nat) (v : Int) (hj : j ≠ 5) : Cj M (up M 45 j v) n := ⟨fun a _ h2 _ => up_cell h2, up_at (fun z => hj z.symm), fun y _ => by rw [up_cell (by decide)]⟩
theorem Rj_53 (M : Mm) (j : Nat) (v : Int) (hj : j = 47 ∨ j = 48 ∨ j = 49) : Rj M (up M 53 j v) := ⟨fun a h1 _ => up_cell h1, fun i h1 h2 h3 => up_at (by omega)⟩
/-- what following leaves -/
def Jn (Mc Mr Mc' Mr' : Mm) (n k N : Nat) (ctx : Int) : Prop := Fl Mc' Mr' ∧ Bi Mc' Mr' k N ∧ Cj Mc Mc' n ∧ Rj Mr Mr' ∧ (∀ c v, Ab Mc k ctx c v → Ab Mc' k ctx c v) ∧ (Mc' 45 6 = 0 → Mc 45 6 = 0) ∧ (Mc' 45 7 = 0 → Mc 45 7 = 0)
theorem Jn_refl {Mc Mr : Mm} {n k N : Nat} {ctx : Int} (h1 : Fl Mc Mr) (h2 : Bi Mc Mr k N) : Jn Mc Mr Mc Mr n k N ctx := ⟨h1, h2, Cj_refl _ _, Rj_refl _, fun _ _ z => z, id, id⟩
theorem Jn_trans {Mc Mr Mc1 Mr1 Mc2 Mr2 : Mm} {n k N : Nat} {ctx : Int} (a : Jn Mc Mr Mc1 Mr1 n k N ctx) (b : Jn Mc1 Mr1 Mc2 Mr2 n k N ctx) : Jn Mc Mr Mc2 Mr2 n k N ctx :=
  ⟨b.1, b.2.1, Cj_trans a.2.2.1 b.2.2.1, Rj_trans a.2.2.2.1 b.2.2.2.1, fun c v z => b.2.2.2.2.1 c v (a.2.2.2.2.1 c v z), fun z => a.2.2.2.2.2.1 (b.2.2.2.2.2.1 z), fun z => a.2.2.2.2.2.2 (b.2.2.2.2.2.2 z)⟩
/-- a flag is set or not, on both sides -/
theorem Jn_flag {Mc Mr : Mm} {n k N : Nat} {ctx w : Int} (j : Nat) (hj : j = 6 ∨ j = 7 ∨ j = 8) (h1 : Fl Mc Mr) (h2 : Bi Mc Mr k N) (hw : w = Mc 45 j ∨ w = 1) : Jn Mc Mr (up Mc 45 j w) (up Mr 53 (j + 41) w) n k N ctx := by
  obtain ⟨⟨a1, a2⟩, ⟨b1, b2⟩, c1, c2⟩ := h1
  refine ⟨?_, fun i hi => ?_, Cj_45 _ _ _ _ (by omega), Rj_53 _ _ _ (by omega), fun c v z => ?_, fun z => ?_, fun z => ?_⟩
  · unfold Fl
    rcases hj with rfl | rfl | rfl
    · rw [up_same, up_same, up_at (show 7 ≠ 6 by decide), up_at (show 8 ≠ 6 by decide), up_at (show 48 ≠ 6 + 41 by decide), up_at (show 49 ≠ 6 + 41 by decide)]
      exact ⟨⟨rfl, by omega⟩, ⟨b1, b2⟩, c1, c2⟩
    · rw [up_same, up_same, up_at (show 6 ≠ 7 by decide), up_at (show 8 ≠ 7 by decide), up_at (show 47 ≠ 7 + 41 by decide), up_at (show 49 ≠ 7 + 41 by decide)]
      exact ⟨⟨a1, a2⟩, ⟨rfl, by omega⟩, c1, c2⟩
    · rw [up_same, up_same, up_at (show 6 ≠ 8 by decide), up_at (show 7 ≠ 8 by decide), up_at (show 47 ≠ 8 + 41 by decide), up_at (show 48 ≠ 8 + 41 by decide)]
      exact ⟨⟨a1, a2⟩, ⟨b1, b2⟩, rfl, by omega⟩
  · rw [up_cell (show 46 ≠ 45 by decide), up_cell (show 32 ≠ 45 by decide), up_cell (show 93 ≠ 53 by decide)]
    exact h2 i hi
  · unfold Ab at z ⊢
    rw [up_cell (show 46 ≠ 45 by decide), up_cell (show 32 ≠ 45 by decide)]
    exact z
  · by_cases e : j = 6
    · subst e; rw [up_same] at z; omega
    · rw [up_at (fun q => e q.symm)] at z; exact z
  · by_cases e : j = 7
    · subst e; rw [up_same] at z; omega
    · rw [up_at (fun q => e q.symm)] at z; exact z
theorem c113_6 {M : Mm} {d x κ : Nat} {p : Int} (hx : x < 2504) (hk : (κ ≤ 1 ∧ M 26 x = (κ : Int)) ∨ (κ = 2 ∧ M 26 x = 3)) (z : M 45 6 = 0 ∨ M 45 6 = 1) (h34 : f34 M (d : Int) (κ : Int) = some p) : f113 M (d : Int) (x : Int) = some (0, up M 45 6 (if p = 0 then 1 else M 45 6)) := by
  unfold f113
  rw [f111_ok hx, bs_]
  have key : (if ¬ (M 45 6) = 0 then (some ((0 : Int), (up M 45 6 1))) else (f34 M (d : Int) (κ : Int)).bind (fun q16 => if ¬ q16 = 0 then (some (0, (up M 45 6 0))) else (some (0, (up M 45 6 1))))) = some (0, up M 45 6 (if p = 0 then 1 else M 45 6)) := by
    rcases z with z | z
    · rw [if_neg (fun q => q z), h34, bs_, z]
      by_cases e : p = 0
      · rw [if_neg (fun q => q e), if_pos e]
      · rw [if_pos e, if_neg e]
    · rw [if_pos (by omega), z]
      split <;> rfl
  rcases hk with ⟨h1, h2⟩ | ⟨h1, h2⟩
  · by_cases e : κ = 0
    · subst e
      have h2' : M 26 x = 0 := h2
      rw [if_pos h2', bs_, h2']
      exact key
    · obtain rfl : κ = 1 := by omega
      have h2' : M 26 x = 1 := h2
      rw [if_neg (by omega), if_pos h2', bs_, h2']
      exact key
  · subst h1
    rw [if_neg (by omega), if_neg (by omega), if_neg (by omega), if_pos h2]
    exact key
theorem c113_2 {M : Mm} {d x : Nat} {p : Int} (hx : x < 2504) (hk : M 26 x = 2) (z : M 45 7 = 0 ∨ M 45 7 = 1) (h : f114 M (x : Int) = some (p, M)) : f113 M (d : Int) (x : Int) = some (0, up (up M 45 7 (if p = -1 then 1 else M 45 7)) 46 x (bOr (M 46 x) (bShl 1 (d : Int)))) := by
  unfold f113
  have tx : Int.toNat (x : Int) = x := Int.toNat_natCast x
  rw [f111_ok hx, bs_, if_neg (by omega), if_neg (by omega), if_pos hk]
  rcases z with z | z
  · rw [if_neg (fun q => q z), h, bs_]
    dsimp only
    rw [if_pos (show 0 ≤ (x : Int) ∧ (x : Int) < 2504 by omega), if_pos (show 0 ≤ (x : Int) ∧ (x : Int) < 2504 by omega), tx, z]
    by_cases e : p = -1
    · rw [if_neg (fun q => q e), if_pos e]
    · rw [if_pos e, if_neg e]
  · rw [if_pos (show ¬ M 45 7 = 0 by omega), if_pos (show 0 ≤ (x : Int) ∧ (x : Int) < 2504 by omega), tx, z]
    split <;> rfl
theorem c113_4 {M : Mm} {d x : Nat} (hx : x < 2504) (hk : M 26 x = 4) : f113 M (d : Int) (x : Int) = some (0, up M 45 6 1) := by
  unfold f113
  rw [f111_ok hx, bs_, if_neg (by omega), if_neg (by omega), if_neg (by omega), if_neg (by omega), if_pos hk]
theorem c113_5 {M : Mm} {d x : Nat} {p : Int} (hx : x < 2504) (hk : M 26 x = 5) (z : M 45 7 = 0 ∨ M 45 7 = 1) (h : f60 M (M 45 5) (d : Int) = some p) : f113 M (d : Int) (x : Int) = some (0, up M 45 7 (if p = 0 then 1 else M 45 7)) := by
  unfold f113
  rw [f111_ok hx, bs_, if_neg (by omega), if_neg (by omega), if_neg (by omega), if_neg (by omega), if_neg (by omega), if_pos hk]
  rcases z with z | z
  · rw [if_neg (fun q => q z), h, bs_, z]
    by_cases e : p = 0
    · rw [if_neg (fun q => q e), if_pos e]
    · rw [if_pos e, if_neg e]
  · rw [if_pos (show ¬ M 45 7 = 0 by omega), z]
    split <;> rfl
section RJUDGE
variable {M : Mm} {d q f : Nat} {p x1 x2 x5 : Int}
theorem r228_6 {κ : Nat} (hd : d < 6) (hq : q < 4000) (hk : (κ ≤ 1 ∧ M 76 q = (κ : Int)) ∨ (κ = 2 ∧ M 76 q = 3)) (z : M 53 47 = 0 ∨ M 53 47 = 1) (hp : M 60 (3 * d + κ) = p) : l228 (f + 2) 102 M x1 x2 (d : Int) (q : Int) x5 0 = some (0, up M 53 47 (if p = 0 then 1 else M 53 47)) := by
  have tq : Int.toNat (q : Int) = q := Int.toNat_natCast q
  rw [l228, if_pos (by omega), tq]
  rcases hk with ⟨h1, h2⟩ | ⟨h1, h2⟩
  · rw [if_pos (show ¬ M 76 q = 3 by omega), if_pos (show ¬ M 76 q = 4 by omega), if_neg (show ¬ 2 ≤ M 76 q by omega), h2, show ((3 : Int) * (d : Int) + (κ : Int)).toNat = 3 * d + κ by omega, hp]
    by_cases e : M 53 47 = 0
    · rw [if_neg (fun q => q e), if_pos (by omega), e]
      by_cases e2 : p = 0
      · rw [if_neg (fun q => q e2), l228, if_pos e2]
      · rw [if_pos e2, l228, if_neg e2]
    · rw [if_pos e, l228, show M 53 47 = 1 by omega]
      split <;> rfl
  · subst h1
    rw [if_neg (fun q => q h2), show ((3 : Int) * (d : Int) + 2).toNat = 3 * d + 2 by omega, hp]
    by_cases e : M 53 47 = 0
    · rw [if_neg (fun q => q e), if_pos (by omega), e]
      by_cases e2 : p = 0
      · rw [if_neg (fun q => q e2), l228, if_pos e2]
      · rw [if_pos e2, l228, if_neg e2]
    · rw [if_pos e, l228, show M 53 47 = 1 by omega]
      split <;> rfl
theorem r228_2 (hq : q < 4000) (hk : M 76 q = 2) (h : f230 M (q : Int) = some p) (hp : p = -1 ∨ (0 ≤ p ∧ p < 4000)) : l228 (f + 2) 102 M x1 x2 (d : Int) (q : Int) x5 0 = some (0, if p = -1 then up M 53 48 1 else up M 93 p.toNat (bOr (M 93 p.toNat) (bShl 1 (d : Int)))) := by
  have tq : Int.toNat (q : Int) = q := Int.toNat_natCast q
  rw [l228, if_pos (by omega), tq, if_pos (show ¬ M 76 q = 3 by omega), if_pos (show ¬ M 76 q = 4 by omega), if_pos (show 2 ≤ M 76 q by omega), if_pos (show ¬ M 76 q = 5 by omega), h, bs_]
  by_cases e : p = -1
  · rw [if_neg (fun q => q e), if_pos e]
  · rw [if_pos e, if_pos (by omega), if_neg e]
theorem r228_4 (hq : q < 4000) (hk : M 76 q = 4) : l228 (f + 2) 102 M x1 x2 (d : Int) (q : Int) x5 0 = some (0, up M 53 47 1) := by
  have tq : Int.toNat (q : Int) = q := Int.toNat_natCast q
  rw [l228, if_pos (by omega), tq, if_pos (show ¬ M 76 q = 3 by omega), if_neg (fun q => q hk)]
theorem r228_5 (hq : q < 4000) (hk : M 76 q = 5) (z : M 53 48 = 0 ∨ M 53 48 = 1) (h : f229 M (M 53 53) (d : Int) = some p) (hp : M 53 53 = -1 → p = 0) : l228 (f + 2) 102 M x1 x2 (d : Int) (q : Int) x5 0 = some (0, up M 53 48 (if p = 0 then 1 else M 53 48)) := by
  have tq : Int.toNat (q : Int) = q := Int.toNat_natCast q
  rw [l228, if_pos (by omega), tq, if_pos (show ¬ M 76 q = 3 by omega), if_pos (show ¬ M 76 q = 4 by omega), if_pos (show 2 ≤ M 76 q by omega), if_neg (fun q => q hk)]
  by_cases e : M 53 48 = 0
  · rw [if_neg (fun q => q e), e]
    by_cases e3 : M 53 53 = -1
    · rw [if_pos e3, l228, if_pos (hp e3)]
    · rw [if_neg e3, h, bs_]
      by_cases e2 : p = 0
      · rw [if_neg (fun q => q e2), l228, if_pos e2]
      · rw [if_pos e2, l228, if_neg e2]
  · rw [if_pos e, l228, show M 53 48 = 1 by omega]
    split <;> rfl
end RJUDGE
section JUDGE
variable {Mc Mr : Mm} {S : Nat → Nat → Prop} {n n' N k : Nat} {cs : List (Nat × Nat)} {ρ ρ' : Nat → Nat} {T : Nat → Ty} {ctx : Int}
theorem judge_ok {x u q d : Nat} {x1 x2 x5 : Int} {f : Nat} (h : Fin2 Mc Mr S n n' cs ρ ρ') (nm : Nm Mc Mr S n n' ρ ρ' k) (ct : CT Mc Mr N) (fl : Fl Mc Mr) (bi : Bi Mc Mr k N) (tg : TyG Mc n ρ T) (t : Tt S n n' ρ ρ' x u) (hx : ρ x = x) (hq : ρ' u = q) (hd : d < N) (hc : Mc 45 5 = ctx ∧ Mr 53 53 = ctx ∧ -1 ≤ ctx ∧ ctx < (N : Int)) (hl : Mc 26 x = 3 → Mc 10 (3 * d + 2) = -1) :
    ∃ Mc' Mr', f113 Mc (d : Int) (x : Int) = some (0, Mc') ∧ l228 (f + 2) 102 Mr x1 x2 (d : Int) (q : Int) x5 0 = some (0, Mr') ∧ Jn Mc Mr Mc' Mr' n k N ctx ∧ (Mc' 45 6 = 0 → Mc' 45 7 = 0 → con Mc (Ab Mc' k ctx) (T x) d) ∧ Mc' 29 = Mc 29 := by
  have hN := ct.1.2.2
  have hn := h.1.1.2.2.1
  have hn' := h.2.1.1.2.1
  have xl := (T_lt t).1
  have ql : q < n' := by rw [← hq]; exact (h.2.1.2.2 u (T_lt t).2).1
  have kk := T_k h t
  rw [hx, hq] at kk
  have k0 := (h.1.1.2.2.2 x xl).1
  obtain ⟨g0, g1, g2, g3, g4, g5⟩ := tg.2 x xl
  rw [hx] at g0 g1 g2 g3 g4 g5
  have z7 := fl.2.1.2
  have z6 := fl.1.2
  have z7' : Mr 53 48 = 0 ∨ Mr 53 48 = 1 := by rw [← fl.2.1.1]; exact z7
  have z6' : Mr 53 47 = 0 ∨ Mr 53 47 = 1 := by rw [← fl.1.1]; exact z6
  have six : ∀ κ : Nat, ((κ ≤ 1 ∧ Mc 26 x = (κ : Int)) ∨ (κ = 2 ∧ Mc 26 x = 3)) → ∃ Mc' Mr', f113 Mc (d : Int) (x : Int) = some (0, Mc') ∧ l228 (f + 2) 102 Mr x1 x2 (d : Int) (q : Int) x5 0 = some (0, Mr') ∧ Jn Mc Mr Mc' Mr' n k N ctx ∧ (Mc' 45 6 = 0 → Mc 9 (3 * d + κ) = 1) ∧ Mc' 29 = Mc 29 := fun κ hκ => by
    obtain ⟨p1, p2⟩ := f34_ok ct hd (s := κ) (by omega)
    have r60 := (ct.2.2 (3 * d + κ) (by omega)).1
    have e2 := r228_6 (M := Mr) (d := d) (q := q) (f := f) (x1 := x1) (x2 := x2) (x5 := x5) (κ := κ) (by omega) (by omega) (by omega) z6' r60
    rw [← fl.1.1] at e2
    refine ⟨_, _, c113_6 (by omega) hκ z6 p1, e2, Jn_flag 6 (Or.inl rfl) fl bi ?_, fun e => ?_, up_cell (by decide)⟩
    · split
      · exact Or.inr rfl
      · exact Or.inl rfl
    · rw [up_same] at e
      by_cases e2 : Mc 9 (3 * d + κ) = 0
      · rw [if_pos e2] at e; omega
      · omega
  by_cases k01 : Mc 26 x ≤ 1
  · by_cases k0' : Mc 26 x = 0
    · obtain ⟨a, b, r1, r2, r3, r4, r5⟩ := six 0 (Or.inl ⟨by omega, k0'⟩)
      exact ⟨a, b, r1, r2, r3, fun e _ => by rw [g0 k0']; exact r4 e, r5⟩
    · have k1 : Mc 26 x = 1 := by omega
      obtain ⟨a, b, r1, r2, r3, r4, r5⟩ := six 1 (Or.inl ⟨by omega, k1⟩)
      exact ⟨a, b, r1, r2, r3, fun e _ => by rw [g1 k1]; exact r4 e, r5⟩
  · by_cases k3 : Mc 26 x = 3
    · obtain ⟨a, b, r1, r2, r3, r4, r5⟩ := six 2 (Or.inr ⟨rfl, k3⟩)
      exact ⟨a, b, r1, r2, r3, fun e _ => by rw [g3 k3]; exact ⟨r4 e, Or.inl (hl k3)⟩, r5⟩
    · by_cases k4 : Mc 26 x = 4
      · exact ⟨_, _, c113_4 (by omega) k4, r228_4 (by omega) (by omega), Jn_flag (w := 1) 6 (Or.inl rfl) fl bi (Or.inr rfl), fun e _ => by rw [up_same] at e; omega, up_cell (by decide)⟩
      · by_cases k5 : Mc 26 x = 5
        · obtain ⟨v, v1, v2, v3⟩ := f60_ok (d := d) ct hc.2.2.1 hc.2.2.2
          have e2 := r228_5 (M := Mr) (d := d) (q := q) (f := f) (x1 := x1) (x2 := x2) (x5 := x5) (p := v) (by omega) (by omega) z7' (by rw [hc.2.1]; exact v2) (fun e => by rcases v3 with z | z <;> omega)
          rw [← fl.2.1.1] at e2
          refine ⟨_, _, c113_5 (by omega) k5 z7 (by rw [hc.1]; exact v1), e2, Jn_flag 7 (Or.inr (Or.inl rfl)) fl bi ?_, fun _ e => ?_, up_cell (by decide)⟩
          · split
            · exact Or.inr rfl
            · exact Or.inl rfl
          · rw [up_same] at e
            rcases v3 with z | ⟨y1, y2, y3⟩
            · rw [if_pos z] at e; omega
            · rw [g5 k5]
              exact ⟨ctx.toNat, Or.inr ⟨rfl, by omega⟩, by rw [show ((ctx.toNat : Nat) : Int) = ctx by omega]; exact y2⟩
        · have k2 : Mc 26 x = 2 := by omega
          have ix := idx_ok h nm t (by rw [hx]; exact k2)
          rw [hx, hq] at ix
          have c114 : f114 Mc (x : Int) = some (lb Mc x, Mc) := by
            unfold f114 lb
            rw [if_pos (by omega), Int.toNat_natCast]
            rcases nm.2.1 x xl with z | z | ⟨-, i, i1, i2, i3⟩
            · rw [z]; rfl
            · rw [z]; rfl
            · rw [if_neg (by omega), if_neg (by omega)]
          have ec := c113_2 (d := d) (show x < 2504 by omega) k2 z7 c114
          by_cases st : lb Mc x = -1
          · have er := r228_2 (d := d) (f := f) (x1 := x1) (x2 := x2) (x5 := x5) (show q < 4000 by omega) (by omega) ix (Or.inl st)
            rw [if_pos st] at er ec
            have nv : ∀ i : Nat, i < k → (Mc 32 i).toNat ≠ x := fun i hi e => by
              obtain ⟨a, b, y1, y2, y3, y4, y5, y6, y7⟩ := nm.2.2.1 i hi
              have : a = x := by omega
              subst this
              unfold lb at st
              rw [y6] at st
              split at st <;> omega
            have J := Jn_flag (n := n) (ctx := ctx) (w := 1) 7 (Or.inr (Or.inl rfl)) fl bi (Or.inr rfl)
            refine ⟨_, _, ec, er, ⟨?_, fun i hi => ?_, Cj_trans J.2.2.1 ⟨fun a _ _ h3 => up_cell h3, by rw [up_cell (by decide)], fun y _ => by rw [up_cell (by decide)]⟩, J.2.2.2.1, fun c v z => ?_, fun e => ?_, fun e => ?_⟩, fun _ e => ?_, by rw [up_cell (by decide), up_cell (by decide)]⟩
            · have := J.1
              unfold Fl at this ⊢
              rw [up_cell (show 45 ≠ 46 by decide)]
              exact this
            · obtain ⟨b, b1, b2, b3, b4⟩ := J.2.1 i hi
              rw [up_cell (show 32 ≠ 46 by decide), up_at (by rw [up_cell (show 32 ≠ 45 by decide)]; exact nv i hi)]
              exact ⟨b, b1, b2, b3, b4⟩
            · rcases J.2.2.2.2.1 c v z with ⟨i, b, y1, y2, y3, y4⟩ | z
              · refine Or.inl ⟨i, b, y1, y2, ?_, y4⟩
                rw [up_cell (show 32 ≠ 46 by decide), up_at (by rw [up_cell (show 32 ≠ 45 by decide)]; exact nv i y1)]
                exact y3
              · exact Or.inr z
            · rw [up_cell (by decide), up_at (by decide)] at e; exact e
            · rw [up_cell (by decide), up_same] at e; omega
            · rw [up_cell (by decide), up_same] at e; omega
          · rcases nm.2.1 x xl with z | z | ⟨-, i, i1, i2, i3⟩
            · exact absurd (by unfold lb; rw [z]; rfl) st
            · exact absurd (by unfold lb; rw [z]; rfl) st
            · have li : lb Mc x = (i : Int) := by unfold lb; rw [i2, if_neg (by omega)]
              have hk := nm.1.2.2
              have er := r228_2 (d := d) (f := f) (x1 := x1) (x2 := x2) (x5 := x5) (show q < 4000 by omega) (by omega) ix (Or.inr (by omega))
              obtain ⟨b, b1, b2, b3, b4⟩ := bi i i1
              rw [i3, Int.toNat_natCast] at b2
              have bo : bOr (Mc 46 x) (bShl 1 (d : Int)) = ((b ||| 1 <<< d : Nat) : Int) := by rw [b2]; exact bit_or ⟨b, b1⟩ ⟨d, by omega⟩
              have bo' : bOr (Mr 93 i) (bShl 1 (d : Int)) = ((b ||| 1 <<< d : Nat) : Int) := by rw [b3]; exact bit_or ⟨b, b1⟩ ⟨d, by omega⟩
              obtain ⟨bb1, bb2⟩ := bit_or2 ⟨b, b1⟩ ⟨d, by omega⟩
              dsimp only at bb1 bb2
              rw [if_neg st, bo, up_id] at ec
              rw [if_neg st, li, Int.toNat_natCast, bo'] at er
              have oth : ∀ j : Nat, j < k → j ≠ i → (Mc 32 j).toNat ≠ x := fun j hj hne e => by
                obtain ⟨a, b', y1, y2, y3, y4, y5, y6, y7⟩ := nm.2.2.1 j hj
                have : a = x := by omega
                subst this
                omega
              have at46 : ∀ j : Nat, j < k → (up Mc 46 x ((b ||| 1 <<< d : Nat) : Int)) 46 (Mc 32 j).toNat = if j = i then ((b ||| 1 <<< d : Nat) : Int) else Mc 46 (Mc 32 j).toNat := fun j hj => by
                by_cases e : j = i
                · subst e; rw [i3, Int.toNat_natCast, up_same, if_pos rfl]
                · rw [up_at (oth j hj e), if_neg e]
              refine ⟨_, _, ec, er, ⟨?_, fun j hj => ?_, ⟨fun a _ _ h3 => up_cell h3, by rw [up_cell (by decide)], fun y _ => by rw [up_cell (by decide)]⟩, ⟨fun a _ h2 => up_cell h2, fun j _ _ _ => by rw [up_cell (by decide)]⟩, fun c v z => ?_, fun e => ?_, fun e => ?_⟩, fun _ _ => ?_, up_cell (by decide)⟩
              · unfold Fl
                rw [up_cell (show 45 ≠ 46 by decide), up_cell (show 53 ≠ 93 by decide)]
                exact fl
              · rw [up_cell (show 32 ≠ 46 by decide), at46 j hj]
                by_cases e : j = i
                · subst e
                  rw [if_pos rfl, up_same]
                  refine ⟨_, bb1, rfl, rfl, fun c hc => ?_⟩
                  by_cases c6 : c < 6
                  · have := bb2 ⟨c, c6⟩
                    dsimp only at this
                    rw [this] at hc
                    rcases Bool.or_eq_true _ _ ▸ hc with z | z
                    · exact b4 c z
                    · rw [of_decide_eq_true z]; exact hd
                  · have := Nat.testBit_lt_two_pow (x := b ||| 1 <<< d) (i := c) (Nat.lt_of_lt_of_le bb1 (Nat.pow_le_pow_right (n := 2) (by decide) (show 6 ≤ c by omega)))
                    rw [this] at hc
                    exact absurd hc Bool.false_ne_true
                · rw [if_neg e, up_at e]
                  exact bi j hj
              · rcases z with ⟨j, b', y1, y2, y3, y4, y5, y6⟩ | z
                · by_cases e : j = i
                  · subst e
                    rw [i3, Int.toNat_natCast] at y3
                    have : b' = b := by omega
                    subst this
                    refine Or.inl ⟨j, _, y1, y2, ?_, bb1, ?_, y6⟩
                    · rw [up_cell (show 32 ≠ 46 by decide), at46 j y1, if_pos rfl]
                    · have := bb2 ⟨c, y6⟩
                      dsimp only at this
                      rw [this, y5]; rfl
                  · refine Or.inl ⟨j, b', y1, y2, ?_, y4, y5, y6⟩
                    rw [up_cell (show 32 ≠ 46 by decide), at46 j y1, if_neg e]
                    exact y3
                · exact Or.inr z
              · rw [up_cell (by decide)] at e; exact e
              · rw [up_cell (by decide)] at e; exact e
              · rw [g2 k2, li]
                refine ⟨d, Or.inl ⟨i, _, i1, rfl, ?_, bb1, ?_, by omega⟩, Rc_refl _ _⟩
                · rw [up_cell (show 32 ≠ 46 by decide), at46 i i1, if_pos rfl]
                · have := bb2 ⟨d, by omega⟩
                  dsimp only at this
                  rw [this, decide_eq_true rfl, Bool.or_true]
end JUDGE
