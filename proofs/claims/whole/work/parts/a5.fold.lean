/-! Run: folds. -/
theorem tlC_succ {M : Mm} : ∀ (k l : Nat), tlC M (k + 1) l = (M 49 (5 * tlC M k l + 2)).toNat := by
  intro k
  induction k with
  | zero => intro l; rfl
  | succ k ih => intro l; exact ih (M 49 (5 * l + 2)).toNat
section FOLD
variable {M0 R0 : Mm} {N NT : Nat} {G : Nat → UGt} {Mc Mr : Mm} {φ : Nat → Nat} {τ : Nat → Ty} {κ : Nat → Nat × Nat × Nat} {Es : Nat → Int → Ty} {n m nf ne : Nat} {ω : Nat → Ty} {w s lim : Nat}
/-- an element of a list, here -/
theorem l164_in {l K : Nat} {x0 : Int} (hC : ∀ i, i < n → COK M0 N G Mc Mr φ τ κ Es m nf ne i) (hn : n ≤ 602) (hl : l < n) (hK : (K : Int) < lenC Mc l) (d : Nat) : ∀ (x f : Nat), x + d = K → d < f → l164 f 5 Mc x0 (K : Int) (tlC Mc x l : Int) (x : Int) = some (elC Mc l K : Int) := by
  have lb := lenC_le hC (l + 1) l (by omega) hl
  induction d with
  | zero =>
    intro x f hx hf
    obtain ⟨f, rfl⟩ : ∃ f', f = f' + 1 := ⟨f - 1, by omega⟩
    obtain rfl : x = K := by omega
    have a := tl_ok hC x l hl hK
    rw [l164, if_pos (by omega), f165_0 (by omega), bs_, (el_ok hC hl hK).2.1]
  | succ d ih =>
    intro x f hx hf
    obtain ⟨f, rfl⟩ : ∃ f', f = f' + 1 := ⟨f - 1, by omega⟩
    have a := tl_ok hC x l hl (by omega)
    obtain ⟨_, _, h, t, _, _, _, c4, _⟩ := COK_2 (hC (tlC Mc x l) (by omega)) a.2.1
    have e : tlC Mc (x + 1) l = t := by rw [tlC_succ, c4, Int.toNat_natCast]
    have r := ih (x + 1) f (by omega) (by omega)
    rw [e] at r
    rw [l164, if_neg (by omega), f165_1 (by omega), bs_, c4, if_pos (by unfold rg; omega)]
    exact r
theorem f164_el {l K : Nat} (hC : ∀ i, i < n → COK M0 N G Mc Mr φ τ κ Es m nf ne i) (hn : n ≤ 602) (hl : l < n) (hK : (K : Int) < lenC Mc l) : f164 Mc (l : Int) (K : Int) = some (elC Mc l K : Int) := by
  have lb := lenC_le hC (l + 1) l (by omega) hl
  exact l164_in (x0 := (l : Int)) hC hn hl hK K 0 FU (by omega) (by unfold FU; omega)
/-- the other side copies the list -/
theorem l252_in {l w : Nat} {a : Ty} {x1 x2 x3 : Int} (hU : ∀ u, uIn M0 N u → UG M0 R0 u (G u)) (hw : w < 2000) (hl : l < n) : ∀ (d k c f : Nat) (M : Mm) (y : Int) (m : Nat), lenC Mc c = (d : Int) → tlC Mc k l = c → c < n → τ c = tL a → lenC Mc l = ((k + d : Nat) : Int) → d < f → m + d ≤ 6000 → Bas M0 R0 N NT G Mc M φ τ κ Es n m nf ne → Chn Mc M φ m l k y → M 53 71 = (w : Int) →
    ∃ (M' : Mm) (y' : Int), l252 f 6 M x1 x2 x3 y (φ c : Int) = some (0, ptk (up M' 53 78 x2) w 5 x1 y' 0 0 0) ∧ Bas M0 R0 N NT G Mc M' φ τ κ Es n (m + d) nf ne ∧ Grw Mc M φ τ κ Es n m nf ne Mc M' φ τ κ Es n (m + d) nf ne ∧ Chn Mc M' φ (m + d) l (k + d) y' ∧ (∀ b, b ≠ 53 → (b < 95 ∨ 100 < b) → M' b = M b) ∧ ∀ j, j ≠ 61 → M' 53 j = M 53 j := by
  intro d
  induction d with
  | zero =>
    intro k c f M y m hd htl hc ht hlen hf hm b ch h71
    obtain ⟨f, rfl⟩ : ∃ f', f = f' + 1 := ⟨f - 1, by omega⟩
    have ck := b.2.2.2.2
    have fc := (ck c hc).1
    refine ⟨M, y, ?_, b, Grw_refl, ch, fun _ _ _ => rfl, fun _ _ => rfl⟩
    have k2 : M 95 (φ c) = 2 := by
      rcases COK_lst hU (ck c hc) ht with z | z
      · exact z.2.1
      · obtain ⟨z1, _, h, t, _, z2, _, _, _, _, _, _, z3⟩ := z
        have := lenC_le ck (t + 1) t (by omega) (by omega)
        unfold lenC at hd
        rw [if_pos z1, z3] at hd
        omega
    rw [l252, if_pos (by omega), Int.toNat_natCast, k2, if_pos (by decide), f243_eq (t := w) (by rw [up_at (by decide)]; exact h71) hw, bs_]
  | succ d ih =>
    intro k c f M y m hd htl hc ht hlen hf hm b ch h71
    obtain ⟨f, rfl⟩ : ∃ f', f = f' + 1 := ⟨f - 1, by omega⟩
    have ck := b.2.2.2.2
    have fc := (ck c hc).1
    have kd : Mc 49 (5 * c) = 2 := by
      by_cases z : Mc 49 (5 * c) = 2
      · exact z
      · unfold lenC at hd
        rw [if_neg z] at hd
        omega
    obtain ⟨_, z0, h, t, z1, z2, z3, z4, z5, z6, z7, z8, z9⟩ := COK_2 (ck c hc) kd
    have lt : lenC Mc t = (d : Int) := by
      have : lenC Mc c = lenC Mc t + 1 := by
        unfold lenC
        rw [if_pos kd]
        exact z9
      omega
    have el : elC Mc l k = h := by
      unfold elC
      rw [htl, z3, Int.toNat_natCast]
    obtain ⟨b1, g1⟩ := Bas_one (y1 := 6) (y2 := (φ h : Int)) (y3 := y) (y4 := 0) (y5 := 0) (y6 := 0) b
    have ch1 : Chn Mc (wr M m 6 (φ h : Int) y 0 0 0) φ (m + 1) l (k + 1) (m : Int) := ⟨m, rfl, by omega, by rw [wr_row.2.1, el], by rw [wr_row.2.2.1]; exact Chn_grow ck g1 hl k y (by omega) ch⟩
    obtain ⟨M', y', r1, r2, r3, r4, r5, r6⟩ := ih (k + 1) t f (wr M m 6 (φ h : Int) y 0 0 0) (m : Int) (m + 1) lt (by rw [tlC_succ, htl, z4, Int.toNat_natCast]) (by omega) (by rw [z8]; exact ht) (by omega) (by omega) (by omega) b1 ch1 (by rw [wr_53 (by decide)]; exact h71)
    rw [show m + 1 + d = m + (d + 1) by omega] at r2 r3 r4
    rw [show k + 1 + d = k + (d + 1) by omega] at r4
    refine ⟨M', y', ?_, r2, Grw_trans g1 r3, r4, fun x h1 h2 => by rw [r5 x h1 h2, wr_cell h1 h2], fun j hj => by rw [r6 j hj, wr_53 hj]⟩
    rw [l252, if_pos (by omega), Int.toNat_natCast, z0, if_neg (fun q => q rfl), z5, f247_eq b.2.1.2.2.1 (by omega), bs_]
    dsimp only
    rw [wr_old (by decide) (by omega), z6]
    exact r1
/-- a fold is to go on -/
def FO (M0 R0 : Mm) (N NT : Nat) (G : Nat → UGt) (Mc Mr : Mm) (φ : Nat → Nat) (τ : Nat → Ty) (κ : Nat → Nat × Nat × Nat) (Es : Nat → Int → Ty) (n m nf ne : Nat) (ω : Nat → Ty) (w s lim g z l r : Nat) : Prop := Sj M0 R0 N NT G Mc Mr φ τ κ Es n m nf ne ω w s lim ∧ Mr 53 71 = ((w + 1 : Nat) : Int) ∧ Mr 103 w = 5 ∧ Mr 104 w = (φ g : Int) ∧ Mr 53 78 = (φ z : Int) ∧ Chn Mc Mr φ m l r (Mr 105 w) ∧ (∃ a, τ g = tF a (tF (ω w) (ω w)) ∧ τ l = tL a) ∧ τ z = ω w ∧ (r : Int) ≤ lenC Mc l ∧ g < n ∧ z < n ∧ l < n
/-- a fold is begun -/
theorem call_fold {i j : Nat} (hU : ∀ u, uIn M0 N u → UG M0 R0 u (G u)) (sc : Sj M0 R0 N NT G Mc Mr φ τ κ Es n m nf ne ω w s lim) (h71 : Mr 53 71 = (w : Int)) (hi : i < n) (hj : j < n) (ht : τ i = tF (τ j) (ω w)) (hk : Mc 49 (5 * i) = 4) (hn : n ≤ 602) (hm : (m : Int) + lenC Mc j ≤ 6000) (hw : w < 2000) (h7 : Mc 49 (5 * i + 1) = 7) (h2 : Mc 49 (5 * i + 2) = 2) : ∃ (g z r : Nat) (Mr' : Mm), (r : Int) = lenC Mc j ∧ (∀ Mc' : Mm, f181 Mc (g : Int) (z : Int) (j : Int) (r : Int) = some (0, Mc') → f175 Mc (i : Int) (j : Int) = some (0, Mc')) ∧ f250 Mr (φ i : Int) (φ j : Int) = some (0, Mr') ∧ FO M0 R0 N NT G Mc Mr' φ τ κ Es n (m + r) nf ne ω w s lim g z j r ∧ Grw Mc Mr φ τ κ Es n m nf ne Mc Mr' φ τ κ Es n (m + r) nf ne ∧ Mc 49 (5 * i + 3) = (g : Int) ∧ Mc 49 (5 * i + 4) = (z : Int) ∧ g < i ∧ z < i := by
  have ck := sc.1.2.2.2.2
  have fi := (ck i hi).1
  have fj := (ck j hj).1
  obtain ⟨_, a2, k, hk8, a3, a4, a5⟩ := COK_4 (ck i hi) hk
  obtain ⟨b1, b2, b3, b4⟩ := sc.1.2.1
  obtain rfl : k = 7 := by omega
  have lj := lenC_le ck (j + 1) j (by omega) hj
  obtain ⟨r, hr⟩ : ∃ r : Nat, lenC Mc j = (r : Int) := ⟨(lenC Mc j).toNat, by omega⟩
  rcases a5 with ⟨c1, _⟩ | ⟨x, hx, c1, _⟩ | ⟨x, y, hx, hy, c0, c1, c2, c3, c4, c5, c6, c7⟩
  · omega
  · omega
  · obtain ⟨a, b, e⟩ := (PTy_k c7).2.2.2.2 rfl
    obtain ⟨e1, e⟩ := tF_inj e
    obtain ⟨e2, e⟩ := tF_inj e
    rw [e] at ht
    obtain ⟨e3, e4⟩ := tF_inj ht
    obtain ⟨M', y', r1, r2, r3, r4, r5, r6⟩ := l252_in (Mc := Mc) (φ := φ) (τ := τ) (κ := κ) (Es := Es) (n := n) (nf := nf) (ne := ne) (R0 := R0) (NT := NT) (l := j) (w := w) (a := a) (x1 := (φ x : Int)) (x2 := (φ y : Int)) (x3 := (φ j : Int)) hU hw hj r 0 j FU Mr (-1) m hr rfl hj e3.symm (by omega) (by unfold FU; omega) (by omega) sc.1 rfl h71
    rw [Nat.zero_add] at r4
    obtain ⟨b', g'⟩ := Bas_fr (Mc' := Mc) (Mr' := ptk (up M' 53 78 (φ y : Int)) w 5 (φ x : Int) y' 0 0 0) (fun _ _ _ => rfl) rfl (fun b h1 h2 => by rw [ptk_cell h1 h2, up_cell h1]) (fun j hj => by rw [ptk_53 (by omega), up_at (by omega)]) r2
    obtain ⟨t1, t2, t3, t4, t5, t6⟩ := sc.2.1
    have gg := Grw_trans r3 g'
    have X53 : ∀ j, (j = 58 ∨ j = 59 ∨ j = 60) → ptk (up M' 53 78 (φ y : Int)) w 5 (φ x : Int) y' 0 0 0 53 j = Mr 53 j := fun j hj => by rw [ptk_53 (by omega), up_at (by omega), r6 j (by omega)]
    have sc' := Sj_to (s' := s) sc b' gg ⟨t1, by rw [X53 58 (by omega)]; exact t2, t3, by rw [X53 59 (by omega)]; exact t4, t5, by rw [X53 60 (by omega)]; exact t6⟩ sc.2.2.1 (fun _ _ => rfl) (fun b k h1 h2 h3 => by rw [ptk_old (by omega) (by omega), up_cell (by omega), r5 b (by omega) (by omega)])
    refine ⟨x, y, r, _, hr.symm, fun Mc' hf => ?_, ?_, ⟨sc', ptk_71, ptk_row.1, ptk_row.2.1, by rw [ptk_53 (by decide), up_same], ?_, ⟨a, by rw [← e4]; exact e1, e3.symm⟩, by rw [e2, e4], by omega, by omega, by omega, hj⟩, gg, c3, c5, hx, hy⟩
    · unfold f175
      rw [f176_eq (by omega), bs_, hk, if_pos (by decide), f165_0 (by omega), bs_, f165_1 (by omega), bs_, h7, h2, if_pos (by omega), if_pos (by decide), show aAa 7 = ((ark 7 : Nat) : Int) from aAa_k hk8, if_neg (fun q => q rfl), f165_2 (by omega), bs_, f165_3 (by omega), bs_, c3, c5]
      unfold f177
      rw [if_neg (by decide), if_neg (by decide), if_neg (by decide), if_neg (by decide), if_neg (by decide), f180_eq (by omega), bs_, hr, hf, bs_, bs_]
    · unfold f250
      rw [if_pos (by omega), Int.toNat_natCast, a2, if_pos (by decide), c2, if_pos (by decide), if_pos (by decide), a4, c4]
      rw [show FU = (FU - 1) + 1 from rfl, l250, if_pos (by decide), if_pos (by omega), show FU - 1 = (FU - 2) + 1 from rfl, l250, f251_k, bs_, if_pos (by decide), if_neg (by decide), if_neg (by decide), if_neg (by decide), if_neg (by decide), if_neg (by decide), Int.toNat_natCast, c6]
      unfold f252
      rw [r1, bs_]
    · rw [ptk_row.2.2.1]
      exact Chn_grow r2.2.2.2.2 g' hj r y' (by omega) r4
end FOLD
