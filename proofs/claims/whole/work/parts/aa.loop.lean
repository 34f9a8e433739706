/-! Run: both loops, turn by turn. P is what the bound of the other side's cells asks for. -/
abbrev PrT := Nat → Mm → (Nat → Ty) → (Nat → Ty) → Nat → Nat → Nat → Nat → Nat → Nat → Nat → Nat → Prop
section CLO
variable (M0 R0 : Mm) (N NT : Nat) (G : Nat → UGt) (lim : Nat) (P : PrT)
def CloE1 : Prop := ∀ (Mc Mr : Mm) (φ : Nat → Nat) (τ : Nat → Ty) (κ : Nat → Nat × Nat × Nat) (Es : Nat → Int → Ty) (n m nf ne : Nat) (ω : Nat → Ty) (w s : Nat) (Mc' Mr' : Mm) (φ' : Nat → Nat) (τ' : Nat → Ty) (κ' : Nat → Nat × Nat × Nat) (Es' : Nat → Int → Ty) (n' m' nf' ne' : Nat), SE M0 R0 N NT G Mc Mr φ τ κ Es n m nf ne ω w s lim → P 0 Mc τ ω n m w s 0 0 0 0 → s < lim → SV M0 R0 N NT G Mc' Mr' φ' τ' κ' Es' n' m' nf' ne' ω w (s + 1) lim → (∀ i, i < n → τ' i = τ i) → n' + m = n + m' → Mc' 51 = Mc 51 → (∀ j, j < 5 * n → Mc' 49 j = Mc 49 j) → ((n' = n + 1 ∧ Mc' 47 14 = (n : Int) ∧ (Mc' 49 (5 * n) = 0 ∨ Mc' 49 (5 * n) = 1 ∨ (Mc' 49 (5 * n) = 3 ∧ Mc' 49 (5 * n + 3) = Mc 47 12) ∨ (Mc' 49 (5 * n) = 4 ∧ Mc' 49 (5 * n + 2) = 0))) ∨ (n' = n ∧ ∀ S : Nat → Prop, clF Mc n S → (∀ y : Nat, Mc 47 12 = (y : Int) → S y) → ∀ y : Nat, Mc' 47 14 = (y : Int) → S y)) → P 1 Mc' τ' ω n' m' w (s + 1) 0 0 0 0
def CloE2 : Prop := ∀ (Mc Mr : Mm) (φ : Nat → Nat) (τ : Nat → Ty) (κ : Nat → Nat × Nat × Nat) (Es : Nat → Int → Ty) (n m nf ne : Nat) (ω : Nat → Ty) (w s : Nat) (Mc' Mr' : Mm) (Es' : Nat → Int → Ty) (nf' ne' : Nat) (ω' : Nat → Ty) (w' : Nat), SE M0 R0 N NT G Mc Mr φ τ κ Es n m nf ne ω w s lim → P 0 Mc τ ω n m w s 0 0 0 0 → s < lim → SE M0 R0 N NT G Mc' Mr' φ τ κ Es' n m nf' ne' ω' w' (s + 1) lim → (∀ k, k ≤ w → ω' k = ω k) → Mc' 49 = Mc 49 → (∀ j, j < 5 * w → Mc' 51 j = Mc 51 j) → ((w' = w ∧ Mc' 47 12 = -1) ∨ (w' = w + 1 ∧ Mc' 51 (5 * w) = 0 ∧ Mc' 51 (5 * w + 3) = Mc 47 12 ∧ Mc' 47 12 = Mc 47 12)) → P 0 Mc' τ ω' n m w' (s + 1) 0 0 0 0
def CloV0 : Prop := ∀ (Mc Mr : Mm) (φ : Nat → Nat) (τ : Nat → Ty) (κ : Nat → Nat × Nat × Nat) (Es : Nat → Int → Ty) (n m nf ne : Nat) (ω : Nat → Ty) (w s : Nat) (Mc' Mr' : Mm) (ω' : Nat → Ty), SV M0 R0 N NT G Mc Mr φ τ κ Es n m nf ne ω (w + 1) s lim → P 1 Mc τ ω n m (w + 1) s 0 0 0 0 → Mc 51 (5 * w) = 0 → SE M0 R0 N NT G Mc' Mr' φ τ κ Es n m nf ne ω' (w + 1) s lim → (∀ k, k ≤ w → ω' k = ω k) → (∀ j, j < 5 * w → Mc' 51 j = Mc 51 j) → Mc' 51 (5 * w) = 1 → Mc' 51 (5 * w + 1) = Mc 47 14 → (∀ a, a ≠ 47 → a ≠ 51 → Mc' a = Mc a) → Mc' 47 12 = Mc 51 (5 * w + 3) → P 0 Mc' τ ω' n m (w + 1) s 0 0 0 0
def CloV1 : Prop := ∀ (Mc Mr : Mm) (φ : Nat → Nat) (τ : Nat → Ty) (κ : Nat → Nat × Nat × Nat) (Es : Nat → Int → Ty) (n m nf ne : Nat) (ω : Nat → Ty) (w s i j : Nat), SV M0 R0 N NT G Mc Mr φ τ κ Es n m nf ne ω (w + 1) s lim → P 1 Mc τ ω n m (w + 1) s 0 0 0 0 → i < n → j < n → ((Mc 51 (5 * w) = 1 ∧ Mc 51 (5 * w + 1) = (i : Int) ∧ Mc 47 14 = (j : Int)) ∨ (Mc 51 (5 * w) = 2 ∧ Mc 51 (5 * w + 1) = (j : Int) ∧ Mc 47 14 = (i : Int))) → τ i = tF (τ j) (ω w) → P 2 (up Mc 47 6 (w : Int)) τ ω n m w s i j 0 0
def CloV3 : Prop := ∀ (Mc Mr : Mm) (φ : Nat → Nat) (τ : Nat → Ty) (κ : Nat → Nat × Nat × Nat) (Es : Nat → Int → Ty) (n m nf ne : Nat) (ω : Nat → Ty) (w s g z l r : Nat), SV M0 R0 N NT G Mc Mr φ τ κ Es n m nf ne ω (w + 1) s lim → P 1 Mc τ ω n m (w + 1) s 0 0 0 0 → Mc 51 (5 * w) = 3 → Mc 51 (5 * w + 1) = (g : Int) → Mc 47 14 = (z : Int) → Mc 51 (5 * w + 2) = (l : Int) → Mc 51 (5 * w + 3) = (r : Int) → P 3 (up Mc 47 6 (w : Int)) τ ω n m w s g z l r
def CloC1 : Prop := ∀ (Mc Mr : Mm) (φ : Nat → Nat) (τ : Nat → Ty) (κ : Nat → Nat × Nat × Nat) (Es : Nat → Int → Ty) (n m nf ne : Nat) (ω : Nat → Ty) (w s i j : Nat) (Mc' Mr' : Mm) (φ' : Nat → Nat) (κ' : Nat → Nat × Nat × Nat), Sj M0 R0 N NT G Mc Mr φ τ κ Es n m nf ne ω w s lim → P 2 Mc τ ω n m w s i j 0 0 → s ≤ lim → i < n → j < n → τ i = tF (τ j) (ω w) → Mc 49 (5 * i) = 3 → SE M0 R0 N NT G Mc' Mr' φ' (fu τ n tX) κ' Es (n + 1) (m + 1) nf ne ω w s lim → Mc' 51 = Mc 51 → (∀ j, j < 5 * n → Mc' 49 j = Mc 49 j) → Mc' 49 (5 * n) = 5 → Mc' 49 (5 * n + 1) = (j : Int) → Mc' 49 (5 * n + 2) = Mc 49 (5 * i + 3) → Mc' 47 12 = (n : Int) → P 0 Mc' (fu τ n tX) ω (n + 1) (m + 1) w s 0 0 0 0
def CloC2 : Prop := ∀ (Mc Mr : Mm) (φ : Nat → Nat) (τ : Nat → Ty) (κ : Nat → Nat × Nat × Nat) (Es : Nat → Int → Ty) (n m nf ne : Nat) (ω : Nat → Ty) (w s i j : Nat) (Mc' Mr' : Mm) (φ' : Nat → Nat) (τ' : Nat → Ty) (κ' : Nat → Nat × Nat × Nat) (n' m' : Nat), Sj M0 R0 N NT G Mc Mr φ τ κ Es n m nf ne ω w s lim → P 2 Mc τ ω n m w s i j 0 0 → s ≤ lim → i < n → j < n → τ i = tF (τ j) (ω w) → Mc 49 (5 * i) = 4 → ¬ (Mc 49 (5 * i + 1) = 7 ∧ Mc 49 (5 * i + 2) = 2) → SV M0 R0 N NT G Mc' Mr' φ' τ' κ' Es n' m' nf ne ω w s lim → (∀ i, i < n → τ' i = τ i) → n' + m = n + m' → (n' = n ∨ (n' = n + 1 ∧ τ' n = ω w)) → Mc' 51 = Mc 51 → (∀ j, j < 5 * n → Mc' 49 j = Mc 49 j) → PoF Mc Mc' n n' i j → P 1 Mc' τ' ω n' m' w s 0 0 0 0
def CloC3 : Prop := ∀ (Mc Mr : Mm) (φ : Nat → Nat) (τ : Nat → Ty) (κ : Nat → Nat × Nat × Nat) (Es : Nat → Int → Ty) (n m nf ne : Nat) (ω : Nat → Ty) (w s i j g z r : Nat), Sj M0 R0 N NT G Mc Mr φ τ κ Es n m nf ne ω w s lim → P 2 Mc τ ω n m w s i j 0 0 → s ≤ lim → i < n → j < n → τ i = tF (τ j) (ω w) → Mc 49 (5 * i) = 4 → Mc 49 (5 * i + 1) = 7 → Mc 49 (5 * i + 2) = 2 → Mc 49 (5 * i + 3) = (g : Int) → Mc 49 (5 * i + 4) = (z : Int) → lenC Mc j = (r : Int) → P 3 Mc τ ω n (m + r) w s g z j r
def CloF0 : Prop := ∀ (Mc Mr : Mm) (φ : Nat → Nat) (τ : Nat → Ty) (κ : Nat → Nat × Nat × Nat) (Es : Nat → Int → Ty) (n m nf ne : Nat) (ω : Nat → Ty) (w s g z l : Nat) (Mc' Mr' : Mm), FO M0 R0 N NT G Mc Mr φ τ κ Es n m nf ne ω w s lim g z l 0 → P 3 Mc τ ω n m w s g z l 0 → SV M0 R0 N NT G Mc' Mr' φ τ κ Es n m nf ne ω w s lim → Mc' 51 = Mc 51 → Mc' 49 = Mc 49 → Mc' 47 14 = (z : Int) → P 1 Mc' τ ω n m w s 0 0 0 0
def CloF1 : Prop := ∀ (Mc Mr : Mm) (φ : Nat → Nat) (τ : Nat → Ty) (κ : Nat → Nat × Nat × Nat) (Es : Nat → Int → Ty) (n m nf ne : Nat) (ω : Nat → Ty) (w s g z l r e : Nat) (A B : Mm) (ω' : Nat → Ty), FO M0 R0 N NT G Mc Mr φ τ κ Es n m nf ne ω w s lim g z l (r + 1) → P 3 Mc τ ω n m w s g z l (r + 1) → s < lim → Sj M0 R0 N NT G A B φ τ κ Es n m nf ne ω' (w + 2) (s + 1) lim → e = elC Mc l r → τ g = tF (τ e) (ω' (w + 2)) → (∀ k, k ≤ w → ω' k = ω k) → (∀ j, j < 5 * w → A 51 j = Mc 51 j) → A 51 (5 * w) = 3 → A 51 (5 * w + 1) = (g : Int) → A 51 (5 * w + 2) = (l : Int) → A 51 (5 * w + 3) = (r : Int) → A 51 (5 * (w + 1)) = 2 → A 51 (5 * (w + 1) + 1) = (z : Int) → (∀ a, a ≠ 47 → a ≠ 51 → A a = Mc a) → P 2 A τ ω' n m (w + 2) (s + 1) g e 0 0
def CloR : Prop := ∀ (ph : Nat) (Mc : Mm) (τ ω : Nat → Ty) (n m w s a b c d : Nat), P ph Mc τ ω n m w s a b c d → m < 6000
def Clo : Prop := (CloE1 M0 R0 N NT G lim P ∧ CloE2 M0 R0 N NT G lim P) ∧ (CloV0 M0 R0 N NT G lim P ∧ CloV1 M0 R0 N NT G lim P ∧ CloV3 M0 R0 N NT G lim P) ∧ (CloC1 M0 R0 N NT G lim P ∧ CloC2 M0 R0 N NT G lim P ∧ CloC3 M0 R0 N NT G lim P) ∧ (CloF0 M0 R0 N NT G lim P ∧ CloF1 M0 R0 N NT G lim P) ∧ CloR P
end CLO
section LOOP
variable (M0 R0 : Mm) (N NT : Nat) (G : Nat → UGt) (lim g0 : Nat) (x2 : Int) (T0 : Ty) (P : PrT)
def Lp (B : Nat) (Mc : Mm) (t : Nat) (Mr : Mm) : Prop := ∃ (v : Int) (Mc' Mr' : Mm) (K : Nat), LpC (g0 : Int) x2 Mc t v Mc' ∧ LpR (g0 : Int) x2 Mr v Mr' K ∧ Fin M0 R0 Mc' Mr' ∧ K ≤ B
def LE (b : Nat) : Prop := ∀ (t : Nat) (Mc Mr : Mm) (φ : Nat → Nat) (τ : Nat → Ty) (κ : Nat → Nat × Nat × Nat) (Es : Nat → Int → Ty) (n m nf ne : Nat) (ω : Nat → Ty) (w s : Nat), 3 * lim + 2 ≤ t + b → SE M0 R0 N NT G Mc Mr φ τ κ Es n m nf ne ω w s lim → P 0 Mc τ ω n m w s 0 0 0 0 → Bd Mc n nf ne w s lim t → ω 0 = T0 → Lp M0 R0 g0 x2 (700 + 3 * b) Mc t Mr
def LV (b : Nat) : Prop := ∀ (t : Nat) (Mc Mr : Mm) (φ : Nat → Nat) (τ : Nat → Ty) (κ : Nat → Nat × Nat × Nat) (Es : Nat → Int → Ty) (n m nf ne : Nat) (ω : Nat → Ty) (w s : Nat), 3 * lim + 2 ≤ t + b → SV M0 R0 N NT G Mc Mr φ τ κ Es n m nf ne ω w s lim → P 1 Mc τ ω n m w s 0 0 0 0 → Bd Mc n nf ne w s lim t → ω 0 = T0 → Lp M0 R0 g0 x2 (700 + 3 * b) Mc t Mr
def LF (b : Nat) : Prop := ∀ (t : Nat) (Mc Mr : Mm) (φ : Nat → Nat) (τ : Nat → Ty) (κ : Nat → Nat × Nat × Nat) (Es : Nat → Int → Ty) (n m nf ne : Nat) (ω : Nat → Ty) (w s g z l r : Nat), 3 * lim + 2 ≤ t + b → FO M0 R0 N NT G Mc Mr φ τ κ Es n m nf ne ω w s lim g z l r → P 3 Mc τ ω n m w s g z l r → Bd Mc n nf ne w s lim t → ω 0 = T0 → ∃ Mc' : Mm, f181 Mc (g : Int) (z : Int) (l : Int) (r : Int) = some (0, Mc') ∧ Lp M0 R0 g0 x2 (701 + 3 * b) Mc' t Mr
def LC (b : Nat) : Prop := ∀ (t : Nat) (Mc Mr : Mm) (φ : Nat → Nat) (τ : Nat → Ty) (κ : Nat → Nat × Nat × Nat) (Es : Nat → Int → Ty) (n m nf ne : Nat) (ω : Nat → Ty) (w s i j : Nat), 3 * lim + 2 ≤ t + b → Sj M0 R0 N NT G Mc Mr φ τ κ Es n m nf ne ω w s lim → Mr 53 71 = (w : Int) → i < n → j < n → τ i = tF (τ j) (ω w) → P 2 Mc τ ω n m w s i j 0 0 → Bd Mc n nf ne w s lim t → n + 1 + crR Mc w ≤ 2 * s → (∀ a, ω w = tL a → Kc Mc n + 1 + crR Mc w ≤ s) → ω 0 = T0 → ∃ Mc' Mr' : Mm, f175 Mc (i : Int) (j : Int) = some (0, Mc') ∧ f250 Mr (φ i : Int) (φ j : Int) = some (0, Mr') ∧ Lp M0 R0 g0 x2 (701 + 3 * b) Mc' t Mr'
end LOOP
section LOOP2
variable {M0 R0 : Mm} {N NT : Nat} {G : Nat → UGt} {lim g0 : Nat} {x2 : Int} {T0 : Ty} {P : PrT}
theorem Lp_turn {Mc Mc1 Mr Mr1 : Mm} {t B C : Nat} (hB : B + 1 ≤ C) (h156 : f156 Mc = some 1) (ht : t < 1208) (hc : (Mc 47 10 = -1 ∧ f174 Mc = some (0, Mc1)) ∨ (Mc 47 10 ≠ -1 ∧ f158 Mc = some (0, Mc1))) (h71 : 0 < Mr 53 71) (h60 : Mr 53 60 = 0) (hr : f244 Mr = some (0, Mr1)) (h : Lp M0 R0 g0 x2 B Mc1 (t + 1) Mr1) : Lp M0 R0 g0 x2 C Mc t Mr := by
  obtain ⟨v, Mc', Mr', K, h1, h2, h3, h4⟩ := h
  exact ⟨v, Mc', Mr', K + 1, LpC_turn h156 ht hc h1, LpR_turn h71 h60 hr h2, h3, by omega⟩
theorem Lp_c {Mc Mc1 Mr : Mm} {t B C : Nat} (hB : B ≤ C) (h156 : f156 Mc = some 1) (ht : t < 1208) (hc : (Mc 47 10 = -1 ∧ f174 Mc = some (0, Mc1)) ∨ (Mc 47 10 ≠ -1 ∧ f158 Mc = some (0, Mc1))) (h : Lp M0 R0 g0 x2 B Mc1 (t + 1) Mr) : Lp M0 R0 g0 x2 C Mc t Mr := by
  obtain ⟨v, Mc', Mr', K, h1, h2, h3, h4⟩ := h
  exact ⟨v, Mc', Mr', K, LpC_turn h156 ht hc h1, h2, h3, by omega⟩
theorem Lp_le {Mc Mr : Mm} {t B C : Nat} (hB : B ≤ C) (h : Lp M0 R0 g0 x2 B Mc t Mr) : Lp M0 R0 g0 x2 C Mc t Mr := by
  obtain ⟨v, Mc', Mr', K, h1, h2, h3, h4⟩ := h
  exact ⟨v, Mc', Mr', K, h1, h2, h3, by omega⟩
theorem Lp_r {Mc Mr Mr1 : Mm} {t B C : Nat} (hB : B + 1 ≤ C) (h71 : 0 < Mr 53 71) (h60 : Mr 53 60 = 0) (hr : f244 Mr = some (0, Mr1)) (h : Lp M0 R0 g0 x2 B Mc t Mr1) : Lp M0 R0 g0 x2 C Mc t Mr := by
  obtain ⟨v, Mc', Mr', K, h1, h2, h3, h4⟩ := h
  exact ⟨v, Mc', Mr', K + 1, h1, LpR_turn h71 h60 hr h2, h3, by omega⟩
theorem Lp_stop {Mc Mr : Mm} {t : Nat} {y z : Int} (st : Sta M0 R0 Mc Mr) (hv : ValR M0 R0) (ht : t ≤ 1208) : Lp M0 R0 g0 x2 2 (up Mc 47 9 1) t (up (up Mr 53 71 y) 53 60 1) := by
  refine ⟨-1, _, _, 2, LpC_stop (up_same _ _ _ _) ht, LpR_stop (up_same _ _ _ _), Fin_stop ?_ hv, by omega⟩
  obtain ⟨s1, s2, s3, s4⟩ := st
  exact ⟨fun a ha => by rw [up_cell (by omega)]; exact s1 a ha, by rw [up_at (by decide)]; exact s2, fun a ha => by rw [up_cell (by omega), up_cell (by omega)]; exact s3 a ha, fun j hj => by rw [up_at (by omega), up_at (by omega)]; exact s4 j hj⟩
theorem LE_ok {b : Nat} (hrl : Rl M0 R0 N NT) (hNT : NT ≤ 190000) (hU : ∀ u, uIn M0 N u → UG M0 R0 u (G u)) (hlim : lim ≤ 300) (hv : ValR M0 R0) (cl : Clo M0 R0 N NT G lim P) (hE : LE M0 R0 N NT G lim g0 x2 T0 P b) (hV : LV M0 R0 N NT G lim g0 x2 T0 P b) : LE M0 R0 N NT G lim g0 x2 T0 P (b + 1) := by
  intro t Mc Mr φ τ κ Es n m nf ne ω w s htb se p bd h0
  obtain ⟨bd1, bd2, bd3, bd4, bd5, bd6⟩ := bd
  have wg := wtR_ge (M := Mc) w
  have hmm := cl.2.2.2.2 0 Mc τ ω n m w s 0 0 0 0 p
  have se0 := se
  obtain ⟨sc, h71, u, pp, f, η, ν, pl, rgs⟩ := se
  have rgs : Rgs G Mc Mr φ Es ω w u pp f η ν := rgs
  obtain ⟨t1, t2, t3, t4, t5, t6⟩ := sc.2.1
  obtain ⟨b1, b2, b3, b4⟩ := sc.1.2.1
  have ug := hU u pl.1
  have upl := ug.2.2.2.2.2.2 pp pl.2.1
  have e12 := upl.1
  have eC := hrl.1.2.2.2.1
  have k6 := (eC.2 _ e12).1
  have n10 : Mc 47 10 ≠ -1 := by rw [rgs.1]; omega
  have f1 : f156 Mc = some 1 := f156_1 t5 b1 b2 (by omega) (by omega) (Or.inl n10)
  by_cases hs : s < lim
  · have kk : M0 13 ((G u).2.1 pp) = 0 ∨ M0 13 ((G u).2.1 pp) = 1 ∨ M0 13 ((G u).2.1 pp) = 2 ∨ M0 13 ((G u).2.1 pp) = 3 ∨ M0 13 ((G u).2.1 pp) = 4 ∨ M0 13 ((G u).2.1 pp) = 5 ∨ M0 13 ((G u).2.1 pp) = 6 := by omega
    have cell : (M0 13 ((G u).2.1 pp) = 0 ∨ M0 13 ((G u).2.1 pp) = 1 ∨ M0 13 ((G u).2.1 pp) = 3) → Lp M0 R0 g0 x2 (700 + 3 * (b + 1)) Mc t Mr := fun hk => by
      obtain ⟨Mc', Mr', q, e1, e2, e3, e4, e5, e6, e7⟩ := ev_cell hrl.1 hU sc h71 pl rgs hs hlim (by omega) hmm (by omega) hk
      have p' := cl.1.1 _ _ _ _ _ _ _ _ _ _ _ _ _ _ _ _ _ _ _ _ _ _ _ se0 p hs e3 (fun i hi => fu_ne (by omega)) (by omega) e4 e5 (Or.inl ⟨rfl, e6, e7⟩)
      refine Lp_turn (by omega) f1 (by omega) (Or.inr ⟨n10, e1⟩) (by omega) t6 e2 (hV (t + 1) _ _ _ _ _ _ _ _ _ _ _ _ _ (by omega) e3 p' ⟨?_, by omega, by omega, ?_, by omega, ?_⟩ h0)
      · rw [crR_fr w (fun j _ => by rw [e4])]; omega
      · rw [wtR_fr w (fun j _ => by rw [e4])]; omega
      · rw [crR_fr w (fun j _ => by rw [e4]), Kc_s, if_neg (by omega), Kc_fr e5]; omega
    rcases kk with k | k | k | k | k | k | k
    · exact cell (Or.inl k)
    · exact cell (Or.inr (Or.inl k))
    · obtain ⟨Mc', Mr', e1, e2, e3, e4, e5, e6⟩ := ev_loc hrl.1 hU sc h71 pl rgs hs hlim (by omega) (by omega) (by omega) k
      have p' := cl.1.1 _ _ _ _ _ _ _ _ _ _ _ _ _ _ _ _ _ _ _ _ _ _ _ se0 p hs e3 (fun i hi => rfl) (by omega) e4 (fun j _ => by rw [e5]) (Or.inr ⟨rfl, e6⟩)
      refine Lp_turn (by omega) f1 (by omega) (Or.inr ⟨n10, e1⟩) (by omega) t6 e2 (hV (t + 1) _ _ _ _ _ _ _ _ _ _ _ _ _ (by omega) e3 p' ⟨?_, by omega, by omega, ?_, by omega, ?_⟩ h0)
      · rw [crR_fr w (fun j _ => by rw [e4])]; omega
      · rw [wtR_fr w (fun j _ => by rw [e4])]; omega
      · rw [crR_fr w (fun j _ => by rw [e4]), Kc_fr (fun j _ => by rw [e5])]; omega
    · exact cell (Or.inr (Or.inr k))
    · obtain ⟨Mc', Mr', ω', e1, e2, e3, e4, e5, e6, e7, e8, e9⟩ := ev_app hrl.1 hU sc h71 pl rgs hs hlim (by omega) k
      have p' := cl.1.2 _ _ _ _ _ _ _ _ _ _ _ _ _ _ _ _ _ _ _ _ se0 p hs e3 e6 e7 e4 (Or.inr ⟨rfl, e5, e8, e9⟩)
      refine Lp_turn (by omega) f1 (by omega) (Or.inr ⟨n10, e1⟩) (by omega) t6 e2 (hE (t + 1) _ _ _ _ _ _ _ _ _ _ _ _ _ (by omega) e3 p' ⟨?_, by omega, by omega, ?_, by omega, ?_⟩ (by rw [e6 0 (by omega)]; exact h0))
      · rw [crR_s, crR_fr w e4, e5, if_neg (by decide)]; omega
      · rw [wtR_s, wtR_fr w e4, e5, if_pos rfl]; omega
      · rw [crR_s, crR_fr w e4, e5, if_neg (by decide), Kc_fr (fun j _ => by rw [e7])]; omega
    · obtain ⟨Mc', Mr', Es', ne', e1, e2, e3, e4, e5, e6, e7⟩ := ev_use hrl hNT hU sc h71 pl rgs hs hlim (by omega) (by omega) (by omega) k
      have p' := cl.1.2 _ _ _ _ _ _ _ _ _ _ _ _ _ _ _ _ _ _ _ _ se0 p hs e3 (fun _ _ => rfl) e5 (fun j _ => by rw [e4]) (Or.inl ⟨rfl, e7⟩)
      refine Lp_turn (by omega) f1 (by omega) (Or.inr ⟨n10, e1⟩) (by omega) t6 e2 (hE (t + 1) _ _ _ _ _ _ _ _ _ _ _ _ _ (by omega) e3 p' ⟨?_, by omega, by omega, ?_, by omega, ?_⟩ h0)
      · rw [crR_fr w (fun j _ => by rw [e4])]; omega
      · rw [wtR_fr w (fun j _ => by rw [e4])]; omega
      · rw [crR_fr w (fun j _ => by rw [e4]), Kc_fr (fun j _ => by rw [e5])]; omega
    · obtain ⟨Mc', Mr', Es', e1, e2, e3, e4, e5, e7⟩ := ev_giv hrl hNT hU sc h71 pl rgs hs hlim (by omega) (by omega) (by omega) k
      have p' := cl.1.2 _ _ _ _ _ _ _ _ _ _ _ _ _ _ _ _ _ _ _ _ se0 p hs e3 (fun _ _ => rfl) e5 (fun j _ => by rw [e4]) (Or.inl ⟨rfl, e7⟩)
      refine Lp_turn (by omega) f1 (by omega) (Or.inr ⟨n10, e1⟩) (by omega) t6 e2 (hE (t + 1) _ _ _ _ _ _ _ _ _ _ _ _ _ (by omega) e3 p' ⟨?_, by omega, by omega, ?_, by omega, ?_⟩ h0)
      · rw [crR_fr w (fun j _ => by rw [e4])]; omega
      · rw [wtR_fr w (fun j _ => by rw [e4])]; omega
      · rw [crR_fr w (fun j _ => by rw [e4]), Kc_fr (fun j _ => by rw [e5])]; omega
  · obtain rfl : s = lim := by omega
    have hr := f244_ev h71 (by omega) rgs.2.2.2.2.1
    rw [f245_no (s := s) (by rw [up_at (by decide)]; exact t2) (by rw [up_at (by decide)]; exact t4), bs_] at hr
    exact Lp_turn (by omega) f1 (by omega) (Or.inr ⟨n10, f158_no t1 t3⟩) (by omega) t6 hr (Lp_stop (z := 0) sc.1.1 hv (by omega))
theorem LF_ok {b : Nat} (hlim : lim ≤ 300) (hv : ValR M0 R0) (cl : Clo M0 R0 N NT G lim P) (hV : LV M0 R0 N NT G lim g0 x2 T0 P (b + 1)) (hC : LC M0 R0 N NT G lim g0 x2 T0 P b) : LF M0 R0 N NT G lim g0 x2 T0 P (b + 1) := by
  intro t Mc Mr φ τ κ Es n m nf ne ω w s g z l r htb fo p bd h0
  have bd' := bd
  obtain ⟨bd1, bd2, bd3, bd4, bd5, bd6⟩ := bd
  have wg := wtR_ge (M := Mc) w
  have hmm := cl.2.2.2.2 3 Mc τ ω n m w s g z l r p
  have fo0 := fo
  obtain ⟨sc, h71, h103, h104, h78, ch, ⟨a, tg, tl⟩, tz, hr, hg, hz, hl⟩ := fo
  obtain ⟨t1, t2, t3, t4, t5, t6⟩ := sc.2.1
  cases r with
  | zero =>
    obtain ⟨Mc', Mr', e1, e2, e3, e4, e5, e6, e7⟩ := fold_0 fo0 (by omega)
    have p' := cl.2.2.2.1.1 _ _ _ _ _ _ _ _ _ _ _ _ _ _ _ _ _ _ fo0 p e3 e5 e6 e7
    refine ⟨Mc', e1, Lp_r (by omega) (by omega) t6 e2 (hV t _ _ _ _ _ _ _ _ _ _ _ _ _ htb e3 p' ⟨?_, bd2, bd3, ?_, bd5, ?_⟩ h0)⟩
    · rw [crR_fr w (fun j _ => by rw [e5])]; omega
    · rw [wtR_fr w (fun j _ => by rw [e5])]; omega
    · rw [crR_fr w (fun j _ => by rw [e5]), Kc_fr (fun j hj => e4.2.1 j hj)]; omega
  | succ r =>
    by_cases hs : s < lim
    · obtain ⟨Mc1, A, B, e, ω', e1, e2, e3, e4, e5, e6, e7, e8, e9, f1, f2, f3, f4, f5, f6, f7, f8, f9, i1, i2⟩ := fold_go fo0 (by omega) hs hlim (by omega) (by omega) (by omega)
      have p' := cl.2.2.2.1.2 _ _ _ _ _ _ _ _ _ _ _ _ _ _ _ _ _ _ _ _ _ fo0 p hs e6 f3 f1 f2 f4 f5 f6 f7 f8 f9 i1 i2
      have cr2 : crR A (w + 2) = crR Mc w + 1 := by
        rw [crR_s, crR_s, crR_fr w f4, f5, if_pos rfl, f9, if_neg (by decide)]
      have wt2 : wtR A (w + 2) = wtR Mc w + 2 := by
        rw [wtR_s, wtR_s, wtR_fr w f4, f5, if_neg (by decide), f9, if_neg (by decide)]
      have k2 : Kc A n = Kc Mc n := Kc_fr (fun j _ => by rw [i2 49 (by decide) (by decide)])
      obtain ⟨Mc2, Mr2, c1, c2, c3⟩ := hC (t + 1) A B φ τ κ Es n m nf ne ω' (w + 2) (s + 1) g e (by omega) e6 e8 hg e9 f1 p' ⟨by omega, by omega, by omega, by omega, by omega, by omega⟩ (by omega) (fun a' ha => by
        have q := (tF_inj (f1.symm.trans tg)).2
        rw [q] at ha
        cases ha) (by rw [f2 0 (by omega)]; exact h0)
      rw [c1, bs_] at e4
      rw [c2, bs_] at e5
      exact ⟨Mc1, e1, Lp_turn (by omega) e2 (by omega) (Or.inl ⟨e3, e4⟩) (by omega) t6 e5 c3⟩
    · obtain ⟨e1, e2⟩ := fold_no fo0 (by omega) (by omega)
      exact ⟨_, e1, Lp_r (by omega) (by omega) t6 e2 (Lp_stop (z := 0) sc.1.1 hv (by omega))⟩
theorem LC_ok {b : Nat} (hU : ∀ u, uIn M0 N u → UG M0 R0 u (G u)) (hlim : lim ≤ 300) (cl : Clo M0 R0 N NT G lim P) (hE : LE M0 R0 N NT G lim g0 x2 T0 P b) (hV : LV M0 R0 N NT G lim g0 x2 T0 P b) (hF : LF M0 R0 N NT G lim g0 x2 T0 P b) : LC M0 R0 N NT G lim g0 x2 T0 P b := by
  intro t Mc Mr φ τ κ Es n m nf ne ω w s i j htb sc h71 hi hj ht p bd bdn bdk h0
  have bd' := bd
  obtain ⟨bd1, bd2, bd3, bd4, bd5, bd6⟩ := bd
  have wg := wtR_ge (M := Mc) w
  have hmm := cl.2.2.2.2 2 Mc τ ω n m w s i j 0 0 p
  have ck := sc.1.2.2.2.2
  rcases COK_fun (ck i hi) ht with k | k
  · obtain ⟨Mc', Mr', q, e1, e2, e3, e4, e5, e6, e7, e8, e9⟩ := call_clo hU sc h71 hi hj ht k (by omega) hmm (by omega)
    have p' := cl.2.2.1.1 _ _ _ _ _ _ _ _ _ _ _ _ _ _ _ _ _ _ _ sc p bd5 hi hj ht k e3 e5 e4.2.1 e6 e7 e8 e9
    refine ⟨Mc', Mr', e1, e2, Lp_le (by omega) (hE t _ _ _ _ _ _ _ _ _ _ _ _ _ htb e3 p' ⟨?_, bd2, bd3, ?_, bd5, ?_⟩ h0)⟩
    · rw [crR_fr w (fun j _ => by rw [e5])]; omega
    · rw [wtR_fr w (fun j _ => by rw [e5])]; omega
    · rw [crR_fr w (fun j _ => by rw [e5]), Kc_s, e6, if_neg (by decide), Kc_fr e4.2.1]; omega
  · by_cases k7 : Mc 49 (5 * i + 1) = 7 ∧ Mc 49 (5 * i + 2) = 2
    · have lj := lenC_le ck (j + 1) j (by omega) hj
      obtain ⟨r, hr⟩ : ∃ r : Nat, lenC Mc j = (r : Int) := ⟨(lenC Mc j).toNat, by omega⟩
      obtain ⟨_, _, kk, hk8, a3, _, a5⟩ := COK_4 (ck i hi) k
      have gz : ∃ g z : Nat, Mc 49 (5 * i + 3) = (g : Int) ∧ Mc 49 (5 * i + 4) = (z : Int) := by
        rcases a5 with ⟨c1, _⟩ | ⟨x, hx, c1, _⟩ | ⟨x, y, hx, hy, c0, c1, c2, c3, c4, c5, c6, c7⟩
        · omega
        · omega
        · exact ⟨x, y, c3, c5⟩
      obtain ⟨g, z, hg, hz⟩ := gz
      have p' := cl.2.2.1.2.2 _ _ _ _ _ _ _ _ _ _ _ _ _ _ _ _ _ _ sc p bd5 hi hj ht k k7.1 k7.2 hg hz hr
      have hm2 := cl.2.2.2.2 3 Mc τ ω n (m + r) w s g z j r p'
      obtain ⟨g', z', r', Mr', c1, c2, c3, c4, c5, c6, c7, c8, c9⟩ := call_fold hU sc h71 hi hj ht k (by omega) (by omega) (by omega) k7.1 k7.2
      obtain rfl : r' = r := by omega
      obtain rfl : g' = g := by omega
      obtain rfl : z' = z := by omega
      obtain ⟨Mc', e1, e2⟩ := hF t _ _ _ _ _ _ _ _ _ _ _ _ _ _ _ _ _ htb c4 p' bd' h0
      exact ⟨Mc', Mr', c2 Mc' e1, c3, e2⟩
    · obtain ⟨Mc', Mr', φ', τ', κ', n', m', e1, e2, e3, e4, e5, e6, e7, e8⟩ := call_pri hU sc h71 hi hj ht k (by omega) hmm k7
      have p' := cl.2.2.1.2.1 _ _ _ _ _ _ _ _ _ _ _ _ _ _ _ _ _ _ _ _ _ _ sc p bd5 hi hj ht k k7 e3 (fun i hi => (e4.2.2.2.2.1 i hi).2.1) e6 e7 e5 e4.2.1 e8
      have kn : Kc Mc' n' + crR Mc w ≤ s := by
        rcases e7 with e | ⟨e, te⟩
        · rw [e, Kc_fr e4.2.1]; exact bd6
        · rw [e, Kc_s, Kc_fr e4.2.1]
          by_cases c2 : Mc' 49 (5 * n) = 2
          · obtain ⟨_, _, x, y, _, _, _, _, _, _, tt, _⟩ := COK_2 (e3.1.1.2.2.2.2 n (by omega)) c2
            have := bdk _ (te.symm.trans tt)
            rw [if_pos c2]
            omega
          · rw [if_neg c2]
            exact bd6
      refine ⟨Mc', Mr', e1, e2, Lp_le (by omega) (hV t _ _ _ _ _ _ _ _ _ _ _ _ _ htb e3 p' ⟨?_, bd2, bd3, ?_, bd5, ?_⟩ h0)⟩
      · rw [crR_fr w (fun j _ => by rw [e5])]; omega
      · rw [wtR_fr w (fun j _ => by rw [e5])]; omega
      · rw [crR_fr w (fun j _ => by rw [e5])]; exact kn
theorem LV_ok {b : Nat} (hU : ∀ u, uIn M0 N u → UG M0 R0 u (G u)) (hlim : lim ≤ 300) (hg : g0 < 20) (hty : (R0 68 g0 ≤ 1 ∧ (T0 = tI ∨ T0 = tB)) ∨ (¬ R0 68 g0 ≤ 1 ∧ (T0 = tL tI ∨ T0 = tL tB))) (cl : Clo M0 R0 N NT G lim P) (hE : LE M0 R0 N NT G lim g0 x2 T0 P b) (hC : LC M0 R0 N NT G lim g0 x2 T0 P b) (hF : LF M0 R0 N NT G lim g0 x2 T0 P b) : LV M0 R0 N NT G lim g0 x2 T0 P (b + 1) := by
  intro t Mc Mr φ τ κ Es n m nf ne ω w s htb sv p bd h0
  obtain ⟨bd1, bd2, bd3, bd4, bd5, bd6⟩ := bd
  have wg := wtR_ge (M := Mc) w
  have hmm := cl.2.2.2.2 1 Mc τ ω n m w s 0 0 0 0 p
  have h10 := sv.2.2.1
  have h71 := sv.2.1
  obtain ⟨t1, t2, t3, t4, t5, t6⟩ := sv.1.2.1
  obtain ⟨b1, b2, b3, b4⟩ := sv.1.1.2.1
  cases w with
  | zero =>
    obtain ⟨v, Mc', Mr', K, h1, h2, h3, h4⟩ := done_ok (x2 := x2) hU sv (by omega) (by omega) (by omega) (by omega) (show t ≤ 1208 by omega) hg (by rw [h0]; exact hty)
    exact ⟨v, Mc', Mr', K, h1, h2, h3, by omega⟩
  | succ w =>
    have h6 := sv.1.2.2.1
    have wg2 := wtR_ge (M := Mc) w
    have f1 : f156 Mc = some 1 := f156_1 t5 b1 b2 (by omega) (by omega) (Or.inr (by omega))
    rw [crR_s] at bd1 bd6
    rw [wtR_s] at bd4
    have kk : Mc 51 (5 * w) = 0 ∨ (Mc 51 (5 * w) = 1 ∨ Mc 51 (5 * w) = 2) ∨ Mc 51 (5 * w) = 3 := by
      rcases sv.1.2.2.2 w (by omega) with ⟨a, _⟩ | ⟨a, _⟩ | ⟨a, _⟩ | ⟨a, _⟩
      · exact Or.inl a
      · exact Or.inr (Or.inl (Or.inl a))
      · exact Or.inr (Or.inl (Or.inr a))
      · exact Or.inr (Or.inr a)
    rcases kk with k | k | k
    · rw [k, if_neg (by decide)] at bd1 bd6
      rw [k, if_pos rfl] at bd4
      obtain ⟨Mc', Mr', ω', e1, e2, e3, e4, e5, e6, e7, e8, e9⟩ := turn_oth sv (by omega) k
      have p' := cl.2.1.1 _ _ _ _ _ _ _ _ _ _ _ _ _ _ _ _ sv p k e3 e7 e4 e5 e6 e8 e9
      refine Lp_turn (by omega) f1 (by omega) (Or.inl ⟨h10, e1⟩) (by omega) t6 e2 (hE (t + 1) _ _ _ _ _ _ _ _ _ _ _ _ _ (by omega) e3 p' ⟨?_, bd2, bd3, ?_, bd5, ?_⟩ (by rw [e7 0 (by omega)]; exact h0))
      · rw [crR_s, crR_fr w e4, e5, if_neg (by decide)]; omega
      · rw [wtR_s, wtR_fr w e4, e5, if_neg (by decide)]; omega
      · rw [crR_s, crR_fr w e4, e5, if_neg (by decide), Kc_fr (fun j _ => by rw [e8 49 (by decide) (by decide)])]; omega
    · rw [if_neg (by omega)] at bd1 bd6 bd4
      obtain ⟨i, j, hi, hj, hij, e1, e2, e3, e4⟩ := turn_call sv (by omega) k
      have p' := cl.2.1.2.1 _ _ _ _ _ _ _ _ _ _ _ _ _ _ _ sv p hi hj hij e4
      have c0 : crR (up Mc 47 6 (w : Int)) w = crR Mc w := crR_fr w (fun j _ => by rw [up_cell (by decide)])
      have c1 : wtR (up Mc 47 6 (w : Int)) w = wtR Mc w := wtR_fr w (fun j _ => by rw [up_cell (by decide)])
      have c2 : Kc (up Mc 47 6 (w : Int)) n = Kc Mc n := Kc_fr (fun j _ => by rw [up_cell (by decide)])
      obtain ⟨Mc', Mr', d1, d2, d3⟩ := hC (t + 1) _ _ _ _ _ _ _ _ _ _ _ _ _ _ _ (by omega) e3 (up_same _ _ _ _) hi hj e4 p' ⟨by omega, bd2, bd3, by omega, bd5, by omega⟩ (by omega) (fun _ _ => by omega) h0
      rw [d1, bs_] at e1
      rw [d2, bs_] at e2
      exact Lp_turn (by omega) f1 (by omega) (Or.inl ⟨h10, e1⟩) (by omega) t6 e2 d3
    · rw [if_pos k] at bd1 bd6
      rw [if_neg (by omega)] at bd4
      obtain ⟨g, z, l, r, a1, a2, a3, a4, e1, e2⟩ := turn_fold sv (by omega) k
      have p' := cl.2.1.2.2 _ _ _ _ _ _ _ _ _ _ _ _ _ _ _ _ _ sv p k a1 a2 a3 a4
      have c0 : crR (up Mc 47 6 (w : Int)) w = crR Mc w := crR_fr w (fun j _ => by rw [up_cell (by decide)])
      have c1 : wtR (up Mc 47 6 (w : Int)) w = wtR Mc w := wtR_fr w (fun j _ => by rw [up_cell (by decide)])
      have c2 : Kc (up Mc 47 6 (w : Int)) n = Kc Mc n := Kc_fr (fun j _ => by rw [up_cell (by decide)])
      obtain ⟨Mc', d1, d2⟩ := hF (t + 1) _ _ _ _ _ _ _ _ _ _ _ _ _ _ _ _ _ (by omega) e2 p' ⟨by omega, bd2, bd3, by omega, bd5, by omega⟩ h0
      rw [d1, bs_] at e1
      exact Lp_c (by omega) f1 (by omega) (Or.inl ⟨h10, e1⟩) d2
/-- both loops end alike -/
theorem loop_ok (hrl : Rl M0 R0 N NT) (hNT : NT ≤ 190000) (hU : ∀ u, uIn M0 N u → UG M0 R0 u (G u)) (hlim : lim ≤ 300) (hv : ValR M0 R0) (hg : g0 < 20) (hty : (R0 68 g0 ≤ 1 ∧ (T0 = tI ∨ T0 = tB)) ∨ (¬ R0 68 g0 ≤ 1 ∧ (T0 = tL tI ∨ T0 = tL tB))) (cl : Clo M0 R0 N NT G lim P) : ∀ b : Nat, LE M0 R0 N NT G lim g0 x2 T0 P b ∧ LV M0 R0 N NT G lim g0 x2 T0 P b ∧ LF M0 R0 N NT G lim g0 x2 T0 P b ∧ LC M0 R0 N NT G lim g0 x2 T0 P b := by
  intro b
  induction b with
  | zero =>
    refine ⟨?_, ?_, ?_, ?_⟩
    · intro t Mc Mr φ τ κ Es n m nf ne ω w s htb se p bd h0
      have := bd.2.2.2.1
      have := bd.2.2.2.2.1
      omega
    · intro t Mc Mr φ τ κ Es n m nf ne ω w s htb se p bd h0
      have := bd.2.2.2.1
      have := bd.2.2.2.2.1
      omega
    · intro t Mc Mr φ τ κ Es n m nf ne ω w s g z l r htb fo p bd h0
      have := bd.2.2.2.1
      have := bd.2.2.2.2.1
      omega
    · intro t Mc Mr φ τ κ Es n m nf ne ω w s i j htb sc h71 hi hj ht p bd bdn bdk h0
      have := bd.2.2.2.1
      have := bd.2.2.2.2.1
      omega
  | succ b ih =>
    obtain ⟨hE, hV, hF, hC⟩ := ih
    have e := LE_ok hrl hNT hU hlim hv cl hE hV
    have v := LV_ok hU hlim hg hty cl hE hC hF
    have f := LF_ok hlim hv cl v hC
    exact ⟨e, v, f, LC_ok hU hlim cl e v f⟩
end LOOP2
