/-! Run: the units' tables, cells, rows; what holds of both machines. -/
abbrev UGt := Nat × (Nat → Nat) × (Nat → Int) × (Nat → Ty) × (Nat → Ty) × (Nat → Nat → Ty)
def uA (M : Mm) (u : Nat) : Nat → Int → Prop := if u < 20 then Asm M u else Mth (M 10 ((u - 20) / 3))
def uE (M : Mm) (u : Nat) : Nat := if u < 20 then (M 18 u).toNat else (M 11 (u - 20)).toNat
def uT (M : Mm) (u : Nat) : Ty := if u < 20 then dt M (M 19 u).toNat else sub (fun _ => shT ((u - 20) / 3 % 3)) (dt M (M 8 (3 * ((u - 20) / 9) + (u - 20) % 3)).toNat)
def uIn (M : Mm) (N u : Nat) : Prop := (u < 20 ∧ (u : Int) < M 17 4) ∨ (20 ≤ u ∧ u < 74 ∧ (u - 20) / 9 < N ∧ M 9 ((u - 20) / 3) = 1 ∧ (((u - 20) % 3 : Nat) : Int) < M 7 ((u - 20) / 9))
def UG (Mc Mr : Mm) (u : Nat) (g : UGt) : Prop := (1 ≤ g.1 ∧ g.1 ≤ 60) ∧ ((uE Mc u : Nat) : Int) < Mc 12 4 ∧ Mc 16 (uE Mc u) = (g.1 : Int) ∧ g.2.1 0 = uE Mc u ∧ g.2.2.1 0 = -1 ∧ g.2.2.2.1 0 = uT Mc u ∧ ∀ p, p < g.1 → UPl Mc Mc Mr u (uA Mc u) g.1 g.2.1 g.2.2.1 g.2.2.2.1 g.2.2.2.2.1 g.2.2.2.2.2 p
theorem UG_of {Mc Mr : Mm} {u : Nat} (h : UOK Mc Mr u (uE Mc u) (uA Mc u) (uT Mc u)) : ∃ g : UGt, UG Mc Mr u g := by
  obtain ⟨np, X, L, P, R, F, a1, a2, a3, a4, a5, a6, a7⟩ := h
  exact ⟨(np, X, L, P, R, F), a3, a1, a2, a4, a5, a6, a7⟩
theorem UG_all {Mc Mr : Mm} {N NT : Nat} (h : Rl Mc Mr N NT) (u : Nat) : ∃ g : UGt, uIn Mc N u → UG Mc Mr u g := by
  by_cases k : uIn Mc N u
  · have e : ∃ g : UGt, UG Mc Mr u g := by
      obtain ⟨st, ct, sp, tt, df, mt, vr⟩ := h
      refine UG_of ?_
      rcases k with ⟨k1, k2⟩ | ⟨k1, k2, k3, k4, k5⟩
      · obtain ⟨_, e, e1, e2⟩ := df u k2
        unfold uE uA uT
        rw [if_pos k1, if_pos k1, if_pos k1, e1, Int.toNat_natCast]
        exact e2
      · have c1 : 3 * ((u - 20) / 9) + (u - 20) / 3 % 3 = (u - 20) / 3 := by omega
        have c2 : 9 * ((u - 20) / 9) + 3 * ((u - 20) / 3 % 3) + (u - 20) % 3 = u - 20 := by omega
        obtain ⟨_, e, e1, e2⟩ := mt ((u - 20) / 9) ((u - 20) / 3 % 3) ((u - 20) % 3) k3 (by omega) (by rw [c1]; exact k4) k5
        rw [c2] at e1
        rw [c1, c2, show 20 + (u - 20) = u by omega] at e2
        unfold uE uA uT
        rw [if_neg (by omega), if_neg (by omega), if_neg (by omega), e1, Int.toNat_natCast]
        exact e2
    obtain ⟨g, hg⟩ := e
    exact ⟨g, fun _ => hg⟩
  · exact ⟨(0, fun _ => 0, fun _ => 0, fun _ => tI, fun _ => tI, fun _ _ => tI), fun q => absurd q k⟩
theorem UG_ch {Mc Mr : Mm} {N NT : Nat} (h : Rl Mc Mr N NT) : ∃ G : Nat → UGt, ∀ u, uIn Mc N u → UG Mc Mr u (G u) := ⟨fun u => Classical.choose (UG_all h u), fun u => Classical.choose_spec (UG_all h u)⟩
/-- an environment of the class, there -/
def pe (φ : Nat → Nat) (ν : Int) : Int := if ν < 0 then -1 else (φ ν.toNat : Int)
/-- how long a list is -/
def lenC (M : Mm) (i : Nat) : Int := if M 49 (5 * i) = 2 then M 49 (5 * i + 3) else 0
/-- the k-th rest, the k-th element -/
def tlC (M : Mm) : Nat → Nat → Nat
  | 0, l => l
  | k + 1, l => tlC M k (M 49 (5 * l + 2)).toNat
def elC (M : Mm) (l k : Nat) : Nat := (M 49 (5 * tlC M k l + 1)).toNat
section STATE
variable (M0 : Mm) (N : Nat) (G : Nat → UGt)
/-- what the frame f keeps is right for the unit u -/
def FRm (Mc : Mm) (Es : Nat → Int → Ty) (u f η : Nat) : Prop := ∀ c v, uA M0 u c v → c < N ∧ ∃ w : Nat, w < 8 ∧ v = (w : Int) ∧ cf M0 (Es η v) c (Mc 50 (8 * f + w))
def EnK (Mc : Mm) (κ : Nat → Nat × Nat × Nat) (n u : Nat) (q ν : Int) (η : Nat) : Prop := (q = -1 ∧ ν = -1) ∨ ∃ l i : Nat, q = (l : Int) ∧ ν = (i : Int) ∧ i < n ∧ Mc 49 (5 * i) = 5 ∧ κ i = (u, l, η)
/-- a place that may be evaluated -/
def PL (Mc : Mm) (κ : Nat → Nat × Nat × Nat) (Es : Nat → Int → Ty) (n nf ne u p f η : Nat) (ν : Int) : Prop := uIn M0 N u ∧ p < (G u).1 ∧ f < nf ∧ η < ne ∧ FRm M0 N Mc Es u f η ∧ EnK Mc κ n u ((G u).2.2.1 p) ν η
/-- cells -/
def C0 (Mc Mr : Mm) (φ : Nat → Nat) (τ : Nat → Ty) (i : Nat) : Prop := Mc 49 (5 * i) = 0 ∧ ((τ i = tI ∧ Mr 95 (φ i) = 0) ∨ (τ i = tB ∧ Mr 95 (φ i) = 1)) ∧ Mr 96 (φ i) = Mc 49 (5 * i + 1)
def C1 (Mc Mr : Mm) (φ : Nat → Nat) (τ : Nat → Ty) (i : Nat) : Prop := Mc 49 (5 * i) = 1 ∧ Mr 95 (φ i) = 2 ∧ ∃ a, τ i = tL a
def C2 (Mc Mr : Mm) (φ : Nat → Nat) (τ : Nat → Ty) (i : Nat) : Prop := Mc 49 (5 * i) = 2 ∧ Mr 95 (φ i) = 3 ∧ ∃ h t : Nat, h < i ∧ t < i ∧ Mc 49 (5 * i + 1) = (h : Int) ∧ Mc 49 (5 * i + 2) = (t : Int) ∧ Mr 96 (φ i) = (φ h : Int) ∧ Mr 97 (φ i) = (φ t : Int) ∧ τ i = tL (τ h) ∧ τ t = τ i ∧ Mc 49 (5 * i + 3) = lenC Mc t + 1
def C3 (Mc Mr : Mm) (φ : Nat → Nat) (τ : Nat → Ty) (κ : Nat → Nat × Nat × Nat) (Es : Nat → Int → Ty) (nf ne i : Nat) : Prop := Mc 49 (5 * i) = 3 ∧ Mr 95 (φ i) = 5 ∧ ∃ (u p f η : Nat) (ν : Int), PL M0 N G Mc κ Es i nf ne u p f η ν ∧ M0 13 ((G u).2.1 p) = 3 ∧ Mc 49 (5 * i + 1) = M0 14 ((G u).2.1 p) ∧ Mc 49 (5 * i + 2) = ((60 * u + p + 1 : Nat) : Int) ∧ Mc 49 (5 * i + 3) = ν ∧ Mc 49 (5 * i + 4) = (f : Int) ∧ Mr 96 (φ i) = (u : Int) ∧ Mr 97 (φ i) = M0 14 ((G u).2.1 p) ∧ Mr 98 (φ i) = ((p + 1 : Nat) : Int) ∧ Mr 99 (φ i) = pe φ ν ∧ Mr 100 (φ i) = (η : Int) ∧ τ i = sub (Es η) ((G u).2.2.2.1 p)
def C4 (Mc Mr : Mm) (φ : Nat → Nat) (τ : Nat → Ty) (i : Nat) : Prop := Mc 49 (5 * i) = 4 ∧ Mr 95 (φ i) = 4 ∧ ∃ k : Nat, (2 ≤ k ∧ k < 8 ∧ k ≠ 5) ∧ Mc 49 (5 * i + 1) = (k : Int) ∧ Mr 96 (φ i) = (k : Int) ∧
  ((Mc 49 (5 * i + 2) = 0 ∧ Mr 97 (φ i) = 0 ∧ PTy k (τ i)) ∨
   (∃ x : Nat, x < i ∧ Mc 49 (5 * i + 2) = 1 ∧ Mr 97 (φ i) = 1 ∧ Mc 49 (5 * i + 3) = (x : Int) ∧ Mr 98 (φ i) = (φ x : Int) ∧ PTy k (tF (τ x) (τ i))) ∨
   (∃ x y : Nat, x < i ∧ y < i ∧ (k = 4 ∨ k = 7) ∧ Mc 49 (5 * i + 2) = 2 ∧ Mr 97 (φ i) = 2 ∧ Mc 49 (5 * i + 3) = (x : Int) ∧ Mr 98 (φ i) = (φ x : Int) ∧ Mc 49 (5 * i + 4) = (y : Int) ∧ Mr 99 (φ i) = (φ y : Int) ∧ PTy k (tF (τ x) (tF (τ y) (τ i)))))
def C5 (Mc Mr : Mm) (φ : Nat → Nat) (τ : Nat → Ty) (κ : Nat → Nat × Nat × Nat) (Es : Nat → Int → Ty) (ne i : Nat) : Prop := Mc 49 (5 * i) = 5 ∧ τ i = tX ∧ ∃ u l η j : Nat, κ i = (u, l, η) ∧ η < ne ∧ j < i ∧ Mc 49 (5 * i + 1) = (j : Int) ∧ Mr 96 (φ i) = (φ j : Int) ∧ τ j = sub (Es η) ((G u).2.2.2.2.1 l) ∧ Mr 97 (φ i) = pe φ (Mc 49 (5 * i + 2)) ∧ EnK Mc κ i u ((G u).2.2.1 l) (Mc 49 (5 * i + 2)) η
def COK (Mc Mr : Mm) (φ : Nat → Nat) (τ : Nat → Ty) (κ : Nat → Nat × Nat × Nat) (Es : Nat → Int → Ty) (m nf ne i : Nat) : Prop := φ i < m ∧ (C0 Mc Mr φ τ i ∨ C1 Mc Mr φ τ i ∨ C2 Mc Mr φ τ i ∨ C3 M0 N G Mc Mr φ τ κ Es nf ne i ∨ C4 Mc Mr φ τ i ∨ C5 G Mc Mr φ τ κ Es ne i)
/-- what is left of a list, as the other side keeps it -/
def Chn (Mc Mr : Mm) (φ : Nat → Nat) (m l : Nat) : Nat → Int → Prop
  | 0, y => y = -1
  | r + 1, y => ∃ z : Nat, y = (z : Int) ∧ z < m ∧ Mr 96 z = (φ (elC Mc l r) : Int) ∧ Chn Mc Mr φ m l r (Mr 97 z)
/-- rows of what waits -/
def WOK (Mc Mr : Mm) (φ : Nat → Nat) (τ : Nat → Ty) (κ : Nat → Nat × Nat × Nat) (Es : Nat → Int → Ty) (n m nf ne : Nat) (ω : Nat → Ty) (k : Nat) : Prop :=
  (Mc 51 (5 * k) = 0 ∧ Mr 103 k = 1 ∧ ∃ (u p f η : Nat) (ν : Int), PL M0 N G Mc κ Es n nf ne u p f η ν ∧ Mc 51 (5 * k + 1) = ((G u).2.1 p : Int) ∧ Mc 51 (5 * k + 2) = ((60 * u + p : Nat) : Int) ∧ Mc 51 (5 * k + 3) = ν ∧ Mc 51 (5 * k + 4) = (f : Int) ∧ Mr 104 k = (u : Int) ∧ Mr 105 k = ((G u).2.1 p : Int) ∧ Mr 106 k = (p : Int) ∧ Mr 107 k = pe φ ν ∧ Mr 108 k = (η : Int) ∧ ω (k + 1) = tF (sub (Es η) ((G u).2.2.2.1 p)) (ω k)) ∨
  (Mc 51 (5 * k) = 1 ∧ Mr 103 k = 2 ∧ ∃ i : Nat, i < n ∧ Mc 51 (5 * k + 1) = (i : Int) ∧ Mr 104 k = (φ i : Int) ∧ τ i = tF (ω (k + 1)) (ω k)) ∨
  (Mc 51 (5 * k) = 2 ∧ Mr 103 k = 4 ∧ ∃ i : Nat, i < n ∧ Mc 51 (5 * k + 1) = (i : Int) ∧ Mr 104 k = (φ i : Int) ∧ ω (k + 1) = tF (τ i) (ω k)) ∨
  (Mc 51 (5 * k) = 3 ∧ Mr 103 k = 5 ∧ ∃ i l r : Nat, i < n ∧ l < n ∧ Mc 51 (5 * k + 1) = (i : Int) ∧ Mc 51 (5 * k + 2) = (l : Int) ∧ Mc 51 (5 * k + 3) = (r : Int) ∧ Mr 104 k = (φ i : Int) ∧ Chn Mc Mr φ m l r (Mr 105 k) ∧ (∃ a, τ i = tF a (tF (ω k) (ω k)) ∧ τ l = tL a) ∧ ω (k + 1) = ω k ∧ (r : Int) ≤ lenC Mc l)
end STATE
