/-! Units: what is known of a definition or a method that can be run. -/
def arl (L : Nat → Int) : Nat → Int → Int
  | 0, a => a
  | k + 1, a => if a = -1 then -1 else arl L k (L a.toNat)
theorem arn_arl (M : Mm) : ∀ (k : Nat) (a : Int), arn M k a = arl (M 35) k a := by
  intro k
  induction k with
  | zero => intro a; rfl
  | succ k ih => intro a; rw [arn, arl, ih]
/-- a type's variables are less than 8 -/
def vl8 : Ty → Prop
  | .nest v _ => v < 8
  | .group a _ => vl8 a
  | .append a b => vl8 a ∧ vl8 b
  | _ => True
theorem vl8_T {M : Mm} {n : Nat} {ρ : Nat → Nat} {T : Nat → Ty} (tg : TyG M n ρ T) (F : Fg M n ρ) (h : ∀ y, y < n → M 31 y < 8) : ∀ (τ : Ty) (x : Nat), x < n → T x = τ → vl8 τ
  | .nest v w, x, hx, e => by
    have rx := F.2.2 x hx
    have gw := F.1.2.2.2 (ρ x) rx.1
    obtain ⟨t0, t1, t2, t3, t4, t5⟩ := tg.2 x hx
    have z : M 26 (ρ x) = 0 ∨ M 26 (ρ x) = 1 ∨ M 26 (ρ x) = 2 ∨ M 26 (ρ x) = 3 ∨ M 26 (ρ x) = 4 ∨ M 26 (ρ x) = 5 := by have := gw.1; omega
    show v < 8
    rcases z with z | z | z | z | z | z
    · have q : Std.Format.nil = Std.Format.nest v w := (t0 z).symm.trans e
      cases q
    · have q : Std.Format.line = Std.Format.nest v w := (t1 z).symm.trans e
      cases q
    · have q : Std.Format.nest (lb M (ρ x)) .nil = Std.Format.nest v w := (t2 z).symm.trans e
      have q2 : lb M (ρ x) = v := by injection q
      have := h _ rx.1
      unfold lb at q2
      split at q2 <;> omega
    · have q : Std.Format.group (T (M 27 (ρ x)).toNat) .allOrNone = Std.Format.nest v w := (t3 z).symm.trans e
      cases q
    · have q : Std.Format.append (T (M 27 (ρ x)).toNat) (T (M 28 (ρ x)).toNat) = Std.Format.nest v w := (t4 z).symm.trans e
      cases q
    · have q : Std.Format.nest 0 .nil = Std.Format.nest v w := (t5 z).symm.trans e
      have q2 : (0 : Int) = v := by injection q
      omega
  | .group a w, x, hx, e => by
    have rx := F.2.2 x hx
    have gw := F.1.2.2.2 (ρ x) rx.1
    obtain ⟨t0, t1, t2, t3, t4, t5⟩ := tg.2 x hx
    have z : M 26 (ρ x) = 0 ∨ M 26 (ρ x) = 1 ∨ M 26 (ρ x) = 2 ∨ M 26 (ρ x) = 3 ∨ M 26 (ρ x) = 4 ∨ M 26 (ρ x) = 5 := by have := gw.1; omega
    show vl8 a
    rcases z with z | z | z | z | z | z
    · have q : Std.Format.nil = Std.Format.group a w := (t0 z).symm.trans e
      cases q
    · have q : Std.Format.line = Std.Format.group a w := (t1 z).symm.trans e
      cases q
    · have q : Std.Format.nest (lb M (ρ x)) .nil = Std.Format.group a w := (t2 z).symm.trans e
      cases q
    · have q : Std.Format.group (T (M 27 (ρ x)).toNat) .allOrNone = Std.Format.group a w := (t3 z).symm.trans e
      have q2 : T (M 27 (ρ x)).toNat = a := by injection q
      have := gw.2.1 (by omega)
      exact vl8_T tg F h a (M 27 (ρ x)).toNat (by omega) q2
    · have q : Std.Format.append (T (M 27 (ρ x)).toNat) (T (M 28 (ρ x)).toNat) = Std.Format.group a w := (t4 z).symm.trans e
      cases q
    · have q : Std.Format.nest 0 .nil = Std.Format.group a w := (t5 z).symm.trans e
      cases q
  | .append a b, x, hx, e => by
    have rx := F.2.2 x hx
    have gw := F.1.2.2.2 (ρ x) rx.1
    obtain ⟨t0, t1, t2, t3, t4, t5⟩ := tg.2 x hx
    have z : M 26 (ρ x) = 0 ∨ M 26 (ρ x) = 1 ∨ M 26 (ρ x) = 2 ∨ M 26 (ρ x) = 3 ∨ M 26 (ρ x) = 4 ∨ M 26 (ρ x) = 5 := by have := gw.1; omega
    show vl8 a ∧ vl8 b
    rcases z with z | z | z | z | z | z
    · have q : Std.Format.nil = Std.Format.append a b := (t0 z).symm.trans e
      cases q
    · have q : Std.Format.line = Std.Format.append a b := (t1 z).symm.trans e
      cases q
    · have q : Std.Format.nest (lb M (ρ x)) .nil = Std.Format.append a b := (t2 z).symm.trans e
      cases q
    · have q : Std.Format.group (T (M 27 (ρ x)).toNat) .allOrNone = Std.Format.append a b := (t3 z).symm.trans e
      cases q
    · have q : Std.Format.append (T (M 27 (ρ x)).toNat) (T (M 28 (ρ x)).toNat) = Std.Format.append a b := (t4 z).symm.trans e
      have q2 : T (M 27 (ρ x)).toNat = a := by injection q
      have q3 : T (M 28 (ρ x)).toNat = b := by injection q
      have := gw.2.1 (by omega)
      have := gw.2.2.2.1 z
      exact ⟨vl8_T tg F h a (M 27 (ρ x)).toNat (by omega) q2, vl8_T tg F h b (M 28 (ρ x)).toNat (by omega) q3⟩
    · have q : Std.Format.nest 0 .nil = Std.Format.append a b := (t5 z).symm.trans e
      cases q
  | .nil, _, _, _ => trivial
  | .line, _, _, _ => trivial
  | .align _, _, _, _ => trivial
  | .text _, _, _, _ => trivial
  | .tag _ _, _, _, _ => trivial
/-- a type put for a variable: its plan, its term -/
def FT (Mp Mr : Mm) (un p v : Nat) (τ : Ty) : Prop := Mp 23 (8 * (60 * un + p) + v) = plc τ ∧ vl8 τ ∧ ∃ t : Nat, Mr 72 (8 * (60 * un + p) + v) = (t : Int) ∧ (t : Int) < Mr 53 24 ∧ trm Mr t = τ
def UPl (Mc Mp Mr : Mm) (un : Nat) (A : Nat → Int → Prop) (np : Nat) (X : Nat → Nat) (L : Nat → Int) (P R : Nat → Ty) (F : Nat → Nat → Ty) (p : Nat) : Prop :=
  (X p : Int) < Mc 12 4 ∧ (-1 ≤ L p ∧ L p < (p : Int) ∧ (L p = -1 ∨ Mc 13 (X (L p).toNat) = 3)) ∧
  (Mc 13 (X p) = 0 → P p = tI) ∧
  (Mc 13 (X p) = 1 → PTy (Mc 14 (X p)).toNat (P p)) ∧
  (Mc 13 (X p) = 2 → ∃ l : Nat, arl L (Mc 14 (X p)).toNat (L p) = (l : Int) ∧ P p = R l) ∧
  (Mc 13 (X p) = 3 → p + 1 < np ∧ (X (p + 1) : Int) = Mc 14 (X p) ∧ L (p + 1) = (p : Int) ∧ P p = tF (R p) (P (p + 1))) ∧
  (Mc 13 (X p) = 4 → p + 1 + (Mc 16 (Mc 14 (X p)).toNat).toNat < np ∧ (X (p + 1) : Int) = Mc 14 (X p) ∧ (X (p + 1 + (Mc 16 (Mc 14 (X p)).toNat).toNat) : Int) = Mc 15 (X p) ∧ L (p + 1) = L p ∧ L (p + 1 + (Mc 16 (Mc 14 (X p)).toNat).toNat) = L p ∧ P (p + 1) = tF (P (p + 1 + (Mc 16 (Mc 14 (X p)).toNat).toNat)) (P p)) ∧
  (Mc 13 (X p) = 5 → P p = sub (fun v => F p v.toNat) (dt Mc (Mc 8 (3 * (Mc 14 (X p)).toNat + (Mc 15 (X p)).toNat)).toNat) ∧ con Mc A (F p 0) (Mc 14 (X p)).toNat ∧ FT Mp Mr un p 0 (F p 0)) ∧
  (Mc 13 (X p) = 6 → P p = sub (fun v => F p v.toNat) (dt Mc (Mc 19 (Mc 14 (X p)).toNat).toNat) ∧ (∀ v : Nat, (v : Int) < Mr 69 (Mc 14 (X p)).toNat → FT Mp Mr un p v (F p v)) ∧ (∀ v : Nat, Mr 69 (Mc 14 (X p)).toNat ≤ (v : Int) → v < 8 → Mp 23 (8 * (60 * un + p) + v) = 2) ∧ ∀ i c v : Nat, (i : Int) < Mc 20 (Mc 14 (X p)).toNat → v < 8 → Mc 21 (8 * (Mc 14 (X p)).toNat + i) = ((8 * c + v : Nat) : Int) → con Mc A (F p v) c)
def UOK3 (Mc Mp Mr : Mm) (un e : Nat) (A : Nat → Int → Prop) (top : Ty) : Prop := ∃ (np : Nat) (X : Nat → Nat) (L : Nat → Int) (P R : Nat → Ty) (F : Nat → Nat → Ty), (e : Int) < Mc 12 4 ∧ Mc 16 e = (np : Int) ∧ (1 ≤ np ∧ np ≤ 60) ∧ X 0 = e ∧ L 0 = -1 ∧ P 0 = top ∧ ∀ p, p < np → UPl Mc Mp Mr un A np X L P R F p
abbrev UOK (Mc Mr : Mm) (un e : Nat) (A : Nat → Int → Prop) (top : Ty) : Prop := UOK3 Mc Mc Mr un e A top
section UNIT
variable {Mc Mr Mp Mt : Mm} {S : Nat → Nat → Prop} {n n' k np un e : Nat} {cs : List (Nat × Nat)} {ρ ρ' : Nat → Nat} {T : Nat → Ty} {A : Nat → Int → Prop}
theorem U_of (h : Fin2 Mc Mr S n n' cs ρ ρ') (tg : TyG Mc n ρ T) (pt : PT Mc Mr S cs np) (h34 : Mc 34 0 = (e : Int)) (h16 : Mc 16 e = (np : Int)) (cq : ∀ q, q < np → CQ Mc A T q)
    (hpl : ∀ q w : Nat, q < np → w < 8 → Mp 23 (8 * (60 * un + q) + w) = if (w : Int) < Mc 39 q then plc (T (Mc 38 (8 * q + w)).toNat) else 2)
    (htm : ∀ q w : Nat, q < np → (w : Int) < Mc 39 q → ∃ t : Nat, Mt 72 (8 * (60 * un + q) + w) = (t : Int) ∧ (t : Int) < Mt 53 24 ∧ trm Mt t = T (Mc 38 (8 * q + w)).toNat)
    (h69 : ∀ g : Nat, (g : Int) < Mc 17 4 → Mt 69 g = Mr 69 g) (h8v : ∀ y, y < n → Mc 31 y < 8) : UOK3 Mc Mp Mt un e A (T 2) := by
  obtain ⟨st, ly, nd, fl, wt, pl⟩ := pt
  obtain ⟨tC, tR, tV, eC, eR, clT, dfT⟩ := st
  have g := h.1.1
  have csn : ∀ z ∈ cs, z.1 < n ∧ z.2 < n := by
    obtain ⟨cs', _, u, _⟩ := h.2.2.2.2
    exact u.2.2.2.2.2.1
  have e0 := LayP_e ly (q := 0) (by have := ly.1; omega)
  have ee : eAt Mc 0 = e := by unfold eAt; rw [h34, Int.toNat_natCast]
  have lay := ly.2.2.2.1
  have h38 : ∀ q w : Nat, q < np → (w : Int) < Mc 39 q → (Mc 38 (8 * q + w)).toNat < n := fun q w hq hw => by
    obtain ⟨kk, k1, k2, k3, k4, k5⟩ := (fl q hq).1 hq
    obtain ⟨c, u, c1, c2, c3⟩ := k5 w (by omega)
    rw [c1, Int.toNat_natCast]
    exact (h.2.2.2.1.1 c u c3).1
  have ft : ∀ q w : Nat, q < np → w < 8 → (w : Int) < Mc 39 q → FT Mp Mt un q w (T (Mc 38 (8 * q + w)).toNat) := fun q w hq h8 hw => by
    refine ⟨?_, vl8_T tg h.1 h8v _ _ (h38 q w hq hw) rfl, htm q w hq hw⟩
    rw [hpl q w hq h8, if_pos hw]
  refine ⟨np, eAt Mc, Mc 35, fun q => T (2 + q), fun q => T (Mc 37 q).toNat, fun q v => T (Mc 38 (8 * q + v)).toNat, by rw [ee] at e0; exact e0.2, h16, ly.1, ee, ?_, rfl, fun p hp => ?_⟩
  · obtain ⟨e', z1, z2, z3, z4⟩ := lay 0 (by have := ly.1; omega)
    have := z3.1
    have := z3.2.1
    omega
  · obtain ⟨x1, x2⟩ := LayP_e ly hp
    obtain ⟨e', z1, z2, z3, z4, z5⟩ := lay p hp
    obtain rfl : e' = eAt Mc p := by omega
    obtain ⟨p0, p1, p2, p3, p4, p5, p6⟩ := pl p hp
    obtain ⟨kk, f1, f2, f3, f4, f5⟩ := (fl p hp).1 hp
    have ec := eC.2 (eAt Mc p) x2
    refine ⟨x2, z3, fun k0 => ?_, fun k1 => ?_, fun k2 => ?_, fun k3 => ?_, fun k4 => ?_, fun k5 => ?_, fun k6 => ?_⟩
    · dsimp only; rw [T_eq h tg (p0 k0)]; exact (T_int h tg).1
    · obtain ⟨y, y1, y2⟩ := p1 k1
      dsimp only
      rw [T_eq h tg y1]
      exact T_PN h tg (csn _ y1).2 y2
    · obtain ⟨l, c, y1, y2, y3⟩ := p2 k2
      refine ⟨l, by rw [← arn_arl]; exact y1, ?_⟩
      show T (2 + p) = T (Mc 37 l).toNat
      rw [y2, Int.toNat_natCast]
      exact T_eq h tg y3
    · obtain ⟨y, c, y1, y2, y3⟩ := p3 k3
      obtain ⟨w1, w2, w3⟩ := z4 k3
      have w4 := LayP_e ly w1
      refine ⟨w1, by omega, w3, ?_⟩
      show T (2 + p) = tF (T (Mc 37 p).toNat) (T (2 + (p + 1)))
      rw [y1, Int.toNat_natCast, T_eq h tg y2]
      exact T_isF h tg (csn _ y2).2 y3
    · obtain ⟨y, y2, y3⟩ := p4 k4
      obtain ⟨w1, w2, w3, w5, w6⟩ := z5 k4
      have w4 := LayP_e ly (q := p + 1) (by omega)
      have w7 := LayP_e ly w1
      refine ⟨w1, by omega, by omega, w3, w6, ?_⟩
      dsimp only
      rw [T_eq h tg y2]
      exact T_isF h tg (csn _ y2).2 y3
    · obtain ⟨y, ν, y1, y2, y3⟩ := p5 k5
      have ex := ec.2.2.2.2.2.2.1 k5
      obtain ⟨c, hc⟩ : ∃ c : Nat, Mc 14 (eAt Mc p) = (c : Int) := ⟨(Mc 14 (eAt Mc p)).toNat, by omega⟩
      obtain ⟨m, hm⟩ : ∃ m : Nat, Mc 15 (eAt Mc p) = (m : Int) := ⟨(Mc 15 (eAt Mc p)).toNat, by omega⟩
      have cl := (clT.2 c (by omega)).2 m (by rw [hc, Int.toNat_natCast] at ex; omega)
      have fq1 := f4.1 k5
      rw [hc, hm, Int.toNat_natCast, Int.toNat_natCast] at y2 y3 fq1 ⊢
      have k1 : kk = 1 := by
        have := cl.2.2
        rw [fq1] at this
        exact pow_one kk f1 (by omega)
      refine ⟨?_, ?_, ft p 0 hp (by omega) (by omega)⟩
      · dsimp only
        rw [T_eq h tg y1, ← y3]
        exact T_TNs h tg tC (by omega) (by rw [y3]; exact (csn _ y1).2) y2
      · have := (cq p hp).1 k5
        rw [hc, Int.toNat_natCast] at this
        exact this
    · obtain ⟨y, ν, y1, y2, y3⟩ := p6 k6
      have ex := ec.2.2.2.2.2.2.2.1 k6
      obtain ⟨gg, hc⟩ : ∃ c : Nat, Mc 14 (eAt Mc p) = (c : Int) := ⟨(Mc 14 (eAt Mc p)).toNat, by omega⟩
      have df := dfT.2 gg (by omega)
      obtain ⟨m, d1, d2, d3, d4⟩ := df.2.2.2
      have fq1 := f4.2 k6
      rw [hc, Int.toNat_natCast] at y2 y3 fq1 ⊢
      have km : kk = m := by
        rw [d3] at fq1
        exact pow_inj kk m f1 d1 (by omega)
      have e69 := h69 gg (by omega)
      refine ⟨?_, fun v hv => ft p v hp (by omega) (by omega), fun v hv h8 => ?_, fun i c v h1 h2 h3 => ?_⟩
      · dsimp only
        rw [T_eq h tg y1, ← y3]
        exact T_TNs h tg tC (by omega) (by rw [y3]; exact (csn _ y1).2) y2
      · rw [hpl p v hp h8, if_neg (by omega)]
      · have := (cq p hp).2 k6 i c v
        rw [hc, Int.toNat_natCast] at this
        exact this h1 h2 h3
where
  pow_inj : ∀ a b : Nat, a ≤ 8 → b ≤ 8 → 2 ^ a - 1 = 2 ^ b - 1 → a = b := by
    intro a b ha hb
    have key : ∀ (a b : Fin 9), 2 ^ a.val - 1 = 2 ^ b.val - 1 → a = b := by decide
    intro h
    have := key ⟨a, by omega⟩ ⟨b, by omega⟩ h
    exact congrArg Fin.val this
  pow_one : ∀ a : Nat, a ≤ 8 → 2 ^ a - 1 = 1 → a = 1 := by
    intro a ha
    have key : ∀ (a : Fin 9), 2 ^ a.val - 1 = 1 → a.val = 1 := by decide
    exact key ⟨a, by omega⟩
end UNIT
/-! More of everything: what was, stays. -/
def Gw (M M' : Mm) : Prop :=
  ext (tabC M) (tabC M') ∧
  (M 5 6 ≤ M' 5 6 ∧ ∀ c : Nat, (c : Int) < M 5 6 → M' 6 c = M 6 c ∧ M 7 c ≤ M' 7 c ∧ ∀ m : Nat, (m : Int) < M 7 c → M' 8 (3 * c + m) = M 8 (3 * c + m)) ∧
  (∀ i, i < 18 → M 9 i = 1 → M' 9 i = 1 ∧ M' 10 i = M 10 i) ∧
  (M 12 4 ≤ M' 12 4 ∧ ∀ e : Nat, (e : Int) < M 12 4 → M' 13 e = M 13 e ∧ M' 14 e = M 14 e ∧ M' 15 e = M 15 e ∧ M' 16 e = M 16 e) ∧
  (M 17 4 ≤ M' 17 4 ∧ ∀ g : Nat, (g : Int) < M 17 4 → M' 18 g = M 18 g ∧ M' 19 g = M 19 g ∧ M' 20 g = M 20 g ∧ ∀ i, i < 8 → M' 21 (8 * g + i) = M 21 (8 * g + i))
theorem Gw_refl (M : Mm) : Gw M M := ⟨ext_refl _, ⟨Int.le_refl _, fun _ _ => ⟨rfl, Int.le_refl _, fun _ _ => rfl⟩⟩, fun _ _ h => ⟨h, rfl⟩, ⟨Int.le_refl _, fun _ _ => ⟨rfl, rfl, rfl, rfl⟩⟩, ⟨Int.le_refl _, fun _ _ => ⟨rfl, rfl, rfl, fun _ _ => rfl⟩⟩⟩
/-- classes as they must be: the one above is lower, contexts are classes -/
def CW (M : Mm) (N : Nat) : Prop := M 5 6 = (N : Int) ∧ N ≤ 6 ∧ (∀ c, c < N → M 6 c = -1 ∨ (0 ≤ M 6 c ∧ M 6 c < (c : Int))) ∧ ∀ i, i < 18 → M 9 i = 1 → i < 3 * N ∧ (M 10 i = -1 ∨ (0 ≤ M 10 i ∧ M 10 i < (N : Int)))
theorem CT_CW {Mc Mr : Mm} {N : Nat} (h : CT Mc Mr N) : CW Mc N := by
  refine ⟨h.1.1, h.1.2.2, fun c hc => (h.2.1 c hc).2.2, fun i hi h1 => ?_⟩
  rcases (h.2.2 i hi).2 with z | z
  · omega
  · exact ⟨z.2.1, by rcases z.2.2.2 with y | y <;> omega⟩
theorem Rc_grow {M M' : Mm} {N c : Nat} {d : Int} (w : CW M N) (e : ∀ x : Nat, x < N → M' 6 x = M 6 x) (hc : c < N) (h : Rc M (c : Int) d) : Rc M' (c : Int) d := by
  have key := h (fun y => ((y = -1 ∨ (0 ≤ y ∧ y < (N : Int))) ∧ Rc M' (c : Int) y)) ⟨Or.inr (by omega), Rc_refl _ _⟩ (fun x hx => by
    obtain ⟨h1, h2⟩ := hx
    have hxN : x < N := by omega
    have a := w.2.2.1 x hxN
    refine ⟨by omega, ?_⟩
    refine Rc_trans h2 ?_
    rw [← e x hxN]
    exact Rc_up (Rc_refl _ _))
  exact key.2
theorem con_grow {M M' : Mm} {N : Nat} {A : Nat → Int → Prop} (w : CW M N) (g : Gw M M') (hA : ∀ c v, A c v → c < N) : ∀ (T : Ty) (c : Nat), c < N → con M A T c → con M' A T c
  | .nil, c, hc, h => (g.2.2.1 (3 * c) (by have := w.2.1; omega) h).1
  | .line, c, hc, h => (g.2.2.1 (3 * c + 1) (by have := w.2.1; omega) h).1
  | .group a b, c, hc, h => by
    have hh : M 9 (3 * c + 2) = 1 ∧ (M 10 (3 * c + 2) = -1 ∨ con M A a (M 10 (3 * c + 2)).toNat) := h
    have i18 : 3 * c + 2 < 18 := by have := w.2.1; omega
    have z := g.2.2.1 (3 * c + 2) i18 hh.1
    refine ⟨z.1, ?_⟩
    rcases hh.2 with y | y
    · exact Or.inl (by rw [z.2]; exact y)
    · rw [z.2]
      rcases (w.2.2.2 _ i18 hh.1).2 with x | x
      · exact Or.inl x
      · exact Or.inr (con_grow w g hA a _ (by omega) y)
  | .nest v _, c, hc, h => by
    obtain ⟨c', h1, h2⟩ := h
    exact ⟨c', h1, Rc_grow w (fun x hx => (g.2.1.2 x (by rw [w.1]; omega)).1) (hA _ _ h1) h2⟩
  | .append _ _, _, _, h => h
  | .align _, _, _, h => h
  | .text _, _, _, h => h
  | .tag _ _, _, _, h => h
/-- terms: what was, stays -/
def Gt (M M' : Mm) : Prop := M 53 24 ≤ M' 53 24 ∧ ∀ t : Nat, (t : Int) < M 53 24 → M' 73 t = M 73 t ∧ M' 74 t = M 74 t ∧ M' 75 t = M 75 t
theorem FT_grow {Mp Mr Mp' Mr' : Mm} {un p v N : Nat} {τ : Ty} (hN : Mr 53 24 = (N : Int)) (hw : WTm Mr N) (gt : Gt Mr Mr') (h1 : Mp' 23 (8 * (60 * un + p) + v) = Mp 23 (8 * (60 * un + p) + v)) (h2 : Mr' 72 (8 * (60 * un + p) + v) = Mr 72 (8 * (60 * un + p) + v)) (h : FT Mp Mr un p v τ) : FT Mp' Mr' un p v τ := by
  obtain ⟨a, a8, t, b, c, d⟩ := h
  refine ⟨by rw [h1]; exact a, a8, t, by rw [h2]; exact b, by have := gt.1; omega, ?_⟩
  rw [trm_eq hw (fun t ht => gt.2 t (by omega)) (by omega)]
  exact d
theorem U_grow {Mc Mp Mr Mc' Mp' Mr' : Mm} {un e N NT : Nat} {A B : Nat → Int → Prop} {top : Ty} (w : CW Mc N) (tC : TyC Mc) (eC : ExC Mc) (clT : ∀ c : Nat, (c : Int) < Mc 5 6 → ∀ m : Nat, (m : Int) < Mc 7 c → 0 ≤ Mc 8 (3 * c + m) ∧ Mc 8 (3 * c + m) < Mc 1 3) (dfT : ∀ g : Nat, (g : Int) < Mc 17 4 → (0 ≤ Mc 19 g ∧ Mc 19 g < Mc 1 3) ∧ (0 ≤ Mc 20 g ∧ Mc 20 g ≤ 8) ∧ 0 ≤ Mr 69 g ∧ Mr 69 g ≤ 8 ∧ ∀ i : Nat, (i : Int) < Mc 20 g → ∃ c v : Nat, Mc 21 (8 * g + i) = ((8 * c + v : Nat) : Int) ∧ v < 8 ∧ (c : Int) < Mc 5 6)
    (hN : Mr 53 24 = (NT : Int)) (hw : WTm Mr NT) (g : Gw Mc Mc') (gt : Gt Mr Mr') (h23 : ∀ i, 480 * un ≤ i → i < 480 * un + 480 → Mp' 23 i = Mp 23 i ∧ Mr' 72 i = Mr 72 i) (h69 : ∀ g : Nat, (g : Int) < Mc 17 4 → Mr' 69 g = Mr 69 g) (hA : ∀ c v, A c v → c < N) (hAB : ∀ c v, A c v → B c v) (h : UOK3 Mc Mp Mr un e A top) : UOK3 Mc' Mp' Mr' un e B top := by
  obtain ⟨np, X, L, P, R, F, a1, a2, a3, a4, a5, a6, a7⟩ := h
  have ex := g.2.2.2.1
  have c12 := eC.1
  refine ⟨np, X, L, P, R, F, by omega, by rw [(ex.2 e a1).2.2.2]; exact a2, a3, a4, a5, a6, fun p hp => ?_⟩
  obtain ⟨b1, b2, b3, b4, b5, b6, b7, b8, b9⟩ := a7 p hp
  obtain ⟨x13, x14, x15, x16⟩ := ex.2 (X p) b1
  have e16 := eC.2 (X p) b1
  have cg : ∀ (T : Ty) (c : Nat), c < N → con Mc A T c → con Mc' B T c := fun T c hc z => con_mono hAB T c (con_grow w g hA T c hc z)
  unfold UPl
  rw [x13, x14, x15]
  refine ⟨by omega, ⟨b2.1, b2.2.1, ?_⟩, b3, b4, b5, b6, fun k4 => ?_, fun k5 => ?_, fun k6 => ?_⟩
  · rcases b2.2.2 with z | z
    · exact Or.inl z
    · by_cases z1 : L p = -1
      · exact Or.inl z1
      · refine Or.inr ?_
        have := (a7 (L p).toNat (by omega)).1
        rw [(ex.2 _ this).1]
        exact z
  · have z := e16.2.2.2.2.2.1 k4
    obtain ⟨f, hf⟩ : ∃ f : Nat, Mc 14 (X p) = (f : Int) := ⟨(Mc 14 (X p)).toNat, by omega⟩
    have b7 := b7 k4
    rw [hf, Int.toNat_natCast] at b7 ⊢
    rw [(ex.2 f (by omega)).2.2.2]
    exact b7
  · have z := e16.2.2.2.2.2.2.1 k5
    obtain ⟨c, hc⟩ : ∃ c : Nat, Mc 14 (X p) = (c : Int) := ⟨(Mc 14 (X p)).toNat, by omega⟩
    obtain ⟨m, hm⟩ : ∃ c : Nat, Mc 15 (X p) = (c : Int) := ⟨(Mc 15 (X p)).toNat, by omega⟩
    rw [hc, Int.toNat_natCast] at z
    have b8 := b8 k5
    rw [hc, hm, Int.toNat_natCast, Int.toNat_natCast] at b8 ⊢
    have t8 := clT c (by omega) m (by omega)
    obtain ⟨t, ht⟩ : ∃ t : Nat, Mc 8 (3 * c + m) = (t : Int) := ⟨(Mc 8 (3 * c + m)).toNat, by omega⟩
    have m8 := ((g.2.1.2 c (by omega)).2.2 m (by omega))
    rw [m8, ht, Int.toNat_natCast, dt_ext tC g.1 (by omega)]
    rw [ht, Int.toNat_natCast] at b8
    exact ⟨b8.1, cg _ c (by have := w.1; omega) b8.2.1, FT_grow hN hw gt (h23 _ (by omega) (by omega)).1 (h23 _ (by omega) (by omega)).2 b8.2.2⟩
  · have z := e16.2.2.2.2.2.2.2.1 k6
    obtain ⟨gg, hc⟩ : ∃ c : Nat, Mc 14 (X p) = (c : Int) := ⟨(Mc 14 (X p)).toNat, by omega⟩
    have b9 := b9 k6
    rw [hc, Int.toNat_natCast] at b9 ⊢
    obtain ⟨d1, d2, d3, d4, d5⟩ := dfT gg (by omega)
    obtain ⟨t, ht⟩ : ∃ c : Nat, Mc 19 gg = (c : Int) := ⟨(Mc 19 gg).toNat, by omega⟩
    obtain ⟨g1, g2, g3, g4⟩ := g.2.2.2.2.2 gg (by omega)
    rw [g2, g3, h69 gg (by omega), ht, Int.toNat_natCast, dt_ext tC g.1 (by omega)]
    rw [ht, Int.toNat_natCast] at b9
    refine ⟨b9.1, fun v hv => FT_grow hN hw gt (h23 _ (by omega) (by omega)).1 (h23 _ (by omega) (by omega)).2 (b9.2.1 v hv), fun v hv h8 => ?_, fun i c v h1 h2 h3 => ?_⟩
    · rw [(h23 _ (by omega) (by omega)).1]
      exact b9.2.2.1 v hv h8
    · rw [g4 i (by omega)] at h3
      obtain ⟨c', v', q1, q2, q3⟩ := d5 i h1
      have ec : c = c' := by omega
      exact cg _ c (by have := w.1; omega) (b9.2.2.2 i c v h1 h2 h3)
