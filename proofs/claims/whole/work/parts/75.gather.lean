/-! The conditions that remain. -/
theorem bit_clr : ∀ (a : Fin 64) (c : Fin 6), bAnd ((a.val : Nat) : Int) (bXor (bShl 1 ((c.val : Nat) : Int)) (-1)) = ((a.val &&& (63 - 1 <<< c.val) : Nat) : Int) := by decide +kernel
theorem bit_clr2 : ∀ (a : Fin 64) (c : Fin 6), (a.val &&& (63 - 1 <<< c.val) < 64) ∧ ∀ d : Fin 6, Nat.testBit (a.val &&& (63 - 1 <<< c.val)) d.val = (Nat.testBit a.val d.val && decide (d.val ≠ c.val)) := by decide +kernel
/-- how many of the six bits are set -/
def cb (a : Nat) : Nat := (if a.testBit 0 then 1 else 0) + (if a.testBit 1 then 1 else 0) + (if a.testBit 2 then 1 else 0) + (if a.testBit 3 then 1 else 0) + (if a.testBit 4 then 1 else 0) + (if a.testBit 5 then 1 else 0)
theorem bit_low : ∀ a : Fin 64, a.val ≠ 0 → bAnd ((a.val : Nat) : Int) (((a.val : Nat) : Int) - 1) = ((a.val &&& (a.val - 1) : Nat) : Int) ∧ (a.val &&& (a.val - 1)) < a.val ∧ cb (a.val &&& (a.val - 1)) + 1 = cb a.val := by decide +kernel
theorem l232_ok {M : Mm} {x0 : Int} (b : Nat) : ∀ (a x1 f : Nat), a ≤ b → a < 64 → b < f → x1 + a ≤ 1000 → l232 f 4 M x0 (x1 : Int) (a : Int) = some ((x1 + cb a : Nat) : Int) := by
  induction b with
  | zero =>
    intro a x1 f h1 h2 h3 h4
    obtain ⟨f, rfl⟩ : ∃ f', f = f' + 1 := ⟨f - 1, by omega⟩
    obtain rfl : a = 0 := by omega
    rw [l232, if_pos (show ((0 : Nat) : Int) = 0 from rfl)]
    rfl
  | succ b ih =>
    intro a x1 f h1 h2 h3 h4
    obtain ⟨f, rfl⟩ : ∃ f', f = f' + 1 := ⟨f - 1, by omega⟩
    by_cases e : a = 0
    · subst e
      rw [l232, if_pos (show ((0 : Nat) : Int) = 0 from rfl)]
      rfl
    · obtain ⟨p1, p2, p3⟩ := bit_low ⟨a, h2⟩ e
      dsimp only at p1 p2 p3
      rw [l232, if_neg (by omega), if_pos (by omega), p1, show (x1 : Int) + 1 = ((x1 + 1 : Nat) : Int) by omega, ih _ _ f (by omega) (by omega) (by omega) (by omega)]
      congr 2; omega
def bad (R : Nat → Nat → Bool) (b c d : Nat) : Bool := (d != c) && b.testBit d && R d c
/-- c remains of the bits b -/
def rm (R : Nat → Nat → Bool) (b c : Nat) : Bool := b.testBit c && (List.range 6).all (fun d => ! bad R b c d)
theorem rm_iff {R : Nat → Nat → Bool} {b c : Nat} : rm R b c = true ↔ b.testBit c = true ∧ ∀ d, d < 6 → bad R b c d = false := by
  unfold rm
  rw [Bool.and_eq_true, List.all_eq_true]
  constructor
  · intro ⟨h1, h2⟩
    exact ⟨h1, fun d hd => by have := h2 d (List.mem_range.mpr hd); cases e : bad R b c d <;> simp [e] at this ⊢⟩
  · intro ⟨h1, h2⟩
    exact ⟨h1, fun d hd => by rw [h2 d (List.mem_range.mp hd)]; rfl⟩
/-- what reaches what, by both -/
def Rb (Mc Mr : Mm) (N : Nat) (R : Nat → Nat → Bool) : Prop := ∀ l c : Nat, l < N → c < N → f60 Mc (l : Int) (c : Int) = some (if R l c then 1 else 0) ∧ f229 Mr (l : Int) (c : Int) = some (if R l c then 1 else 0) ∧ (R l c = true → Rc Mc (l : Int) (c : Int) ∧ c ≤ l)
theorem Rb_of {Mc Mr : Mm} {N : Nat} (h : CT Mc Mr N) : ∃ R, Rb Mc Mr N R := by
  refine ⟨fun l c => decide (f60 Mc (l : Int) (c : Int) = some 1), fun l c h1 h2 => ?_⟩
  obtain ⟨v, v1, v2, v3⟩ := f60_ok (d := c) (c := (l : Int)) h (by omega) (by omega)
  rcases v3 with rfl | ⟨rfl, v4, v5⟩
  · have z : ¬ decide (f60 Mc (l : Int) (c : Int) = some 1) = true := fun y => by
      have := of_decide_eq_true y
      rw [v1] at this
      exact absurd (Option.some.inj this) (by decide)
    exact ⟨by rw [if_neg z]; exact v1, by rw [if_neg z]; exact v2, fun y => absurd y z⟩
  · have z : decide (f60 Mc (l : Int) (c : Int) = some 1) = true := decide_eq_true v1
    exact ⟨by rw [if_pos z]; exact v1, by rw [if_pos z]; exact v2, fun _ => ⟨v4, by omega⟩⟩
section GATHER
variable {Mc Mr : Mm} {N b : Nat} {R : Nat → Nat → Bool}
theorem bt_c (hb : b < 64) {c : Nat} (hc : c < 6) : bAnd (bShr (b : Int) (c : Int)) 1 = if b.testBit c then 1 else 0 := bit_at ⟨b, hb⟩ ⟨c, hc⟩
theorem l135_ok {c : Nat} {x2 : Int} (hR : Rb Mc Mr N R) (hN : N ≤ 6) (hb : b < 64) (hbN : ∀ c : Nat, b.testBit c = true → c < N) (hc : c < N) (d0 : Nat) : ∀ (x4 f : Nat), x4 + d0 = 6 → d0 < f → ∃ v : Int, l135 f 20 Mc (c : Int) x2 (b : Int) (x4 : Int) = some v ∧ ((v = 1 ∧ ∀ d, x4 ≤ d → d < 6 → bad R b c d = false) ∨ (v = 0 ∧ ∃ d, x4 ≤ d ∧ d < 6 ∧ bad R b c d = true)) := by
  induction d0 with
  | zero =>
    intro x4 f h1 h2
    obtain ⟨f, rfl⟩ : ∃ f', f = f' + 1 := ⟨f - 1, by omega⟩
    exact ⟨1, by rw [l135, if_pos (by omega)], Or.inl ⟨rfl, fun d h3 h4 => by omega⟩⟩
  | succ d0 ih =>
    intro x4 f h1 h2
    obtain ⟨f, rfl⟩ : ∃ f', f = f' + 1 := ⟨f - 1, by omega⟩
    obtain ⟨v, i1, i2⟩ := ih (x4 + 1) f (by omega) (by omega)
    have x41 : (x4 : Int) + 1 = ((x4 + 1 : Nat) : Int) := by omega
    have go : bad R b c x4 = false → ∃ v : Int, l135 f 20 Mc (c : Int) x2 (b : Int) ((x4 + 1 : Nat) : Int) = some v ∧ ((v = 1 ∧ ∀ d, x4 ≤ d → d < 6 → bad R b c d = false) ∨ (v = 0 ∧ ∃ d, x4 ≤ d ∧ d < 6 ∧ bad R b c d = true)) := fun z => by
      refine ⟨v, i1, ?_⟩
      rcases i2 with ⟨y1, y2⟩ | ⟨y1, d, y2, y3, y4⟩
      · refine Or.inl ⟨y1, fun d h3 h4 => ?_⟩
        by_cases e : d = x4
        · rw [e]; exact z
        · exact y2 d (by omega) h4
      · exact Or.inr ⟨y1, d, by omega, y3, y4⟩
    rw [l135, if_neg (by omega), bt_c hb (by omega), x41, if_pos (show rg ((x4 + 1 : Nat) : Int) by omega)]
    by_cases e : x4 = c
    · rw [if_pos (by omega)]
      exact go (by unfold bad; rw [e]; simp)
    · rw [if_neg (by omega)]
      by_cases t : b.testBit x4 = true
      · rw [if_pos t, if_neg (fun z => z rfl), (hR x4 c (hbN x4 t) hc).1, bs_]
        by_cases r : R x4 c = true
        · rw [if_pos r, if_neg (by decide)]
          exact ⟨0, rfl, Or.inr ⟨rfl, x4, Nat.le_refl _, by omega, by unfold bad; simp [e, t, r]⟩⟩
        · rw [if_neg r, if_pos rfl]
          exact go (by unfold bad; simp [r])
      · rw [if_neg t, if_pos (by decide)]
        exact go (by unfold bad; simp [t])
theorem f135_ok {c x : Nat} (hR : Rb Mc Mr N R) (hN : N ≤ 6) (hb : b < 64) (hbN : ∀ c : Nat, b.testBit c = true → c < N) (hc : c < N) (hx : x < 2504) (h46 : Mc 46 x = (b : Int)) : f135 Mc (c : Int) (x : Int) = some (if rm R b c then 1 else 0) := by
  unfold f135
  rw [if_pos (by omega), Int.toNat_natCast, h46, bt_c hb (by omega)]
  by_cases t : b.testBit c = true
  · obtain ⟨v, i1, i2⟩ := l135_ok (x2 := (x : Int)) hR hN hb hbN hc 6 0 FU (by omega) (by unfold FU; omega)
    have i1 : l135 FU 20 Mc (c : Int) (x : Int) (b : Int) 0 = some v := i1
    rw [if_pos t, if_pos (by decide), i1]
    rcases i2 with ⟨y1, y2⟩ | ⟨y1, d, y2, y3, y4⟩
    · rw [if_pos (rm_iff.mpr ⟨t, fun d hd => y2 d (Nat.zero_le _) hd⟩), y1]
    · rw [if_neg (fun z => by rw [(rm_iff.mp z).2 d y3] at y4; exact absurd y4 Bool.false_ne_true), y1]
  · rw [if_neg t, if_neg (fun z => z rfl), if_neg (fun z => t (rm_iff.mp z).1)]
theorem l231_in {c : Nat} (hR : Rb Mc Mr N R) (h5 : Mr 53 5 = (N : Int)) (hN : N ≤ 6) (hb : b < 64) (hc : c < N) (d0 : Nat) : ∀ (d f o : Nat), d + d0 = N → d0 < f → o < 64 → ∃ o', l231 f 15 Mr (b : Int) (o : Int) (c : Int) (d : Int) = l231 (f - d0 - 1) 4 Mr (b : Int) ((o' : Nat) : Int) ((c + 1 : Nat) : Int) 0 ∧ o' < 64 ∧ (∀ e, e < 6 → e ≠ c → Nat.testBit o' e = o.testBit e) ∧ (Nat.testBit o' c = true ↔ o.testBit c = true ∧ (b.testBit c = true → ∀ d', d ≤ d' → d' < N → bad R b c d' = false)) := by
  induction d0 with
  | zero =>
    intro d f o h1 h2 ho
    obtain ⟨f, rfl⟩ : ∃ f', f = f' + 1 := ⟨f - 1, by omega⟩
    refine ⟨o, ?_, ho, fun _ _ _ => rfl, ⟨fun z => ⟨z, fun _ d' h3 h4 => by omega⟩, fun z => z.1⟩⟩
    rw [l231, if_pos (by omega), if_pos (by omega), show (c : Int) + 1 = ((c + 1 : Nat) : Int) by omega]
    rfl
  | succ d0 ih =>
    intro d f o h1 h2 ho
    obtain ⟨f, rfl⟩ : ∃ f', f = f' + 1 := ⟨f - 1, by omega⟩
    have d1 : (d : Int) + 1 = ((d + 1 : Nat) : Int) := by omega
    have fe : f + 1 - (d0 + 1) - 1 = f - d0 - 1 := by omega
    have go : (b.testBit c = true → bad R b c d = false) → ∃ o', l231 f 15 Mr (b : Int) (o : Int) (c : Int) ((d + 1 : Nat) : Int) = l231 (f - d0 - 1) 4 Mr (b : Int) ((o' : Nat) : Int) ((c + 1 : Nat) : Int) 0 ∧ o' < 64 ∧ (∀ e, e < 6 → e ≠ c → Nat.testBit o' e = o.testBit e) ∧ (Nat.testBit o' c = true ↔ o.testBit c = true ∧ (b.testBit c = true → ∀ d', d ≤ d' → d' < N → bad R b c d' = false)) := fun z => by
      obtain ⟨o', i1, i2, i3, i4⟩ := ih (d + 1) f o (by omega) (by omega) ho
      refine ⟨o', i1, i2, i3, i4.trans ⟨fun y => ⟨y.1, fun tb d' h3 h4 => ?_⟩, fun y => ⟨y.1, fun tb d' h3 h4 => y.2 tb d' (by omega) h4⟩⟩⟩
      by_cases e : d' = d
      · rw [e]; exact z tb
      · exact y.2 tb d' (by omega) h4
    rw [l231, if_neg (by omega), bt_c hb (by omega), bt_c hb (by omega), d1, if_pos (show rg ((d + 1 : Nat) : Int) by omega), fe]
    by_cases tc : b.testBit c = true
    · rw [if_pos tc, if_neg (fun z => z rfl)]
      by_cases td : b.testBit d = true
      · rw [if_pos td, if_neg (fun z => z rfl)]
        by_cases e : c = d
        · rw [if_pos (by omega)]
          exact go (fun _ => by unfold bad; rw [e]; simp)
        · rw [if_neg (by omega), (hR d c (by omega) hc).2.1, bs_]
          by_cases r : R d c = true
          · have e1 : bAnd (o : Int) (bXor (bShl 1 (c : Int)) (-1)) = ((o &&& (63 - 1 <<< c) : Nat) : Int) := bit_clr ⟨o, ho⟩ ⟨c, by omega⟩
            obtain ⟨p1, p2⟩ := bit_clr2 ⟨o, ho⟩ ⟨c, by omega⟩
            dsimp only at p1 p2
            generalize o &&& (63 - 1 <<< c) = m at e1 p1 p2
            rw [if_pos r, if_neg (by decide), e1, if_pos (show rg ((d + 1 : Nat) : Int) by omega)]
            obtain ⟨o', i1, i2, i3, i4⟩ := ih (d + 1) f m (by omega) (by omega) p1
            have bt : bad R b c d = true := by
              unfold bad
              have : (d != c) = true := by simp; omega
              rw [this, td, r]; rfl
            refine ⟨o', i1, i2, fun e' h3 h4 => ?_, ⟨fun y => ?_, fun y => ?_⟩⟩
            · rw [i3 e' h3 h4]
              have := p2 ⟨e', h3⟩
              dsimp only at this
              rw [this, decide_eq_true h4, Bool.and_true]
            · have y := (i4.mp y).1
              have := p2 ⟨c, by omega⟩
              dsimp only at this
              rw [this, decide_eq_false (fun z => z rfl), Bool.and_false] at y
              exact absurd y Bool.false_ne_true
            · rw [y.2 tc d (Nat.le_refl _) (by omega)] at bt
              exact absurd bt Bool.false_ne_true
          · rw [if_neg r, if_pos rfl]
            exact go (fun _ => by unfold bad; simp [r])
      · rw [if_neg td, if_pos (by decide)]
        exact go (fun _ => by unfold bad; simp [td])
    · rw [if_neg tc, if_pos (by decide)]
      exact go (fun z => absurd z tc)
theorem l231_ok (hR : Rb Mc Mr N R) (h5 : Mr 53 5 = (N : Int)) (hN : N ≤ 6) (hb : b < 64) (hbN : ∀ c : Nat, b.testBit c = true → c < N) (d0 : Nat) : ∀ (c f o : Nat), c + d0 = N → 10 * d0 < f → o < 64 → (∀ e, e < 6 → (e < c → Nat.testBit o e = rm R b e) ∧ (c ≤ e → Nat.testBit o e = b.testBit e)) → ∃ o' : Nat, l231 f 4 Mr (b : Int) (o : Int) (c : Int) 0 = some (o' : Int) ∧ o' < 64 ∧ ∀ e, e < 6 → Nat.testBit o' e = rm R b e := by
  induction d0 with
  | zero =>
    intro c f o h1 h2 ho h
    obtain ⟨f, rfl⟩ : ∃ f', f = f' + 1 := ⟨f - 1, by omega⟩
    refine ⟨o, by rw [l231, if_pos (by omega)], ho, fun e he => ?_⟩
    by_cases ec : e < c
    · exact (h e he).1 ec
    · rw [(h e he).2 (by omega)]
      have : ¬ b.testBit e = true := fun z => by have := hbN e z; omega
      rw [Bool.eq_false_iff.mpr this]
      exact (Bool.eq_false_iff.mpr (fun z => this (rm_iff.mp z).1)).symm
  | succ d0 ih =>
    intro c f o h1 h2 ho h
    obtain ⟨f, rfl⟩ : ∃ f', f = f' + 1 := ⟨f - 1, by omega⟩
    obtain ⟨o', i1, i2, i3, i4⟩ := l231_in (c := c) hR h5 hN hb (by omega) N 0 f o (by omega) (by omega) ho
    obtain ⟨o2, j1, j2, j3⟩ := ih (c + 1) (f - N - 1) o' (by omega) (by omega) i2 (fun e he => by
      by_cases ec : e = c
      · subst ec
        refine ⟨fun _ => ?_, fun z => by omega⟩
        apply Bool.eq_iff_iff.mpr
        rw [i4, (h e he).2 (Nat.le_refl _), rm_iff]
        refine ⟨fun z => ⟨z.1, fun d hd => ?_⟩, fun z => ⟨z.1, fun _ d' _ h4 => z.2 d' (by omega)⟩⟩
        by_cases dn : d < N
        · exact z.2 z.1 d (Nat.zero_le _) dn
        · have : ¬ b.testBit d = true := fun y => dn (hbN d y)
          unfold bad
          simp [this]
      · rw [i3 e he ec]
        exact ⟨fun z => (h e he).1 (by omega), fun z => (h e he).2 (by omega)⟩)
    refine ⟨o2, ?_, j2, j3⟩
    rw [l231, if_neg (by omega)]
    have i1 : l231 f 15 Mr (b : Int) (o : Int) (c : Int) 0 = _ := i1
    rw [i1]
    exact j1
theorem f231_ok (hR : Rb Mc Mr N R) (h5 : Mr 53 5 = (N : Int)) (hN : N ≤ 6) (hb : b < 64) (hbN : ∀ c : Nat, b.testBit c = true → c < N) : ∃ o' : Nat, f231 Mr (b : Int) = some (o' : Int) ∧ o' < 64 ∧ ∀ e, e < 6 → Nat.testBit o' e = rm R b e :=
  l231_ok hR h5 hN hb hbN N 0 FU b (by omega) (by unfold FU; omega) hb (fun e _ => ⟨fun z => by omega, fun _ => rfl⟩)
end GATHER
/-- the conditions in their order -/
def gi (r : Nat → Nat → Bool) (v : Nat) : Nat → List Nat
  | 0 => []
  | c + 1 => gi r v c ++ (if r v c then [8 * c + v] else [])
def ga (r : Nat → Nat → Bool) (N : Nat) : Nat → List Nat
  | 0 => []
  | v + 1 => ga r N v ++ gi r v N
/-- a list lies in memory, the first eight of it -/
def ls (M : Mm) (a o : Nat) (l : List Nat) : Prop := ∀ (i x : Nat), l[i]? = some x → i < 8 → M a (o + i) = (x : Int)
theorem ls_snoc {M M' : Mm} {a o x : Nat} {l : List Nat} (h : ls M a o l) (h1 : l.length < 8 → M' a (o + l.length) = (x : Int)) (h2 : ∀ i, i < l.length → M' a (o + i) = M a (o + i)) : ls M' a o (l ++ [x]) := by
  intro i y hy hi
  by_cases e : i < l.length
  · rw [List.getElem?_append_left e] at hy
    rw [h2 i e]
    exact h i y hy hi
  · rw [List.getElem?_append_right (by omega)] at hy
    by_cases e2 : i = l.length
    · rw [e2, Nat.sub_self] at hy
      simp at hy
      rw [e2, h1 (by omega), hy]
    · obtain ⟨j, hj⟩ : ∃ j, i - l.length = j + 1 := ⟨i - l.length - 1, by omega⟩
      rw [hj] at hy
      simp at hy
theorem gi_6 {r : Nat → Nat → Bool} {v o : Nat} (h : ∀ e, e < 6 → o.testBit e = r v e) : (gi r v 6).length = cb o := by
  unfold cb
  rw [h 0 (by omega), h 1 (by omega), h 2 (by omega), h 3 (by omega), h 4 (by omega), h 5 (by omega)]
  show (((((([] ++ (if r v 0 then [8 * 0 + v] else [])) ++ (if r v 1 then [8 * 1 + v] else [])) ++ (if r v 2 then [8 * 2 + v] else [])) ++ (if r v 3 then [8 * 3 + v] else [])) ++ (if r v 4 then [8 * 4 + v] else [])) ++ (if r v 5 then [8 * 5 + v] else [])).length = _
  simp only [List.length_append, List.length_nil]
  have L : ∀ (b : Bool) (x : Nat), (if b then [x] else []).length = if b then 1 else 0 := fun b x => by cases b <;> rfl
  simp only [L]
  omega
theorem gi_N {r : Nat → Nat → Bool} {v N : Nat} (hz : ∀ c, N ≤ c → r v c = false) (d : Nat) : gi r v (N + d) = gi r v N := by
  induction d with
  | zero => rfl
  | succ d ih =>
    show gi r v (N + d) ++ (if r v (N + d) then [8 * (N + d) + v] else []) = _
    rw [hz (N + d) (by omega), ih]
    simp
theorem gi_le {r : Nat → Nat → Bool} {v : Nat} : ∀ c, (gi r v c).length ≤ c
  | 0 => Nat.le_refl _
  | c + 1 => by
    have := gi_le (r := r) (v := v) c
    show (gi r v c ++ (if r v c then [8 * c + v] else [])).length ≤ c + 1
    rw [List.length_append]
    have L : (if r v c then [8 * c + v] else []).length ≤ 1 := by split <;> simp
    omega
theorem ga_le {r : Nat → Nat → Bool} {N : Nat} : ∀ v, (ga r N v).length ≤ v * N
  | 0 => Nat.zero_le _
  | v + 1 => by
    have := ga_le (r := r) (N := N) v
    have := gi_le (r := r) (v := v) N
    show (ga r N v ++ gi r v N).length ≤ _
    rw [List.length_append, Nat.succ_mul]
    omega
/-- gathering, the class's way -/
theorem l132_in {Mc Mr : Mm} {N k v : Nat} {R : Nat → Nat → Bool} {B : Nat → Nat} {x : Nat} (hR : Rb Mc Mr N R) (h5 : Mc 5 6 = (N : Int)) (hN : N ≤ 6) (hb : B v < 64) (hbN : ∀ c : Nat, (B v).testBit c = true → c < N) (hv : v < k) (hk : k ≤ 2504) (h32 : Mc 32 v = (x : Int)) (hx : x < 2504) (h46 : Mc 46 x = (B v : Int)) (d : Nat) : ∀ (c f : Nat) (M : Mm), c + d = N → d < f → (∀ a, a ≠ 43 → M a = Mc a) → ls M 43 0 (ga (fun v c => rm R (B v) c) N v ++ gi (fun v c => rm R (B v) c) v c) →
    ∃ M', l132 f 17 M ((ga (fun v c => rm R (B v) c) N v ++ gi (fun v c => rm R (B v) c) v c).length : Int) (v : Int) (c : Int) = l132 (f - d - 1) 4 M' ((ga (fun v c => rm R (B v) c) N (v + 1)).length : Int) ((v + 1 : Nat) : Int) 0 ∧ (∀ a, a ≠ 43 → M' a = Mc a) ∧ ls M' 43 0 (ga (fun v c => rm R (B v) c) N (v + 1)) := by
  induction d with
  | zero =>
    intro c f M h1 h2 hM hl
    obtain ⟨f, rfl⟩ : ∃ f', f = f' + 1 := ⟨f - 1, by omega⟩
    obtain rfl : c = N := by omega
    refine ⟨M, ?_, hM, hl⟩
    rw [l132]
    unfold f27
    rw [bs_, hM 5 (by decide), h5, if_pos (Int.le_refl _), if_pos (by omega), show (v : Int) + 1 = ((v + 1 : Nat) : Int) by omega]
    rfl
  | succ d ih =>
    intro c f M h1 h2 hM hl
    obtain ⟨f, rfl⟩ : ∃ f', f = f' + 1 := ⟨f - 1, by omega⟩
    have l1 := ga_le (r := fun v c => rm R (B v) c) (N := N) v
    have l2 := gi_le (r := fun v c => rm R (B v) c) (v := v) c
    have l3 : v * N ≤ 2504 * 6 := Nat.mul_le_mul (by omega) hN
    have l4 : (ga (fun v c => rm R (B v) c) N v ++ gi (fun v c => rm R (B v) c) v c).length ≤ 15100 := by rw [List.length_append]; omega
    have hR' : Rb M Mr N R := fun l c h1 h2 => by
      obtain ⟨a1, a2, a3⟩ := hR l c h1 h2
      have e : ∀ g y u, l60 g 5 M (l : Int) (c : Int) y u = l60 g 5 Mc (l : Int) (c : Int) y u := fun g => by
        induction g with
        | zero => intro y u; rfl
        | succ g ig => intro y u; rw [l60, l60, hM 6 (by decide)]; simp only [ig]
      refine ⟨by unfold f60 at a1 ⊢; rw [e]; exact a1, a2, fun z => ?_⟩
      unfold Rc
      rw [hM 6 (by decide)]
      exact a3 z
    have e135 := f135_ok (c := c) (x := x) hR' hN hb hbN (by omega) hx (by rw [hM 46 (by decide)]; exact h46)
    have nx : gi (fun v c => rm R (B v) c) v (c + 1) = gi (fun v c => rm R (B v) c) v c ++ (if rm R (B v) c then [8 * c + v] else []) := rfl
    have fe : f + 1 - (d + 1) - 1 = f - d - 1 := by omega
    have head : l132 (f + 1) 17 M ((ga (fun v c => rm R (B v) c) N v ++ gi (fun v c => rm R (B v) c) v c).length : Int) (v : Int) (c : Int) = if rm R (B v) c then (if 8 ≤ ((ga (fun v c => rm R (B v) c) N v ++ gi (fun v c => rm R (B v) c) v c).length : Int) then l132 f 17 M (((ga (fun v c => rm R (B v) c) N v ++ gi (fun v c => rm R (B v) c) v c).length : Int) + 1) (v : Int) ((c + 1 : Nat) : Int) else l132 f 17 (up M 43 (ga (fun v c => rm R (B v) c) N v ++ gi (fun v c => rm R (B v) c) v c).length ((8 * c + v : Nat) : Int)) (((ga (fun v c => rm R (B v) c) N v ++ gi (fun v c => rm R (B v) c) v c).length : Int) + 1) (v : Int) ((c + 1 : Nat) : Int)) else l132 f 17 M ((ga (fun v c => rm R (B v) c) N v ++ gi (fun v c => rm R (B v) c) v c).length : Int) (v : Int) ((c + 1 : Nat) : Int) := by
      generalize (ga (fun v c => rm R (B v) c) N v ++ gi (fun v c => rm R (B v) c) v c).length = q at *
      rw [l132]
      unfold f27 f134
      rw [bs_, hM 5 (by decide), h5, if_neg (by omega), if_pos (by omega), bs_, Int.toNat_natCast, hM 32 (by decide), h32, e135, bs_, show (c : Int) + 1 = ((c + 1 : Nat) : Int) by omega]
      by_cases r : rm R (B v) c = true
      · rw [if_pos r, if_pos r, if_neg (by decide)]
        by_cases e8 : 8 ≤ (q : Int)
        · rw [if_pos e8, if_pos e8, if_pos (by omega), if_pos (by omega)]
        · rw [if_neg e8, if_neg e8, if_pos (by omega), if_pos (by omega), if_pos (by omega), if_pos (by omega), Int.toNat_natCast, show (8 : Int) * (c : Int) + (v : Int) = ((8 * c + v : Nat) : Int) by omega]
      · rw [if_neg r, if_neg r, if_pos rfl, if_pos (by omega)]
    rw [head, fe]
    by_cases r : rm R (B v) c = true
    · rw [if_pos r]
      rw [if_pos r] at nx
      have ll : ((ga (fun v c => rm R (B v) c) N v ++ gi (fun v c => rm R (B v) c) v c).length : Int) + 1 = ((ga (fun v c => rm R (B v) c) N v ++ gi (fun v c => rm R (B v) c) v (c + 1)).length : Int) := by
        rw [nx, ← List.append_assoc, List.length_append (bs := [8 * c + v])]
        show _ = ((_ + 1 : Nat) : Int)
        omega
      rw [ll]
      by_cases e8 : 8 ≤ ((ga (fun v c => rm R (B v) c) N v ++ gi (fun v c => rm R (B v) c) v c).length : Int)
      · rw [if_pos e8]
        exact ih (c + 1) f M (by omega) (by omega) hM (by rw [nx, ← List.append_assoc]; exact ls_snoc hl (fun z => by omega) (fun i _ => rfl))
      · rw [if_neg e8]
        refine ih (c + 1) f _ (by omega) (by omega) (fun a ha => by rw [up_cell ha]; exact hM a ha) ?_
        rw [nx, ← List.append_assoc]
        refine ls_snoc hl (fun z => ?_) (fun i hi => ?_)
        · rw [Nat.zero_add, up_same]
        · rw [up_at (by omega)]
    · rw [if_neg r]
      rw [if_neg r, List.append_nil] at nx
      rw [← nx]
      exact ih (c + 1) f M (by omega) (by omega) hM (by rw [nx]; exact hl)
theorem l132_ok {Mc Mr : Mm} {N k : Nat} {R : Nat → Nat → Bool} {B : Nat → Nat} (hR : Rb Mc Mr N R) (h5 : Mc 5 6 = (N : Int)) (h9 : Mc 25 9 = (k : Int)) (hN : N ≤ 6) (hB : ∀ v, v < k → B v < 64 ∧ (∀ c : Nat, (B v).testBit c = true → c < N) ∧ ∃ x : Nat, Mc 32 v = (x : Int) ∧ x < 2504 ∧ Mc 46 x = (B v : Int)) (hk : k ≤ 2504) (d : Nat) : ∀ (v f : Nat) (M : Mm), v + d = k → 8 * d < f → (∀ a, a ≠ 43 → M a = Mc a) → ls M 43 0 (ga (fun v c => rm R (B v) c) N v) →
    ∃ M', l132 f 4 M ((ga (fun v c => rm R (B v) c) N v).length : Int) (v : Int) 0 = some (((ga (fun v c => rm R (B v) c) N k).length : Int), M') ∧ (∀ a, a ≠ 43 → M' a = Mc a) ∧ ls M' 43 0 (ga (fun v c => rm R (B v) c) N k) := by
  induction d with
  | zero =>
    intro v f M h1 h2 hM hl
    obtain ⟨f, rfl⟩ : ∃ f', f = f' + 1 := ⟨f - 1, by omega⟩
    obtain rfl : v = k := by omega
    refine ⟨M, ?_, hM, hl⟩
    rw [l132]
    unfold f133
    rw [bs_, hM 25 (by decide), h9, if_pos (Int.le_refl _)]
  | succ d ih =>
    intro v f M h1 h2 hM hl
    obtain ⟨f, rfl⟩ : ∃ f', f = f' + 1 := ⟨f - 1, by omega⟩
    obtain ⟨b1, b2, x, b3, b4, b5⟩ := hB v (by omega)
    obtain ⟨M1, i1, i2, i3⟩ := l132_in (R := R) (k := k) hR h5 hN b1 b2 (by omega) hk b3 b4 b5 N 0 f M (by omega) (by omega) hM (by show ls M 43 0 (_ ++ []); rw [List.append_nil]; exact hl)
    obtain ⟨M2, j1, j2, j3⟩ := ih (v + 1) (f - N - 1) M1 (by omega) (by omega) i2 i3
    refine ⟨M2, ?_, j2, j3⟩
    rw [l132]
    unfold f133
    rw [bs_, hM 25 (by decide), h9, if_neg (by omega)]
    have i1 : l132 f 17 M ((ga (fun v c => rm R (B v) c) N v ++ []).length : Int) (v : Int) 0 = _ := i1
    rw [List.append_nil] at i1
    rw [i1]
    exact j1
