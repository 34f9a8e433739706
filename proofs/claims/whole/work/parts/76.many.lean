/-! How many remain, and where they are written, the reference's way. -/
theorem Rb_fr {Mc Mr Nr : Mm} {N : Nat} {R : Nat → Nat → Bool} (e : Nr 57 = Mr 57) (h : Rb Mc Mr N R) : Rb Mc Nr N R := fun l c h1 h2 => by
  obtain ⟨a1, a2, a3⟩ := h l c h1 h2
  have e : ∀ g y, l229 g 2 Nr (l : Int) (c : Int) y = l229 g 2 Mr (l : Int) (c : Int) y := fun g => by
    induction g with
    | zero => intro y; rfl
    | succ g ig => intro y; rw [l229, l229, e]; simp only [ig]
  exact ⟨a1, by unfold f229 at a2 ⊢; rw [e]; exact a2, a3⟩
section MANY
variable {Mc Mr : Mm} {N k : Nat} {R : Nat → Nat → Bool} {B : Nat → Nat}
theorem l210_79 {x1 : Int} (hR : Rb Mc Mr N R) (h5 : Mr 53 5 = (N : Int)) (h50 : Mr 53 50 = (k : Int)) (hN : N ≤ 6) (hk : k ≤ 2504) (hB : ∀ v, v < k → B v < 64 ∧ (∀ c : Nat, (B v).testBit c = true → c < N) ∧ Mr 93 v = (B v : Int)) (d : Nat) : ∀ (v f : Nat) (M : Mm), v + d = k → d < f → (∀ a, a ≠ 93 → M a = Mr a) → (∀ i, v ≤ i → M 93 i = Mr 93 i) → (∀ i, i < v → ∃ o : Nat, M 93 i = (o : Int) ∧ o < 64 ∧ ∀ e, e < 6 → o.testBit e = rm R (B i) e) →
    ∃ (M' : Mm) (f' : Nat), l210 f 79 M x1 ((ga (fun v c => rm R (B v) c) N v).length : Int) (v : Int) 0 0 0 0 = l210 (f' + 1) 79 M' x1 ((ga (fun v c => rm R (B v) c) N k).length : Int) (k : Int) 0 0 0 0 ∧ f ≤ f' + 1 + d ∧ (∀ a, a ≠ 93 → M' a = Mr a) ∧ ∀ i, i < k → ∃ o : Nat, M' 93 i = (o : Int) ∧ o < 64 ∧ ∀ e, e < 6 → o.testBit e = rm R (B i) e := by
  induction d with
  | zero =>
    intro v f M h1 h2 hM h93 hl
    obtain ⟨f, rfl⟩ : ∃ f', f = f' + 1 := ⟨f - 1, by omega⟩
    obtain rfl : v = k := by omega
    exact ⟨M, f, rfl, by omega, hM, hl⟩
  | succ d ih =>
    intro v f M h1 h2 hM h93 hl
    obtain ⟨f, rfl⟩ : ∃ f', f = f' + 1 := ⟨f - 1, by omega⟩
    obtain ⟨b1, b2, b3⟩ := hB v (by omega)
    obtain ⟨o, o1, o2, o3⟩ := f231_ok (Mr := M) (b := B v) (Rb_fr (hM 57 (by decide)) hR) (by rw [hM 53 (by decide)]; exact h5) hN b1 b2
    have l1 := ga_le (r := fun v c => rm R (B v) c) (N := N) v
    have l3 : v * N ≤ 2504 * 6 := Nat.mul_le_mul (by omega) hN
    have c6 : cb o ≤ 6 := by unfold cb; repeat (first | split | omega)
    have e232 : f232 (up M 93 v (o : Int)) ((up M 93 v (o : Int)) 93 v) = some ((cb o : Nat) : Int) := by
      rw [up_same]
      have := l232_ok (M := up M 93 v (o : Int)) (x0 := (o : Int)) 64 o 0 FU (by omega) o2 (by unfold FU; omega) (by omega)
      rw [Nat.zero_add] at this
      exact this
    have lg : (gi (fun v c => rm R (B v) c) v N).length = cb o := by
      have g6 := gi_6 (r := fun v c => rm R (B v) c) (v := v) o3
      have := gi_N (r := fun v c => rm R (B v) c) (v := v) (N := N) (fun c hc => by
        show rm R (B v) c = false
        refine Bool.eq_false_iff.mpr (fun z => ?_)
        have := b2 c (rm_iff.mp z).1
        omega) (6 - N)
      rw [show N + (6 - N) = 6 by omega] at this
      rw [← this, g6]
    have nx : ((ga (fun v c => rm R (B v) c) N v).length : Int) + ((cb o : Nat) : Int) = ((ga (fun v c => rm R (B v) c) N (v + 1)).length : Int) := by
      show _ = ((ga (fun v c => rm R (B v) c) N v ++ gi (fun v c => rm R (B v) c) v N).length : Int)
      rw [List.length_append, lg]
      omega
    obtain ⟨M', f', i1, i2, i3, i4⟩ := ih (v + 1) f (up M 93 v (o : Int)) (by omega) (by omega) (fun a ha => by rw [up_cell ha]; exact hM a ha) (fun i hi => by rw [up_at (by omega)]; exact h93 i (by omega)) (fun i hi => by
      by_cases e : i = v
      · subst e
        exact ⟨o, up_same _ _ _ _, o2, o3⟩
      · rw [up_at e]
        exact hl i (by omega))
    refine ⟨M', f', ?_, by omega, i3, i4⟩
    rw [← i1, l210, hM 53 (by decide), h50, if_neg (by omega), if_pos (by omega), Int.toNat_natCast, h93 v (Nat.le_refl _), b3, o1, bs_, e232, bs_, if_pos (by omega), if_pos (by omega), nx, show (v : Int) + 1 = ((v + 1 : Nat) : Int) by omega]
/-- writing them down -/
theorem l210_264 {g v : Nat} {x1 x2 x3 x4 : Int} {o : Nat} (hg : g < 20) (hv : v < 8) (hN : N ≤ 6) (ho : o < 64) (hr : ∀ e, e < 6 → o.testBit e = rm R (B v) e) (hlen : (ga (fun v c => rm R (B v) c) N v ++ gi (fun v c => rm R (B v) c) v N).length ≤ 8) (d : Nat) : ∀ (c f : Nat) (M : Mm), c + d = N → d < f → (∀ a, a ≠ 70 → a ≠ 71 → M a = Mr a) → (∀ j, j ≠ g → M 70 j = Mr 70 j) → (∀ j, j < 8 * g ∨ 8 * g + 8 ≤ j → M 71 j = Mr 71 j) → Mr 53 5 = (N : Int) → Mr 93 v = (o : Int) → M 70 g = ((ga (fun v c => rm R (B v) c) N v ++ gi (fun v c => rm R (B v) c) v c).length : Int) → ls M 71 (8 * g) (ga (fun v c => rm R (B v) c) N v ++ gi (fun v c => rm R (B v) c) v c) →
    ∃ (M' : Mm) (f' : Nat), l210 f 264 M x1 x2 x3 x4 (g : Int) (v : Int) (c : Int) = l210 f' 252 M' x1 x2 x3 x4 (g : Int) ((v + 1 : Nat) : Int) 0 ∧ f ≤ f' + d + 1 ∧ (∀ a, a ≠ 70 → a ≠ 71 → M' a = Mr a) ∧ (∀ j, j ≠ g → M' 70 j = Mr 70 j) ∧ (∀ j, j < 8 * g ∨ 8 * g + 8 ≤ j → M' 71 j = Mr 71 j) ∧ M' 70 g = ((ga (fun v c => rm R (B v) c) N (v + 1)).length : Int) ∧ ls M' 71 (8 * g) (ga (fun v c => rm R (B v) c) N (v + 1)) := by
  induction d with
  | zero =>
    intro c f M h1 h2 hM h70 h71 h5 h93 hm hl
    obtain ⟨f, rfl⟩ : ∃ f', f = f' + 1 := ⟨f - 1, by omega⟩
    obtain rfl : c = N := by omega
    refine ⟨M, f, ?_, by omega, hM, h70, h71, hm, hl⟩
    rw [l210, hM 53 (by decide) (by decide), h5, if_pos (Int.le_refl _), if_pos (by omega), show (v : Int) + 1 = ((v + 1 : Nat) : Int) by omega]
  | succ d ih =>
    intro c f M h1 h2 hM h70 h71 h5 h93 hm hl
    obtain ⟨f, rfl⟩ : ∃ f', f = f' + 1 := ⟨f - 1, by omega⟩
    have nx : gi (fun v c => rm R (B v) c) v (c + 1) = gi (fun v c => rm R (B v) c) v c ++ (if rm R (B v) c then [8 * c + v] else []) := rfl
    have pre : ∀ e, ((gi (fun v c => rm R (B v) c) v (c + e)).length) ≥ (gi (fun v c => rm R (B v) c) v c).length := fun e => by
      induction e with
      | zero => exact Nat.le_refl _
      | succ e ie =>
        show (gi (fun v c => rm R (B v) c) v (c + e) ++ _).length ≥ _
        rw [List.length_append]
        omega
    have c1 : (c : Int) + 1 = ((c + 1 : Nat) : Int) := by omega
    have bt := bt_c (b := o) ho (c := c) (by omega)
    by_cases r : rm R (B v) c = true
    · rw [if_pos r] at nx
      have p1 : (gi (fun v c => rm R (B v) c) v N).length ≥ (gi (fun v c => rm R (B v) c) v (c + 1)).length := by
        have : ∀ e, ((gi (fun v c => rm R (B v) c) v (c + 1 + e)).length) ≥ (gi (fun v c => rm R (B v) c) v (c + 1)).length := fun e => by
          induction e with
          | zero => exact Nat.le_refl _
          | succ e ie =>
            show (gi (fun v c => rm R (B v) c) v (c + 1 + e) ++ _).length ≥ _
            rw [List.length_append]
            omega
        have := this d
        rw [show c + 1 + d = N by omega] at this
        exact this
      have ln : (gi (fun v c => rm R (B v) c) v (c + 1)).length = (gi (fun v c => rm R (B v) c) v c).length + 1 := by rw [nx, List.length_append]; rfl
      rw [List.length_append] at hlen
      have q8 : (ga (fun v c => rm R (B v) c) N v ++ gi (fun v c => rm R (B v) c) v c).length < 8 := by rw [List.length_append]; omega
      have ap : ga (fun v c => rm R (B v) c) N v ++ gi (fun v c => rm R (B v) c) v (c + 1) = (ga (fun v c => rm R (B v) c) N v ++ gi (fun v c => rm R (B v) c) v c) ++ [8 * c + v] := by rw [nx, List.append_assoc]
      have hq : (ga (fun v c => rm R (B v) c) N v ++ gi (fun v c => rm R (B v) c) v (c + 1)).length = (ga (fun v c => rm R (B v) c) N v ++ gi (fun v c => rm R (B v) c) v c).length + 1 := by rw [ap, List.length_append (bs := [8 * c + v])]; rfl
      obtain ⟨q, eq⟩ : ∃ q, q = (ga (fun v c => rm R (B v) c) N v ++ gi (fun v c => rm R (B v) c) v c).length := ⟨_, rfl⟩
      rw [← eq] at q8 hm hq
      obtain ⟨M', f', i1, i2, i3, i4, i5, i6, i7⟩ := ih (c + 1) f (up (up M 71 (8 * g + q) ((8 * c + v : Nat) : Int)) 70 g ((q : Int) + 1)) (by omega) (by omega) (fun a b1 b2 => by rw [up_cell b1, up_cell b2]; exact hM a b1 b2) (fun j hj => by rw [up_at hj, up_cell (by decide)]; exact h70 j hj) (fun j hj => by rw [up_cell (by decide), up_at (by omega)]; exact h71 j hj) h5 h93 (by rw [up_same, hq]; omega) (by
        rw [ap]
        refine ls_snoc hl (fun _ => ?_) (fun i hi => ?_)
        · rw [up_cell (by decide), ← eq, up_same]
        · rw [up_cell (by decide), up_at (by omega)])
      refine ⟨M', f', ?_, by omega, i3, i4, i5, i6, i7⟩
      rw [← i1, l210, hM 53 (by decide) (by decide), h5, if_neg (by omega), if_pos (by omega), Int.toNat_natCast, hM 93 (by decide) (by decide), h93, bt, hr c (by omega), if_pos r, if_pos (by decide), if_pos (by omega), Int.toNat_natCast, hm, if_pos (by omega), if_pos (by omega), if_pos (by omega), if_pos (by omega), c1, show ((8 : Int) * (g : Int) + (q : Int)).toNat = 8 * g + q by omega, show (8 : Int) * (c : Int) + (v : Int) = ((8 * c + v : Nat) : Int) by omega]
    · rw [if_neg r, List.append_nil] at nx
      obtain ⟨M', f', i1, i2, i3, i4, i5, i6, i7⟩ := ih (c + 1) f M (by omega) (by omega) hM h70 h71 h5 h93 (by rw [nx]; exact hm) (by rw [nx]; exact hl)
      refine ⟨M', f', ?_, by omega, i3, i4, i5, i6, i7⟩
      rw [← i1, l210, hM 53 (by decide) (by decide), h5, if_neg (by omega), if_pos (by omega), Int.toNat_natCast, hM 93 (by decide) (by decide), h93, bt, hr c (by omega), if_neg r, if_neg (fun z => z rfl), if_pos (by omega), c1]
theorem ga_pre {r : Nat → Nat → Bool} (d : Nat) : ∀ v, (ga r N v).length ≤ (ga r N (v + d)).length := by
  induction d with
  | zero => intro v; exact Nat.le_refl _
  | succ d ih =>
    intro v
    have := ih v
    show _ ≤ (ga r N (v + d) ++ gi r (v + d) N).length
    rw [List.length_append]
    omega
theorem l210_252 {g : Nat} {x1 x2 x3 x4 : Int} (hg : g < 20) (hk : k ≤ 8) (hN : N ≤ 6) (ho : ∀ i, i < k → ∃ o : Nat, Mr 93 i = (o : Int) ∧ o < 64 ∧ ∀ e, e < 6 → o.testBit e = rm R (B i) e) (hlen : (ga (fun v c => rm R (B v) c) N k).length ≤ 8) (h5 : Mr 53 5 = (N : Int)) (h50 : Mr 53 50 = (k : Int)) (d : Nat) : ∀ (v f : Nat) (M : Mm), v + d = k → 8 * d < f → (∀ a, a ≠ 70 → a ≠ 71 → M a = Mr a) → (∀ j, j ≠ g → M 70 j = Mr 70 j) → (∀ j, j < 8 * g ∨ 8 * g + 8 ≤ j → M 71 j = Mr 71 j) → M 70 g = ((ga (fun v c => rm R (B v) c) N v).length : Int) → ls M 71 (8 * g) (ga (fun v c => rm R (B v) c) N v) →
    ∃ M' : Mm, l210 f 252 M x1 x2 x3 x4 (g : Int) (v : Int) 0 = (f234 M' (g : Int)).bind (fun z => some ((g : Int), z.2)) ∧ (∀ a, a ≠ 70 → a ≠ 71 → M' a = Mr a) ∧ (∀ j, j ≠ g → M' 70 j = Mr 70 j) ∧ (∀ j, j < 8 * g ∨ 8 * g + 8 ≤ j → M' 71 j = Mr 71 j) ∧ M' 70 g = ((ga (fun v c => rm R (B v) c) N k).length : Int) ∧ ls M' 71 (8 * g) (ga (fun v c => rm R (B v) c) N k) := by
  induction d with
  | zero =>
    intro v f M h1 h2 hM h70 h71 hm hl
    obtain ⟨f, rfl⟩ : ∃ f', f = f' + 1 := ⟨f - 1, by omega⟩
    obtain rfl : v = k := by omega
    refine ⟨M, ?_, hM, h70, h71, hm, hl⟩
    rw [l210, hM 53 (by decide) (by decide), h50, if_pos (Int.le_refl _)]
  | succ d ih =>
    intro v f M h1 h2 hM h70 h71 hm hl
    obtain ⟨f, rfl⟩ : ∃ f', f = f' + 1 := ⟨f - 1, by omega⟩
    obtain ⟨o, o1, o2, o3⟩ := ho v (by omega)
    have pl := ga_pre (N := N) (r := fun v c => rm R (B v) c) d (v + 1)
    rw [show v + 1 + d = k by omega] at pl
    obtain ⟨M1, f1, i1, i2, i3, i4, i5, i6, i7⟩ := l210_264 (B := B) (x1 := x1) (x2 := x2) (x3 := x3) (x4 := x4) hg (by omega) hN o2 o3 (Nat.le_trans pl hlen) N 0 f M (by omega) (by omega) hM h70 h71 h5 o1 (by show M 70 g = ((_ ++ []).length : Int); rw [List.append_nil]; exact hm) (by show ls M 71 (8 * g) (_ ++ []); rw [List.append_nil]; exact hl)
    obtain ⟨M2, j1, j2, j3, j4, j5, j6⟩ := ih (v + 1) f1 M1 (by omega) (by omega) i3 i4 i5 i6 i7
    refine ⟨M2, ?_, j2, j3, j4, j5, j6⟩
    rw [l210, hM 53 (by decide) (by decide), h50, if_neg (by omega)]
    have i1 : l210 f 264 M x1 x2 x3 x4 (g : Int) (v : Int) 0 = _ := i1
    rw [i1]
    exact j1
end MANY
