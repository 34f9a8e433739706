/-! The variables numbered: what is known then. -/
theorem l99v_ok {n : Nat} (hn : n ≤ 2504) (d : Nat) : ∀ (x f : Nat) (M : Mm), x + d = n → d < f → (∀ m, m < x → M 31 m = -2) → ∃ M', l99_31 f 10 M 0 (n : Int) (-2) (x : Int) = some (0, M') ∧ (∀ a, a ≠ 31 → M' a = M a) ∧ ∀ m, m < n → M' 31 m = -2 := by
  induction d with
  | zero =>
    intro x f M hx hf h
    obtain ⟨f, rfl⟩ : ∃ f', f = f' + 1 := ⟨f - 1, by omega⟩
    obtain rfl : x = n := by omega
    exact ⟨M, by rw [l99_31, if_pos (Int.le_refl _)], fun _ _ => rfl, h⟩
  | succ d ih =>
    intro x f M hx hf h
    obtain ⟨f, rfl⟩ : ∃ f', f = f' + 1 := ⟨f - 1, by omega⟩
    obtain ⟨M', z1, z2, z3⟩ := ih (x + 1) f (up M 31 x (-2)) (by omega) (by omega) (fun m hm => by
      by_cases e : m = x
      · subst e; exact up_same _ _ _ _
      · rw [up_at e]; exact h m (by omega))
    refine ⟨M', ?_, fun a ha => by rw [z2 a ha, up_cell ha], z3⟩
    rw [l99_31, if_neg (by omega), if_pos (by omega), if_pos (by omega), Int.toNat_natCast, show (x : Int) + 1 = ((x + 1 : Nat) : Int) by omega]
    exact z1
theorem f103_ok {M : Mm} {n : Nat} {ρ : Nat → Nat} (h : Fg M n ρ) : ∃ M', f103 M = some (0, M') ∧ Cv M M' n ∧ Fg M' n ρ ∧ M' 25 9 = 0 ∧ (∀ m, m < n → M' 31 m = -2) ∧ M' 33 = M 33 := by
  have hn := h.1.2.2.1
  obtain ⟨M1, e1, e2, e3⟩ := l99v_ok hn n 0 FU (up M 25 9 0) (by omega) (by unfold FU; omega) (fun m hm => by omega)
  have e1 : l99_31 FU 10 (up M 25 9 0) 0 (n : Int) (-2) 0 = some (0, M1) := e1
  refine ⟨M1, ?_, ⟨fun a h1 h2 h3 h4 h5 => by rw [e2 a h3, up_cell h1], fun j hj => by rw [e2 25 (by decide), up_at hj], fun y _ => by rw [e2 29 (by decide), up_cell (by decide)]⟩, Fg_same (fun a h1 h2 => e2 a (by omega)) (Fg_25 h), by rw [e2 25 (by decide), up_same], e3, by rw [e2 33 (by decide), up_cell (by decide)]⟩
  unfold f103 f99_31 f100
  rw [h.1.1, if_pos (by omega), if_pos (by omega), if_pos (by omega), bs_]
  dsimp only
  rw [e1, bs_]
theorem l226_2 {n : Nat} {x1 : Int} (hn : n ≤ 4000) (d : Nat) : ∀ (x f : Nat) (M : Mm), x + d = n → d < f → M 53 28 = (n : Int) → (∀ m, m < x → M 80 m = 0) → ∃ M', l226 f 2 M x1 (x : Int) 0 = l226 (f - d - 1) 37 (up (up M' 53 50 0) 82 0 x1) x1 1 0 ∧ (∀ a, a ≠ 80 → M' a = M a) ∧ ∀ m, m < n → M' 80 m = 0 := by
  induction d with
  | zero =>
    intro x f M hx hf h28 h
    obtain ⟨f, rfl⟩ : ∃ f', f = f' + 1 := ⟨f - 1, by omega⟩
    obtain rfl : x = n := by omega
    exact ⟨M, by rw [l226, if_pos (by omega)]; rfl, fun _ _ => rfl, h⟩
  | succ d ih =>
    intro x f M hx hf h28 h
    obtain ⟨f, rfl⟩ : ∃ f', f = f' + 1 := ⟨f - 1, by omega⟩
    obtain ⟨M', z1, z2, z3⟩ := ih (x + 1) f (up M 80 x 0) (by omega) (by omega) (by rw [up_cell (by decide)]; exact h28) (fun m hm => by
      by_cases e : m = x
      · subst e; exact up_same _ _ _ _
      · rw [up_at e]; exact h m (by omega))
    refine ⟨M', ?_, fun a ha => by rw [z2 a ha, up_cell ha], z3⟩
    rw [l226, h28, if_neg (by omega), if_pos (by omega), if_pos (by omega), Int.toNat_natCast, show (x : Int) + 1 = ((x + 1 : Nat) : Int) by omega, z1, show f + 1 - (d + 1) - 1 = f - d - 1 by omega]
section NUM
variable {S : Nat → Nat → Prop} {n n' : Nat} {cs : List (Nat × Nat)} {ρ ρ' : Nat → Nat}
/-- the variables are numbered alike -/
def Nm (Mc Mr : Mm) (S : Nat → Nat → Prop) (n n' : Nat) (ρ ρ' : Nat → Nat) (k : Nat) : Prop :=
  (Mc 25 9 = (k : Int) ∧ Mr 53 50 = (k : Int) ∧ k ≤ n) ∧
  (∀ y, y < n → Mc 31 y = -2 ∨ Mc 31 y = -1 ∨ (Mc 26 y = 2 ∧ ∃ i : Nat, i < k ∧ Mc 31 y = (i : Int) ∧ Mc 32 i = (y : Int))) ∧
  (∀ i : Nat, i < k → ∃ c v : Nat, Mc 32 i = (c : Int) ∧ Mr 92 i = (v : Int) ∧ ρ c = c ∧ ρ' v = v ∧ Tt S n n' ρ ρ' c v ∧ Mc 31 c = (i : Int) ∧ Mc 26 c = 2) ∧
  (∀ c u, Tt S n n' ρ ρ' c u → Mc 26 (ρ c) = 2 → Mc 31 (ρ c) < 0 → ∀ i : Nat, i < k → Mr 92 i ≠ (ρ' u : Int))
/-- the seen ones hold their parts -/
def Sn (Mc : Mm) (ρ : Nat → Nat) (n c : Nat) : Prop := Mc 31 (ρ c) ≠ -2 ∧ (∀ x m, x < n → ρ x = x → Mc 31 x ≠ -2 → mu Mc ρ x m ≠ 0 → Mc 31 m ≠ -2) ∧ ∀ x, x < n → Mc 26 x = 2 → Mc 31 x ≠ -2 → 0 ≤ Mc 31 x
theorem Nm_of {Mc Mr : Mm} {k : Nat} (h : Fin2 Mc Mr S n n' cs ρ ρ') (v : NV Mc Mr S n n' ρ ρ' [] k) (hk : k ≤ n) : Nm Mc Mr S n n' ρ ρ' k := by
  obtain ⟨v1, ⟨v2, v3, v4⟩, v5, v6, v7, v8, v9, v10⟩ := v
  refine ⟨⟨v1.1, v1.2, hk⟩, fun y hy => ?_, fun i hi => ?_, fun c u t k2 m0 i hi e => ?_⟩
  · rcases v5 y hy with z | z | z
    · exact Or.inl z
    · exact Or.inr (Or.inl z.2)
    · exact Or.inr (Or.inr z)
  · obtain ⟨a, b, z1, z2, z3, z4, z5, z6, z7, z8, z9⟩ := v7 i hi
    exact ⟨a, b, z1, z2, z3, z4, z5, z6, z7⟩
  · obtain ⟨a, b, z1, z2, z3, z4, z5, z6, z7, z8, z9⟩ := v7 i hi
    have eb : b = ρ' u := by omega
    have := (v9 c u t (by omega)).mpr (by rw [← eb]; exact z8)
    have cl := (h.1.2.2 c (T_lt t).1).1
    rcases v5 (ρ c) cl with y | y | ⟨-, j, -, y, -⟩
    · exact this y
    · exact y.1 k2
    · omega
theorem num_ok {Mc Mr : Mm} {c u : Nat} (h : Fin2 Mc Mr S n n' cs ρ ρ') (q : S c u) : ∃ (Mc' Mr' : Mm) (k : Nat), f130 Mc (c : Int) = some (0, Mc') ∧ f226 Mr (u : Int) = some (0, Mr') ∧ Fin2 Mc' Mr' S n n' cs ρ ρ' ∧ Nm Mc' Mr' S n n' ρ ρ' k ∧ Sn Mc' ρ n c ∧ Cv Mc Mc' n ∧ Rv Mr Mr' ∧ (∀ i : Nat, i < k → Mr' 93 i = 0) ∧ ∀ P : Nat → Prop, P (ρ c) → (∀ x m, P x → m ∈ psc Mc ρ x → P m) → ∀ y, y < n → Mc' 31 y ≠ -2 → P y := by
  have t := T_S h q
  obtain ⟨cl, ul⟩ := T_lt t
  have hn := h.1.1.2.2.1
  have hn' := h.2.1.1.2.1
  obtain ⟨M1, a1, a2, a3, a4, a5, a6⟩ := f103_ok h.1
  obtain ⟨M2, b1, b2, b3⟩ := Fg_80 a3 cl
  obtain ⟨R1, r1, r2, r3⟩ := l226_2 (n := n') (x1 := (u : Int)) hn' n' 0 FU Mr (by omega) (by unfold FU; omega) h.2.1.1.1 (fun m hm => by omega)
  have r1 : l226 FU 2 Mr (u : Int) 0 0 = _ := r1
  have cv : Cv Mc (up M2 33 0 (ρ c : Int)) n := Cv_trans a2 ⟨fun a h1 h2 h3 h4 h5 => by rw [up_cell h5, b2.1 a h2], fun j hj => by rw [up_cell (by decide), b2.1 25 (by decide)], fun y hy => by rw [up_cell (by decide), b2.2 y hy]⟩
  have rv : Rv Mr (up (up R1 53 50 0) 82 0 (u : Int)) := ⟨fun a h1 h2 h3 h4 h5 => by rw [up_cell h3, up_cell h1, r2 a h2], fun j hj => by rw [up_cell (by decide), up_at hj, r2 53 (by decide)]⟩
  have F : Fin2 (up M2 33 0 (ρ c : Int)) (up (up R1 53 50 0) 82 0 (u : Int)) S n n' cs ρ ρ' := Fin2_same h ⟨cv.1 26 (by decide) (by decide) (by decide) (by decide) (by decide), cv.1 27 (by decide) (by decide) (by decide) (by decide) (by decide), cv.1 28 (by decide) (by decide) (by decide) (by decide) (by decide)⟩ ⟨rv.1 76 (by decide) (by decide) (by decide) (by decide) (by decide), rv.1 77 (by decide) (by decide) (by decide) (by decide) (by decide), rv.1 78 (by decide) (by decide) (by decide) (by decide) (by decide)⟩ (Fg_same (fun a h1 h2 => up_cell (by omega)) b3) (Fr_same (fun a h1 h2 => rv.1 a (by omega) (by omega) (by omega) (by omega) (by omega)) (rv.2 28 (by decide)) h.2.1)
  have rc := h.1.2.2 c cl
  have z31 : ∀ y, y < n → (up M2 33 0 (ρ c : Int)) 31 y = -2 := fun y hy => by rw [up_cell (by decide), b2.1 31 (by decide)]; exact a5 y hy
  have z80 : ∀ y, y < n' → (up (up R1 53 50 0) 82 0 (u : Int)) 80 y = 0 := fun y hy => by rw [up_cell (by decide), up_cell (by decide)]; exact r3 y hy
  have nv : NV (up M2 33 0 (ρ c : Int)) (up (up R1 53 50 0) 82 0 (u : Int)) S n n' ρ ρ' [(ρ c, u)] 0 := by
    refine ⟨⟨?_, ?_⟩, ⟨⟨up_same _ _ _ _, trivial⟩, ⟨up_same _ _ _ _, trivial⟩, fun p hp => ?_⟩, fun y hy => Or.inl (z31 y hy), fun y hy => Or.inl (z80 y hy), fun i hi => absurd hi (Nat.not_lt_zero _), fun v hv _ _ z => ?_, fun d x td _ => ⟨fun z => absurd (z31 _ (h.1.2.2 d (T_lt td).1).1) z, fun z => ?_⟩, fun x m hx _ z _ => absurd (z31 x hx) z⟩
    · rw [up_cell (by decide), b2.1 25 (by decide)]; exact a4
    · rw [up_cell (by decide), up_same]; rfl
    · rw [List.mem_singleton.mp hp]; exact ⟨T_r t rc.1 ul rc.2.symm rfl, rc.2⟩
    · have := z80 v hv; omega
    · have := z80 _ (h.2.1.2.2 x (T_lt td).2).1; omega
  have s0 : sn (up M2 33 0 (ρ c : Int)) n ≤ 0 := by
    have := cn_eq (p := fun y => decide ((up M2 33 0 (ρ c : Int)) 31 y ≠ -2)) (q := fun _ => false) (n := n) (fun x hx => decide_eq_false (fun z => z (z31 x hx)))
    unfold sn
    rw [this]
    have : ∀ m, cn (fun _ => false) m ≤ 0 := fun m => by
      induction m with
      | zero => exact Nat.le_refl _
      | succ m ih => unfold cn; simpa using ih
    exact this n
  have pe : ∀ x, psc (up M2 33 0 (ρ c : Int)) ρ x = psc Mc ρ x := fun x => by
    unfold psc
    rw [cv.1 26 (by decide) (by decide) (by decide) (by decide) (by decide), cv.1 27 (by decide) (by decide) (by decide) (by decide) (by decide), cv.1 28 (by decide) (by decide) (by decide) (by decide) (by decide)]
  obtain ⟨Mc', Mr', k, w1, w2, w3, w4, w5, w6, w7, w8, w9, w10⟩ := num_loop (P := fun y => ∀ P : Nat → Prop, P (ρ c) → (∀ x m, P x → m ∈ psc Mc ρ x → P m) → P y) (x1 := (c : Int)) (y1 := (u : Int)) (2 * n + 1) [(ρ c, u)] 0 FU (FU - n' - 1) 0 _ _ F nv (by omega) (by simp) (by omega) (by simp) (by unfold FU; omega) (by unfold FU; omega) (fun x m hx hm P h1 h2 => h2 x m (hx P h1 h2) (by rw [← pe]; exact hm)) (fun y hy hs => absurd (z31 y hy) hs) (fun p hp P h1 h2 => by rw [List.mem_singleton.mp hp]; exact h1)
  have w1 : l130 FU 19 (up M2 33 0 (ρ c : Int)) (c : Int) 1 0 = some (0, Mc') := w1
  have w2 : l226 (FU - n' - 1) 37 (up (up R1 53 50 0) 82 0 (u : Int)) (u : Int) 1 0 = some (0, Mr') := w2
  refine ⟨Mc', Mr', k, ?_, ?_, w3, Nm_of w3 w4 w7, ⟨w9 _ List.mem_cons_self, fun x m hx hr sx mx => ?_, fun x hx k2 sx => ?_⟩, Cv_trans cv w5, Rv_trans rv w6, fun i hi => by obtain ⟨a, b, z1, z2, z3, z4, z5, z6, z7, z8, z9⟩ := w4.2.2.2.2.1 i hi; exact z9, fun P h1 h2 y hy hs => w10 y hy hs P h1 h2⟩
  · unfold f130
    rw [a1, bs_]
    dsimp only
    rw [b1, bs_]
    exact w1
  · unfold f226
    rw [r1]
    exact w2
  · rcases w4.2.2.2.2.2.2.2 x m hx hr sx mx with z | z
    · exact z
    · exact (nomatch z)
  · rcases w4.2.2.1 x hx with z | z | ⟨-, i, -, z, -⟩
    · exact absurd z sx
    · exact absurd k2 z.1
    · omega
/-- nothing numbered -/
theorem Nm_zero {Mc Mr : Mm} (hk : Mc 25 9 = 0 ∧ Mr 53 50 = 0) (h : ∀ y, y < n → Mc 31 y = -2) : Nm Mc Mr S n n' ρ ρ' 0 :=
  ⟨⟨hk.1, hk.2, Nat.zero_le _⟩, fun y hy => Or.inl (h y hy), fun i hi => absurd hi (Nat.not_lt_zero _), fun _ _ _ _ _ i hi => absurd hi (Nat.not_lt_zero _)⟩
/-- the number of a variable here; -1: none -/
def lb (M : Mm) (y : Nat) : Int := if M 31 y < 0 then -1 else M 31 y
theorem l230_ok {M : Mm} {k : Nat} {x j : Int} (hk : k ≤ 4000) (h1 : M 53 50 = (k : Int)) (h2 : (j = -1 ∧ ∀ i : Nat, i < k → M 92 i ≠ x) ∨ (∃ i : Nat, i < k ∧ j = (i : Int) ∧ M 92 i = x ∧ ∀ i' : Nat, i' < i → M 92 i' ≠ x)) (d : Nat) : ∀ (i f : Nat), i + d = k → d < f → (∀ i' : Nat, i' < i → M 92 i' ≠ x) → l230 f 2 M x (i : Int) = some j := by
  induction d with
  | zero =>
    intro i f hi hf hb
    obtain ⟨f, rfl⟩ : ∃ f', f = f' + 1 := ⟨f - 1, by omega⟩
    rw [l230, if_pos (by omega)]
    rcases h2 with ⟨z, -⟩ | ⟨i0, z1, z2, z3, -⟩
    · rw [z]
    · exact absurd z3 (hb i0 (by omega))
  | succ d ih =>
    intro i f hi hf hb
    obtain ⟨f, rfl⟩ : ∃ f', f = f' + 1 := ⟨f - 1, by omega⟩
    rw [l230, if_neg (by omega), if_pos (by omega), Int.toNat_natCast]
    by_cases e : M 92 i = x
    · rw [if_neg (fun z => z e)]
      rcases h2 with ⟨-, z⟩ | ⟨i0, z1, z2, z3, z4⟩
      · exact absurd e (z i (by omega))
      · have : i = i0 := by
          rcases Nat.lt_trichotomy i i0 with y | y | y
          · exact absurd e (z4 i y)
          · exact y
          · exact absurd z3 (hb i0 y)
        rw [z2, this]
    · rw [if_pos e, if_pos (show rg ((i : Int) + 1) by omega), show (i : Int) + 1 = ((i + 1 : Nat) : Int) by omega]
      exact ih (i + 1) f (by omega) (by omega) (fun i' hi' => by
        by_cases e2 : i' = i
        · rw [e2]; exact e
        · exact hb i' (by omega))
theorem idx_ok {Mc Mr : Mm} {k c u : Nat} (h : Fin2 Mc Mr S n n' cs ρ ρ') (nm : Nm Mc Mr S n n' ρ ρ' k) (t : Tt S n n' ρ ρ' c u) (k2 : Mc 26 (ρ c) = 2) : f230 Mr (ρ' u : Int) = some (lb Mc (ρ c)) := by
  obtain ⟨⟨n1, n2, n3⟩, n4, n5, n6⟩ := nm
  have hn := h.1.1.2.2.1
  have rc := h.1.2.2 c (T_lt t).1
  unfold f230
  refine l230_ok (k := k) (by omega) n2 ?_ k 0 FU (by omega) (by unfold FU; omega) (fun i' hi' => absurd hi' (Nat.not_lt_zero _))
  unfold lb
  by_cases e : Mc 31 (ρ c) < 0
  · rw [if_pos e]
    exact Or.inl ⟨rfl, n6 c u t k2 e⟩
  · rw [if_neg e]
    rcases n4 (ρ c) rc.1 with z | z | ⟨-, i, i1, i2, i3⟩
    · omega
    · omega
    · have key : ∀ j : Nat, j < k → Mr 92 j = (ρ' u : Int) → j = i := fun j hj ej => by
        obtain ⟨a, b, z1, z2, z3, z4, z5, z6, z7⟩ := n5 j hj
        have eb : b = ρ' u := by omega
        have := T_c h z5 t (by rw [z4, eb])
        rw [z3] at this
        rw [← this] at i2
        omega
      refine Or.inr ⟨i, i1, i2, ?_, fun j hj ej => by have := key j (by omega) ej; omega⟩
      obtain ⟨a, b, z1, z2, z3, z4, z5, z6, z7⟩ := n5 i i1
      have ea : a = ρ c := by omega
      rcases T_u h z5 t (by rw [z3, ea]) with y | y
      · rw [z2, ← y, z4]
      · rw [z3, z7] at y; omega
end NUM
