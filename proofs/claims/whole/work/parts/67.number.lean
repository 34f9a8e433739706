/-! Numbering the variables of a type, here and there. -/
def sk (M : Mm) (a : Nat) : List Nat → Prop
  | [] => True
  | x :: L => M a L.length = (x : Int) ∧ sk M a L
theorem sk_eq {M M' : Mm} {a : Nat} : ∀ {L : List Nat}, (∀ i, i < L.length → M' a i = M a i) → sk M a L → sk M' a L
  | [], _, _ => trivial
  | x :: L, h, k => ⟨by rw [h L.length (by simp)]; exact k.1, sk_eq (fun i hi => h i (by simp; omega)) k.2⟩
/-- the roots of the parts, the left first -/
def psc (M : Mm) (ρ : Nat → Nat) (x : Nat) : List Nat := if M 26 x = 3 then [ρ (M 27 x).toNat] else if M 26 x = 4 then [ρ (M 27 x).toNat, ρ (M 28 x).toNat] else []
def psr (M : Mm) (x : Nat) : List Nat := if M 76 x = 3 then [(M 77 x).toNat] else if M 76 x = 4 then [(M 77 x).toNat, (M 78 x).toNat] else []
theorem Fg_25 {M : Mm} {n : Nat} {ρ : Nat → Nat} {v : Int} (h : Fg M n ρ) : Fg (up M 25 9 v) n ρ := by
  have e : (up M 25 9 v) 25 8 = M 25 8 := up_at (by decide)
  obtain ⟨g, l, i⟩ := h
  unfold Fg GW Lc
  rw [e, up_cell (show 26 ≠ 25 by decide), up_cell (show 27 ≠ 25 by decide), up_cell (show 28 ≠ 25 by decide), up_cell (show 29 ≠ 25 by decide), gN_fr (show (up M 25 9 v) 29 = M 29 from up_cell (by decide))]
  exact ⟨g, l, i⟩
theorem f131_ok {M : Mm} {n x k : Nat} {ρ : Nat → Nat} {L : List Nat} (h : Fg M n ρ) (hx : x < n) (hk : M 25 9 = (k : Int)) (hk2 : k < 2504) (hs : sk M 33 L) (hL : L.length ≤ 5000) :
    ∃ M', f131 M (x : Int) (L.length : Int) = some (((psc M ρ x ++ L).length : Int), M') ∧ Fg M' n ρ ∧ sk M' 33 (psc M ρ x ++ L) ∧ (∀ a, a ≠ 25 → a ≠ 29 → a ≠ 31 → a ≠ 32 → a ≠ 33 → M' a = M a) ∧ (∀ j, j ≠ 9 → M' 25 j = M 25 j) ∧ (∀ y, M' 31 y = if y = x then (if M 26 x = 2 then (k : Int) else -1) else M 31 y) ∧ (∀ y, n ≤ y → M' 29 y = M 29 y) ∧ ((M 26 x = 2 ∧ M' 25 9 = ((k + 1 : Nat) : Int) ∧ ∀ j, M' 32 j = if j = k then (x : Int) else M 32 j) ∨ (M 26 x ≠ 2 ∧ M' 25 9 = (k : Int) ∧ ∀ j, M' 32 j = M 32 j)) := by
  have hn := h.1.2.2.1
  obtain ⟨q1, q2, q3, q4, q5, q6⟩ := h.1.2.2.2 x hx
  have tn : Int.toNat (x : Int) = x := Int.toNat_natCast x
  have tl : Int.toNat (L.length : Int) = L.length := Int.toNat_natCast _
  unfold f131
  rw [if_pos (by omega), tn]
  by_cases k2 : M 26 x = 2
  · have z27 := q3 (by omega)
    have z28 := q5 (by omega)
    have ps : psc M ρ x = [] := by unfold psc; rw [if_neg (by omega), if_neg (by omega)]
    rw [if_neg (fun q => q k2), hk, if_pos (by omega), if_pos (by omega), if_pos z28, if_pos z27, Int.toNat_natCast, ps]
    refine ⟨_, rfl, Fg_same (fun a h1 h2 => ?_) (Fg_25 (M := M) (v := ((k : Int) + 1)) h), ?_, fun a h1 h2 h3 h4 h5 => ?_, fun j hj => ?_, fun y => ?_, fun y hy => ?_, Or.inl ⟨k2, ?_, fun j => ?_⟩⟩
    · by_cases e : a = 25
      · subst e
        rw [up_cell (by decide)]
        funext j
        simp [up]
      · rw [up_cell (by omega), up_cell e, up_cell (by omega), up_cell (by omega), up_cell e]
    · exact sk_eq (fun i _ => by rw [up_cell (by decide), up_cell (by decide), up_cell (by decide), up_cell (by decide)]) hs
    · rw [up_cell h3, up_cell h1, up_cell h4, up_cell h3]
    · rw [up_cell (by decide), up_at hj, up_cell (by decide), up_cell (by decide)]
    · by_cases e : y = x
      · subst e; rw [up_same, if_pos rfl, if_pos k2]
      · rw [up_at e, up_cell (by decide), up_cell (by decide), up_at e, if_neg e]
    · rw [up_cell (by decide), up_cell (by decide), up_cell (by decide), up_cell (by decide)]
    · rw [up_cell (by decide), up_same]; omega
    · simp [up]
  · rw [if_pos k2]
    have hU : Fg (up M 31 x (-1)) n ρ := Fg_same (fun a h1 h2 => up_cell (by omega)) h
    have u31 : ∀ y, (up M 31 x (-1)) 31 y = if y = x then (if M 26 x = 2 then (k : Int) else -1) else M 31 y := fun y => by simp [up, k2]
    by_cases k4 : M 26 x = 4
    · have p1 := q2 (by omega)
      have p2 := q4 k4
      obtain ⟨a, ha⟩ : ∃ a : Nat, M 27 x = (a : Int) := ⟨(M 27 x).toNat, by omega⟩
      obtain ⟨b, hb⟩ : ∃ b : Nat, M 28 x = (b : Int) := ⟨(M 28 x).toNat, by omega⟩
      have ps : psc M ρ x = [ρ a, ρ b] := by unfold psc; rw [if_neg (by omega), if_pos k4, ha, hb]; rfl
      obtain ⟨M1, e1, e2, e3⟩ := Fg_80 hU (x := b) (by omega)
      obtain ⟨M2, g1, g2, g3⟩ := Fg_80 (M := up M1 33 L.length (ρ b : Int)) (Fg_same (fun a h1 h2 => up_cell (by omega)) e3) (x := a) (by omega)
      have m27 : M1 27 x = (a : Int) := by rw [e2.1 27 (by decide), up_cell (by decide)]; exact ha
      rw [if_neg (by omega), hb, e1, bs_]
      dsimp only
      rw [if_pos (by omega), if_neg (show ¬ M1 27 x = -1 by rw [m27]; omega), m27, tl, g1, bs_]
      dsimp only
      rw [if_pos (by omega), if_pos (by omega), show ((L.length : Int) + 1).toNat = L.length + 1 by omega, ps]
      have z33 : ∀ i, (up M2 33 (L.length + 1) (ρ a : Int)) 33 i = if i = L.length + 1 then (ρ a : Int) else if i = L.length then (ρ b : Int) else M 33 i := fun i => by
        simp [up, g2.1 33 (by decide), e2.1 33 (by decide)]
      have zz : ∀ c, c ≠ 29 → c ≠ 33 → c ≠ 31 → (up M2 33 (L.length + 1) (ρ a : Int)) c = M c := fun c h1 h2 h3 => by rw [up_cell h2, g2.1 c h1, up_cell h2, e2.1 c h1, up_cell h3]
      refine ⟨_, rfl, Fg_same (fun a h1 h2 => up_cell (by omega)) g3, ⟨?_, ?_, sk_eq (fun i hi => ?_) hs⟩, fun c h1 h2 h3 h4 h5 => zz c h2 h5 h3, fun j _ => by rw [zz 25 (by decide) (by decide) (by decide)], fun y => ?_, fun y hy => ?_, Or.inr ⟨k2, ?_, fun j => by rw [zz 32 (by decide) (by decide) (by decide)]⟩⟩
      · exact (z33 _).trans (if_pos rfl)
      · rw [z33, if_neg (by simp), if_pos (by simp)]
      · have hi : i < L.length := hi
        rw [z33, if_neg (by omega), if_neg (by omega)]
      · rw [up_cell (by decide), g2.1 31 (by decide), up_cell (by decide), e2.1 31 (by decide)]; exact u31 y
      · rw [up_cell (by decide), g2.2 y hy, up_cell (by decide), e2.2 y hy, up_cell (by decide)]
      · rw [zz 25 (by decide) (by decide) (by decide)]; exact hk
    · have z28 := q5 k4
      rw [if_pos z28]
      by_cases k3 : M 26 x = 3
      · have p1 := q2 (by omega)
        obtain ⟨a, ha⟩ : ∃ a : Nat, M 27 x = (a : Int) := ⟨(M 27 x).toNat, by omega⟩
        have ps : psc M ρ x = [ρ a] := by unfold psc; rw [if_pos k3, ha]; rfl
        obtain ⟨M1, e1, e2, e3⟩ := Fg_80 hU (x := a) (by omega)
        rw [if_neg (by omega), ha, e1, bs_]
        dsimp only
        rw [if_pos (by omega), if_pos (by omega), tl, ps]
        have zz : ∀ c, c ≠ 29 → c ≠ 33 → c ≠ 31 → (up M1 33 L.length (ρ a : Int)) c = M c := fun c h1 h2 h3 => by rw [up_cell h2, e2.1 c h1, up_cell h3]
        refine ⟨_, rfl, Fg_same (fun a h1 h2 => up_cell (by omega)) e3, ⟨up_same _ _ _ _, sk_eq (fun i hi => ?_) hs⟩, fun c h1 h2 h3 h4 h5 => zz c h2 h5 h3, fun j _ => by rw [zz 25 (by decide) (by decide) (by decide)], fun y => ?_, fun y hy => ?_, Or.inr ⟨k2, ?_, fun j => by rw [zz 32 (by decide) (by decide) (by decide)]⟩⟩
        · have hi : i < L.length := hi
          rw [up_at (by omega), e2.1 33 (by decide), up_cell (by decide)]
        · rw [up_cell (by decide), e2.1 31 (by decide)]; exact u31 y
        · rw [up_cell (by decide), e2.2 y hy, up_cell (by decide)]
        · rw [zz 25 (by decide) (by decide) (by decide)]; exact hk
      · have z27 := q3 (by omega)
        have ps : psc M ρ x = [] := by unfold psc; rw [if_neg k3, if_neg k4]
        rw [if_pos z27, ps]
        exact ⟨_, rfl, hU, sk_eq (fun i _ => by rw [up_cell (by decide)]) hs, fun c h1 h2 h3 h4 h5 => up_cell h3, fun j _ => by rw [up_cell (by decide)], u31, fun y _ => by rw [up_cell (by decide)], Or.inr ⟨k2, by rw [up_cell (by decide)]; exact hk, fun j => by rw [up_cell (by decide)]⟩⟩
/-- what is numbered so far -/
def NV (Mc Mr : Mm) (S : Nat → Nat → Prop) (n n' : Nat) (ρ ρ' : Nat → Nat) (L : List (Nat × Nat)) (k : Nat) : Prop :=
  (Mc 25 9 = (k : Int) ∧ Mr 53 50 = (k : Int)) ∧ (sk Mc 33 (L.map Prod.fst) ∧ sk Mr 82 (L.map Prod.snd) ∧ ∀ p ∈ L, Tt S n n' ρ ρ' p.1 p.2 ∧ ρ p.1 = p.1) ∧
  (∀ y, y < n → Mc 31 y = -2 ∨ (Mc 26 y ≠ 2 ∧ Mc 31 y = -1) ∨ (Mc 26 y = 2 ∧ ∃ i : Nat, i < k ∧ Mc 31 y = (i : Int) ∧ Mc 32 i = (y : Int))) ∧
  (∀ u, u < n' → Mr 80 u = 0 ∨ Mr 80 u = 1) ∧
  (∀ i : Nat, i < k → ∃ c v : Nat, Mc 32 i = (c : Int) ∧ Mr 92 i = (v : Int) ∧ ρ c = c ∧ ρ' v = v ∧ Tt S n n' ρ ρ' c v ∧ Mc 31 c = (i : Int) ∧ Mc 26 c = 2 ∧ Mr 80 v = 1 ∧ Mr 93 i = 0) ∧
  (∀ v, v < n' → ρ' v = v → Mr 76 v = 2 → Mr 80 v = 1 → ∃ i : Nat, i < k ∧ Mr 92 i = (v : Int)) ∧
  (∀ c u, Tt S n n' ρ ρ' c u → 2 ≤ Mc 26 (ρ c) → (Mc 31 (ρ c) ≠ -2 ↔ Mr 80 (ρ' u) = 1)) ∧
  (∀ x m, x < n → ρ x = x → Mc 31 x ≠ -2 → mu Mc ρ x m ≠ 0 → Mc 31 m ≠ -2 ∨ m ∈ L.map Prod.fst)
/-- how many were seen -/
def sn (M : Mm) (n : Nat) : Nat := cn (fun y => decide (M 31 y ≠ -2)) n
/-- frames -/
def Cv (M M' : Mm) (n : Nat) : Prop := (∀ a, a ≠ 25 → a ≠ 29 → a ≠ 31 → a ≠ 32 → a ≠ 33 → M' a = M a) ∧ (∀ j, j ≠ 9 → M' 25 j = M 25 j) ∧ ∀ y, n ≤ y → M' 29 y = M 29 y
def Rv (M M' : Mm) : Prop := (∀ a, a ≠ 53 → a ≠ 80 → a ≠ 82 → a ≠ 92 → a ≠ 93 → M' a = M a) ∧ ∀ j, j ≠ 50 → M' 53 j = M 53 j
theorem Cv_trans {M M1 M2 : Mm} {n : Nat} (a : Cv M M1 n) (b : Cv M1 M2 n) : Cv M M2 n := ⟨fun c h1 h2 h3 h4 h5 => (b.1 c h1 h2 h3 h4 h5).trans (a.1 c h1 h2 h3 h4 h5), fun j hj => (b.2.1 j hj).trans (a.2.1 j hj), fun y hy => (b.2.2 y hy).trans (a.2.2 y hy)⟩
theorem Rv_trans {M M1 M2 : Mm} (a : Rv M M1) (b : Rv M1 M2) : Rv M M2 := ⟨fun c h1 h2 h3 h4 h5 => (b.1 c h1 h2 h3 h4 h5).trans (a.1 c h1 h2 h3 h4 h5), fun j hj => (b.2 j hj).trans (a.2 j hj)⟩
/-- the reference's turn at one that it hasn't marked -/
theorem l226_un {M : Mm} {n u q k : Nat} {ρ : Nat → Nat} {L : List Nat} {x1 : Int} {f : Nat} (h : Fr M n ρ) (hu : u < n) (hq : ρ u = q) (hs : sk M 82 (u :: L)) (hm : ¬ M 80 q = 1) (hk : M 53 50 = (k : Int)) (hk2 : k < 4000) (hL : L.length ≤ 15000) :
    ∃ (g : Nat) (M' : Mm), f ≤ g ∧ l226 (f + 5) 37 M x1 ((u :: L).length : Int) 0 = l226 g 37 M' x1 ((psr M q ++ L).length : Int) 0 ∧ sk M' 82 (psr M q ++ L) ∧ Rv M M' ∧ (∀ y, M' 80 y = if y = q then 1 else M 80 y) ∧ ((M 76 q = 2 ∧ M' 53 50 = ((k + 1 : Nat) : Int) ∧ (∀ j, M' 92 j = if j = k then (q : Int) else M 92 j) ∧ ∀ j, M' 93 j = if j = k then 0 else M 93 j) ∨ (M 76 q ≠ 2 ∧ M' 53 50 = (k : Int) ∧ (∀ j, M' 92 j = M 92 j) ∧ ∀ j, M' 93 j = M 93 j)) := by
  have hn := h.1.2.1
  have hqn : q < n := by rw [← hq]; exact (h.2.2 u hu).1
  obtain ⟨q1, q2, q3, q4⟩ := h.1.2.2 q hqn
  have tq : Int.toNat (q : Int) = q := Int.toNat_natCast q
  have el : (((u :: L).length : Nat) : Int) = (L.length : Int) + 1 := by simp
  have g1 : 0 ≤ (q : Int) ∧ (q : Int) < 4000 := by omega
  have g2 : rg (L.length : Int) := by omega
  have tl : Int.toNat (L.length : Int) = L.length := Int.toNat_natCast _
  -- behind the marking
  have rest : ∀ (g : Nat) (N : Mm), (∀ a, a ≠ 53 → a ≠ 80 → a ≠ 92 → a ≠ 93 → N a = M a) → ∃ (g' : Nat) (M' : Mm), g ≤ g' + 4 ∧ l226 g 115 N x1 (L.length : Int) (q : Int) = l226 g' 37 M' x1 ((psr M q ++ L).length : Int) 0 ∧ sk M' 82 (psr M q ++ L) ∧ (∀ a, a ≠ 82 → M' a = N a) ∨ g < 4 := by
    intro g N hN
    by_cases hg : g < 4
    · exact ⟨0, N, Or.inr hg⟩
    · obtain ⟨g, rfl⟩ : ∃ g', g = g' + 4 := ⟨g - 4, by omega⟩
      have n76 := hN 76 (by decide) (by decide) (by decide) (by decide)
      have n77 := hN 77 (by decide) (by decide) (by decide) (by decide)
      have n78 := hN 78 (by decide) (by decide) (by decide) (by decide)
      have n82 := hN 82 (by decide) (by decide) (by decide) (by decide)
      by_cases k4 : M 76 q = 4
      · have ps : psr M q = [(M 77 q).toNat, (M 78 q).toNat] := by unfold psr; rw [if_neg (by omega), if_pos k4]
        have p1 := q2 (by omega)
        have p2 := q3 k4
        rw [ps]
        refine ⟨g, up (up N 82 L.length (M 78 q)) 82 (L.length + 1) (M 77 q), Or.inl ⟨by omega, ?_, ⟨?_, ?_, sk_eq (fun i hi => ?_) hs.2⟩, fun a ha => by rw [up_cell ha, up_cell ha]⟩⟩
        · rw [l226, if_pos g1, tq, n76, if_neg (fun z => z k4), if_pos (by omega), if_pos (by omega), tl, n78, l226, if_pos g1, tq, up_cell (show 76 ≠ 82 by decide), n76, if_neg (by omega), if_neg (fun z => z k4), l226, if_pos g1, if_pos (by omega), if_pos (by omega), tq, up_cell (show 77 ≠ 82 by decide), n77, show ((L.length : Int) + 1).toNat = L.length + 1 by omega, l226]
          rfl
        · exact (up_same _ _ _ _).trans (by omega)
        · show up (up N 82 L.length (M 78 q)) 82 (L.length + 1) (M 77 q) 82 L.length = _
          rw [up_at (by omega), up_same]; omega
        · have hi : i < L.length := hi
          rw [up_at (by omega), up_at (by omega), n82]
      · by_cases k3 : M 76 q = 3
        · have ps : psr M q = [(M 77 q).toNat] := by unfold psr; rw [if_pos k3]
          have p1 := q2 (by omega)
          rw [ps]
          refine ⟨g, up N 82 L.length (M 77 q), Or.inl ⟨by omega, ?_, ⟨?_, sk_eq (fun i hi => ?_) hs.2⟩, fun a ha => up_cell ha⟩⟩
          · rw [l226, if_pos g1, tq, n76, if_pos k4, l226, if_pos g1, tq, n76, if_pos k3, l226, if_pos g1, if_pos (by omega), if_pos (by omega), tq, tl, n77, l226]
            rfl
          · exact (up_same _ _ _ _).trans (by omega)
          · have hi : i < L.length := hi
            rw [up_at (by omega), n82]
        · have ps : psr M q = [] := by unfold psr; rw [if_neg k3, if_neg k4]
          rw [ps]
          refine ⟨g + 1, N, Or.inl ⟨by omega, ?_, sk_eq (fun i _ => by rw [n82]) hs.2, fun _ _ => rfl⟩⟩
          show l226 (g + 4) 115 N x1 (L.length : Int) (q : Int) = l226 (g + 1) 37 N x1 (L.length : Int) 0
          generalize hR : l226 (g + 1) 37 N x1 (L.length : Int) 0 = R
          rw [l226, if_pos g1, tq, n76, if_pos k4, l226, if_pos g1, tq, n76, if_neg k3, if_pos k4, l226]
          exact hR
  rw [l226, el, if_neg (by omega), show (L.length : Int) + 1 + -1 = (L.length : Int) by omega, if_pos (by omega), tl, hs.1, Fr_217 h hu, bs_, hq, if_pos g1, tq, if_pos hm]
  by_cases k2 : M 76 q = 2
  · rw [if_neg (fun z => z k2), hk, if_pos (by omega), if_pos (by omega), if_pos g2, Int.toNat_natCast]
    obtain ⟨g', M', r⟩ := rest (f + 4) (up (up (up (up M 80 q 1) 92 k (q : Int)) 93 k 0) 53 50 ((k : Int) + 1)) (fun a h1 h2 h3 h4 => by rw [up_cell h1, up_cell h4, up_cell h3, up_cell h2])
    rcases r with ⟨r1, r2, r3, r4⟩ | r
    · refine ⟨g', M', by omega, r2, r3, ⟨fun a h1 h2 h3 h4 h5 => by rw [r4 a h3, up_cell h1, up_cell h5, up_cell h4, up_cell h2], fun j hj => by rw [r4 53 (by decide), up_at hj, up_cell (by decide), up_cell (by decide), up_cell (by decide)]⟩, fun y => ?_, Or.inl ⟨k2, ?_, fun j => ?_, fun j => ?_⟩⟩
      · rw [r4 80 (by decide)]; simp [up]
      · rw [r4 53 (by decide), up_same]; omega
      · rw [r4 92 (by decide)]; simp [up]
      · rw [r4 93 (by decide)]; simp [up]
    · omega
  · rw [if_pos k2, if_pos g2]
    obtain ⟨g', M', r⟩ := rest (f + 4) (up M 80 q 1) (fun a h1 h2 h3 h4 => up_cell h2)
    rcases r with ⟨r1, r2, r3, r4⟩ | r
    · refine ⟨g', M', by omega, r2, r3, ⟨fun a h1 h2 h3 h4 h5 => by rw [r4 a h3, up_cell h2], fun j hj => by rw [r4 53 (by decide), up_cell (by decide)]⟩, fun y => ?_, Or.inr ⟨k2, ?_, fun j => ?_, fun j => ?_⟩⟩
      · rw [r4 80 (by decide)]; simp [up]
      · rw [r4 53 (by decide), up_cell (by decide)]; exact hk
      · rw [r4 92 (by decide), up_cell (by decide)]
      · rw [r4 93 (by decide), up_cell (by decide)]
    · omega
theorem l226_se {M : Mm} {n u q : Nat} {ρ : Nat → Nat} {L : List Nat} {x1 : Int} {f : Nat} (h : Fr M n ρ) (hu : u < n) (hq : ρ u = q) (hs : sk M 82 (u :: L)) (hm : M 80 q = 1) (hL : L.length ≤ 15000) : l226 (f + 1) 37 M x1 ((u :: L).length : Int) 0 = l226 f 37 M x1 (L.length : Int) 0 := by
  have hn := h.1.2.1
  have hqn : q < n := by rw [← hq]; exact (h.2.2 u hu).1
  have el : (((u :: L).length : Nat) : Int) = (L.length : Int) + 1 := by simp
  rw [l226, el, if_neg (by omega), show (L.length : Int) + 1 + -1 = (L.length : Int) by omega, if_pos (by omega), Int.toNat_natCast, hs.1, Fr_217 h hu, bs_, hq, if_pos (by omega), Int.toNat_natCast, if_neg (fun z => z hm), if_pos (by omega)]
