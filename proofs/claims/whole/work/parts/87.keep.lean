/-! All terms of a unit, kept. -/
section KEEP
variable {Mc Mr : Mm} {S : Nat → Nat → Prop} {n n' k lim np un : Nat} {cs : List (Nat × Nat)} {ρ ρ' : Nat → Nat} {T : Nat → Ty}
def Rk2 (M M' : Mm) : Prop := (∀ a, a ≠ 53 → a ≠ 72 → a ≠ 73 → a ≠ 74 → a ≠ 75 → a ≠ 81 → a ≠ 82 → M' a = M a) ∧ (∀ j, j ≠ 24 → M' 53 j = M 53 j) ∧ (∀ t : Nat, (t : Int) < M 53 24 → M' 73 t = M 73 t ∧ M' 74 t = M 74 t ∧ M' 75 t = M 75 t) ∧ M 53 24 ≤ M' 53 24
theorem Rk2_of {M M' : Mm} (h : Rk M M') : Rk2 M M' := ⟨fun a h1 _ h3 h4 h5 h6 h7 => h.1 a h1 h3 h4 h5 h6 h7, h.2.1, h.2.2.1, h.2.2.2⟩
theorem Rk2_trans {M M1 M2 : Mm} (a : Rk2 M M1) (b : Rk2 M1 M2) : Rk2 M M2 := ⟨fun c h1 h2 h3 h4 h5 h6 h7 => (b.1 c h1 h2 h3 h4 h5 h6 h7).trans (a.1 c h1 h2 h3 h4 h5 h6 h7), fun j hj => (b.2.1 j hj).trans (a.2.1 j hj), fun t ht => by have q := a.2.2.1 t ht; have q2 := b.2.2.1 t (by have := a.2.2.2; omega); exact ⟨q2.1.trans q.1, q2.2.1.trans q.2.1, q2.2.2.trans q.2.2⟩, Int.le_trans a.2.2.2 b.2.2.2⟩
theorem Rk2_72 (M : Mm) (i : Nat) (v : Int) : Rk2 M (up M 72 i v) := ⟨fun a _ h2 _ _ _ _ _ => up_cell h2, fun j _ => by rw [up_cell (by decide)], fun t _ => by rw [up_cell (by decide), up_cell (by decide), up_cell (by decide)]; exact ⟨rfl, rfl, rfl⟩, by rw [up_cell (by decide)]; exact Int.le_refl _⟩
theorem KQ_72 {M : Mm} {N i : Nat} {v : Int} (q : KQ M S n n' ρ ρ' T lim M N) : KQ (up M 72 i v) S n n' ρ ρ' T lim (up M 72 i v) N := by
  obtain ⟨q1, q2, q3, q4, q5⟩ := q
  have e73 : (up M 72 i v) 73 = M 73 := up_cell (by decide)
  have e74 : (up M 72 i v) 74 = M 74 := up_cell (by decide)
  have e75 : (up M 72 i v) 75 = M 75 := up_cell (by decide)
  have e81 : (up M 72 i v) 81 = M 81 := up_cell (by decide)
  have e53 : (up M 72 i v) 53 = M 53 := up_cell (by decide)
  refine ⟨Rk_refl _, by rw [e53]; exact q2, ?_, ?_, fun c u t => ?_⟩
  · unfold WTm; rw [e73, e74, e75]; exact q3
  · rw [uN_eq (fun y => by rw [e81])]; exact q4
  · rw [e81]
    rcases q5 c u t with z | ⟨t', z1, z2, z3⟩
    · exact Or.inl z
    · exact Or.inr ⟨t', z1, z2, by rw [trm_eq q3 (fun _ _ => by rw [e73, e74, e75]; exact ⟨rfl, rfl, rfl⟩) z2]; exact z3⟩
/-- what is kept so far -/
def KS (Mc Mr : Mm) (S : Nat → Nat → Prop) (n n' : Nat) (ρ ρ' : Nat → Nat) (T : Nat → Ty) (lim np un : Nat) (M : Mm) (N p v : Nat) : Prop := Rk2 Mr M ∧ KQ M S n n' ρ ρ' T lim M N ∧ (∀ i, (i < 480 * un ∨ 480 * un + 480 ≤ i) → M 72 i = Mr 72 i) ∧ ∀ q w : Nat, (q < p ∨ (q = p ∧ w < v)) → q < np → (w : Int) < Mc 39 q → ∃ t : Nat, M 72 (8 * (60 * un + q) + w) = (t : Int) ∧ t < N ∧ trm M t = T (Mc 38 (8 * q + w)).toNat
theorem KS_fin {M : Mm} {N p v : Nat} (h : Fin2 Mc Mr S n n' cs ρ ρ') (q : KS Mc Mr S n n' ρ ρ' T lim np un M N p v) : Fin2 Mc M S n n' cs ρ ρ' := Fin2_same h ⟨rfl, rfl, rfl⟩ ⟨q.1.1 76 (by decide) (by decide) (by decide) (by decide) (by decide) (by decide) (by decide), q.1.1 77 (by decide) (by decide) (by decide) (by decide) (by decide) (by decide) (by decide), q.1.1 78 (by decide) (by decide) (by decide) (by decide) (by decide) (by decide) (by decide)⟩ h.1 (Fr_same (fun a h1 h2 => q.1.1 a (by omega) (by omega) (by omega) (by omega) (by omega) (by omega) (by omega)) (q.1.2.1 28 (by decide)) h.2.1)
theorem KS_nm {M : Mm} {N p v : Nat} (nm : Nm Mc Mr S n n' ρ ρ' k) (q : KS Mc Mr S n n' ρ ρ' T lim np un M N p v) : Nm Mc M S n n' ρ ρ' k := by
  unfold Nm
  rw [q.1.2.1 50 (by decide), q.1.1 92 (by decide) (by decide) (by decide) (by decide) (by decide) (by decide) (by decide)]
  exact nm
theorem keep_in {kk p : Nat} (h : Fin2 Mc Mr S n n' cs ρ ρ') (nm : Nm Mc Mr S n n' ρ ρ' k) (tg : TyG Mc n ρ T) (A : Acy Mc ρ n) (hlim : lim ≤ 200000) (hun : un < 74) (hp : p < 60) (hpn : p < np) (h8 : ∀ q, q < np → Mc 39 q ≤ 8) (hk : kk ≤ 8) (k1 : Mc 39 p = (kk : Int)) (k2 : Mr 89 p = (kk : Int)) (hf : ∀ v, v < kk → ∃ c u : Nat, Mc 38 (8 * p + v) = (c : Int) ∧ Mr 88 (8 * p + v) = (u : Int) ∧ S c u) (d : Nat) : ∀ (v f N : Nat) (M : Mm), v + d = kk → d < f → KS Mc Mr S n n' ρ ρ' T lim np un M N p v →
    ∃ (N' : Nat) (M' : Mm), l234 f 35 M (un : Int) (p : Int) (v : Int) = l234 (f - d - 1) 25 M' (un : Int) ((p + 1 : Nat) : Int) 0 ∧ KS Mc Mr S n n' ρ ρ' T lim np un M' N' (p + 1) 0 := by
  induction d with
  | zero =>
    intro v f N M hv hd q
    obtain ⟨f, rfl⟩ : ∃ f', f = f' + 1 := ⟨f - 1, by omega⟩
    have e89 : M 89 p = (kk : Int) := by rw [q.1.1 89 (by decide) (by decide) (by decide) (by decide) (by decide) (by decide) (by decide)]; exact k2
    refine ⟨N, M, ?_, q.1, q.2.1, q.2.2.1, fun q' w hw hq' hw' => ?_⟩
    · rw [l234, if_pos (by omega), Int.toNat_natCast, e89, if_pos (by omega), if_pos (by omega), show (p : Int) + 1 = ((p + 1 : Nat) : Int) by omega]
      rfl
    · refine q.2.2.2 q' w ?_ hq' hw'
      by_cases e : q' = p
      · subst e; exact Or.inr ⟨rfl, by omega⟩
      · exact Or.inl (by omega)
  | succ d ih =>
    intro v f N M hv hd q
    obtain ⟨f, rfl⟩ : ∃ f', f = f' + 1 := ⟨f - 1, by omega⟩
    have e89 : M 89 p = (kk : Int) := by rw [q.1.1 89 (by decide) (by decide) (by decide) (by decide) (by decide) (by decide) (by decide)]; exact k2
    obtain ⟨c, u, c1, c2, c3⟩ := hf v (by omega)
    have e88 : M 88 (8 * p + v) = (u : Int) := by rw [q.1.1 88 (by decide) (by decide) (by decide) (by decide) (by decide) (by decide) (by decide)]; exact c2
    obtain ⟨t, N1, M1, y1, y2, y3, y4⟩ := term_ok (KS_fin h q) (KS_nm nm q) tg A hlim q.2.1 (T_S (KS_fin h q) c3)
    have rk := Rk2_of y2.1
    have n1 : N ≤ N1 := by have := y2.1.2.2.2; have := q.2.1.2.1; have := y2.2.1; omega
    have ks : KS Mc Mr S n n' ρ ρ' T lim np un (up M1 72 (8 * (60 * un + p) + v) (t : Int)) N1 p (v + 1) := by
      refine ⟨Rk2_trans q.1 (Rk2_trans rk (Rk2_72 _ _ _)), KQ_72 (KQ_base y2), fun i hi => ?_, fun q' w hw hq' hw' => ?_⟩
      · rw [up_at (by omega), y2.1.1 72 (by decide) (by decide) (by decide) (by decide) (by decide) (by decide)]
        exact q.2.2.1 i hi
      · have tr : ∀ t', t' < N1 → trm (up M1 72 (8 * (60 * un + p) + v) (t : Int)) t' = trm M1 t' := fun t' h' => trm_eq y2.2.2.1 (fun _ _ => by rw [up_cell (by decide), up_cell (by decide), up_cell (by decide)]; exact ⟨rfl, rfl, rfl⟩) h'
        by_cases e : q' = p ∧ w = v
        · obtain ⟨rfl, rfl⟩ := e
          exact ⟨t, up_same _ _ _ _, y3, by rw [tr t y3, y4, c1, Int.toNat_natCast]⟩
        · have hw8 : w < 8 ∨ 8 ≤ w := by omega
          obtain ⟨t', z1, z2, z3⟩ := q.2.2.2 q' w (by omega) hq' hw'
          have hne : 8 * (60 * un + q') + w ≠ 8 * (60 * un + p) + v ∨ 8 ≤ w := by omega
          rcases hne with hne | hne
          · refine ⟨t', by rw [up_at hne, y2.1.1 72 (by decide) (by decide) (by decide) (by decide) (by decide) (by decide)]; exact z1, by omega, ?_⟩
            rw [tr t' (by omega), trm_eq q.2.1.2.2.1 (fun s hs => y2.1.2.2.1 s (by have := q.2.1.2.1; omega)) z2]
            exact z3
          · have := h8 q' hq'; omega
    obtain ⟨N2, M2, z1, z2⟩ := ih (v + 1) f N1 _ (by omega) (by omega) ks
    refine ⟨N2, M2, ?_, z2⟩
    rw [l234, if_pos (by omega), Int.toNat_natCast, e89, if_neg (by omega), if_pos (by omega), show (((8 : Int) * (p : Int)) + (v : Int)) = ((8 * p + v : Nat) : Int) by omega, Int.toNat_natCast, e88, y1, bs_]
    dsimp only
    rw [if_pos (by omega), if_pos (by omega), show (((8 : Int) * (((60 : Int) * (un : Int)) + (p : Int))) + (v : Int)) = ((8 * (60 * un + p) + v : Nat) : Int) by omega, Int.toNat_natCast, show (v : Int) + 1 = ((v + 1 : Nat) : Int) by omega, z1, show f - d - 1 = f + 1 - (d + 1) - 1 by omega]
theorem keep_out (h : Fin2 Mc Mr S n n' cs ρ ρ') (nm : Nm Mc Mr S n n' ρ ρ' k) (tg : TyG Mc n ρ T) (A : Acy Mc ρ n) (hlim : lim ≤ 200000) (hun : un < 74) (hnp : np ≤ 60) (h46 : Mr 53 46 = (np : Int)) (fl : FlP Mc Mr S np np) (d : Nat) : ∀ (p f N : Nat) (M : Mm), p + d = np → 10 * d < f → KS Mc Mr S n n' ρ ρ' T lim np un M N p 0 →
    ∃ (N' : Nat) (M' : Mm), l234 f 25 M (un : Int) (p : Int) 0 = some (0, M') ∧ KS Mc Mr S n n' ρ ρ' T lim np un M' N' np 0 := by
  have h8 : ∀ q, q < np → Mc 39 q ≤ 8 := fun q hq => by
    obtain ⟨kk, z1, z2, z3⟩ := (fl q hq).1 hq
    omega
  induction d with
  | zero =>
    intro p f N M hp hf q
    obtain ⟨f, rfl⟩ : ∃ f', f = f' + 1 := ⟨f - 1, by omega⟩
    obtain rfl : p = np := by omega
    exact ⟨N, M, by rw [l234, q.1.2.1 46 (by decide), h46, if_pos (Int.le_refl _)], q⟩
  | succ d ih =>
    intro p f N M hp hf q
    obtain ⟨f, rfl⟩ : ∃ f', f = f' + 1 := ⟨f - 1, by omega⟩
    obtain ⟨kk, z1, z2, z3, z4, z5⟩ := (fl p (by omega)).1 (by omega)
    obtain ⟨N1, M1, y1, y2⟩ := keep_in h nm tg A hlim hun (by omega) (by omega) h8 z1 z2 z3 z5 kk 0 f N M (by omega) (by omega) q
    obtain ⟨N2, M2, w1, w2⟩ := ih (p + 1) (f - kk - 1) N1 M1 (by omega) (by omega) y2
    refine ⟨N2, M2, ?_, w2⟩
    have y1 : l234 f 35 M (un : Int) (p : Int) 0 = _ := y1
    rw [l234, q.1.2.1 46 (by decide), h46, if_neg (by omega), y1, w1]
theorem l234_2 {n : Nat} {x1 : Int} (hn : n ≤ 4000) (d : Nat) : ∀ (x f : Nat) (M : Mm), x + d = n → d < f → M 53 28 = (n : Int) → (∀ m, m < x → M 81 m = -1) → ∃ M', l234 f 2 M x1 (x : Int) 0 = l234 (f - d - 1) 25 M' x1 0 0 ∧ (∀ a, a ≠ 81 → M' a = M a) ∧ ∀ m, m < n → M' 81 m = -1 := by
  induction d with
  | zero =>
    intro x f M hx hf h1 h
    obtain ⟨f, rfl⟩ : ∃ f', f = f' + 1 := ⟨f - 1, by omega⟩
    obtain rfl : x = n := by omega
    exact ⟨M, by rw [l234, h1, if_pos (Int.le_refl _)]; rfl, fun _ _ => rfl, h⟩
  | succ d ih =>
    intro x f M hx hf h1 h
    obtain ⟨f, rfl⟩ : ∃ f', f = f' + 1 := ⟨f - 1, by omega⟩
    obtain ⟨M', z1, z2, z3⟩ := ih (x + 1) f (up M 81 x (-1)) (by omega) (by omega) (by rw [up_cell (by decide)]; exact h1) (fun m hm => by
      by_cases e : m = x
      · subst e; exact up_same _ _ _ _
      · rw [up_at e]; exact h m (by omega))
    refine ⟨M', ?_, fun a ha => by rw [z2 a ha, up_cell ha], z3⟩
    rw [l234, h1, if_neg (by omega), if_pos (by omega), if_pos (by omega), Int.toNat_natCast, show (x : Int) + 1 = ((x + 1 : Nat) : Int) by omega, z1, show f - d - 1 = f + 1 - (d + 1) - 1 by omega]
/-- the terms of a unit are kept -/
theorem keep_ok {N : Nat} (h : Fin2 Mc Mr S n n' cs ρ ρ') (nm : Nm Mc Mr S n n' ρ ρ' k) (tg : TyG Mc n ρ T) (A : Acy Mc ρ n) (hun : un < 74) (hnp : np ≤ 60) (h46 : Mr 53 46 = (np : Int)) (fl : FlP Mc Mr S np np) (hN : Mr 53 24 = (N : Int)) (hw : WTm Mr N) (hl : N + n' ≤ 200000) :
    ∃ (N' : Nat) (M' : Mm), f234 Mr (un : Int) = some (0, M') ∧ Rk2 Mr M' ∧ M' 53 24 = (N' : Int) ∧ WTm M' N' ∧ N' ≤ N + n' ∧ (∀ i, (i < 480 * un ∨ 480 * un + 480 ≤ i) → M' 72 i = Mr 72 i) ∧ ∀ q w : Nat, q < np → (w : Int) < Mc 39 q → ∃ t : Nat, M' 72 (8 * (60 * un + q) + w) = (t : Int) ∧ t < N' ∧ trm M' t = T (Mc 38 (8 * q + w)).toNat := by
  have hn' := h.2.1.1.2.1
  obtain ⟨M1, e1, e2, e3⟩ := l234_2 (x1 := (un : Int)) hn' n' 0 FU Mr (by omega) (by unfold FU; omega) h.2.1.1.1 (fun m hm => by omega)
  have e1 : f234 Mr (un : Int) = _ := e1
  have u0 : uN M1 n' ≤ n' := cn_le _ _
  have rk : Rk2 Mr M1 := ⟨fun a _ _ _ _ _ h6 _ => e2 a h6, fun j _ => by rw [e2 53 (by decide)], fun t _ => by rw [e2 73 (by decide), e2 74 (by decide), e2 75 (by decide)]; exact ⟨rfl, rfl, rfl⟩, by rw [e2 53 (by decide)]; exact Int.le_refl _⟩
  have ks : KS Mc Mr S n n' ρ ρ' T (N + n') np un M1 N 0 0 := by
    refine ⟨rk, ⟨Rk_refl _, by rw [e2 53 (by decide)]; exact hN, ?_, by omega, fun c u t => Or.inl (e3 _ (h.2.1.2.2 u (T_lt t).2).1)⟩, fun i _ => by rw [e2 72 (by decide)], fun q w z => by omega⟩
    unfold WTm
    rw [e2 73 (by decide), e2 74 (by decide), e2 75 (by decide)]
    exact hw
  obtain ⟨N', M', z1, z2⟩ := keep_out h nm tg A hl hun hnp h46 fl np 0 (FU - n' - 1) N M1 (by omega) (by unfold FU; omega) ks
  have z1 : l234 (FU - n' - 1) 25 M1 (un : Int) 0 0 = some (0, M') := z1
  refine ⟨N', M', by rw [e1, z1], z2.1, z2.2.1.2.1, z2.2.1.2.2.1, by have := z2.2.1.2.2.2.1; omega, z2.2.2.1, fun q w hq hw => z2.2.2.2 q w (Or.inl hq) hq hw⟩
end KEEP
