/-! Plans: what the class keeps of a type. -/
def plc : Ty → Int
  | .nil => 0
  | .line => 1
  | .nest v _ => if v < 0 then 2 else 4 + v
  | .group a _ => 16 + plc a
  | _ => 2
section PLAN
variable {Mc Mr : Mm} {S : Nat → Nat → Prop} {n n' k lim np un : Nat} {cs : List (Nat × Nat)} {ρ ρ' : Nat → Nat} {T : Nat → Ty}
theorem f114_eq {M : Mm} {x : Nat} (hx : x < 2504) (h : -2 ≤ M 31 x) : f114 M (x : Int) = some (lb M x, M) := by
  unfold f114 lb
  rw [if_pos (by omega), Int.toNat_natCast]
  by_cases z : M 31 x < -1
  · rw [if_pos z, if_pos (by omega)]
  · by_cases z2 : M 31 x < 0
    · rw [if_neg z, if_pos z2, show M 31 x = -1 by omega]
    · rw [if_neg z, if_neg z2]
theorem pl_end {M : Mm} {x x3 : Nat} (F : Fg M n ρ) (tg : TyG M n ρ T) (hx : x < n) (hq : ρ x = x) (h31 : ∀ y, y < n → -2 ≤ M 31 y ∧ M 31 y ≤ 3000) (h3 : M 26 x ≠ 3) (h3b : x3 ≤ 2504) : (f111 M (x : Int)).bind (fun q => (f114 M (x : Int)).bind (fun z => (f123 z.2 q z.1).bind (fun r => if rg (((x3 : Int) * 16) + r) then (some ((((x3 : Int) * 16) + r), z.2)) else none))) = some ((x3 : Int) * 16 + plc (T x), M) := by
  have hn := F.1.2.2.1
  obtain ⟨q1, q2, q3, q4, q5, q6⟩ := F.1.2.2.2 x hx
  obtain ⟨g0, g1, g2, g3, g4, g5⟩ := tg.2 x hx
  rw [hq] at g0 g1 g2 g3 g4 g5
  have h31x := h31 x hx
  rw [f111_ok (by omega), bs_, f114_eq (by omega) h31x.1, bs_]
  dsimp only
  have key : f123 M (M 26 x) (lb M x) = some (plc (T x)) ∧ 0 ≤ plc (T x) ∧ plc (T x) ≤ 4000 := by
    unfold f123
    by_cases k0 : M 26 x = 0
    · rw [if_pos k0, g0 k0, k0]; exact ⟨rfl, by decide, by decide⟩
    · rw [if_neg k0]
      by_cases k1 : M 26 x = 1
      · rw [if_neg (fun z => z k1), g1 k1, k1]; exact ⟨rfl, by decide, by decide⟩
      · rw [if_pos k1]
        by_cases k5 : M 26 x = 5
        · rw [if_neg (fun z => z k5), g5 k5]; exact ⟨rfl, by decide, by decide⟩
        · rw [if_pos k5]
          by_cases k2 : M 26 x = 2
          · rw [if_neg (fun z => z k2), g2 k2]
            show _ = some (if lb M x < 0 then 2 else 4 + lb M x) ∧ 0 ≤ (if lb M x < 0 then 2 else 4 + lb M x) ∧ (if lb M x < 0 then 2 else 4 + lb M x) ≤ 4000
            have hl : lb M x = -1 ∨ (0 ≤ lb M x ∧ lb M x ≤ 3000) := by
              unfold lb
              by_cases z : M 31 x < 0
              · rw [if_pos z]; exact Or.inl rfl
              · rw [if_neg z]; exact Or.inr (by omega)
            by_cases z : lb M x = -1
            · rw [if_pos z, if_pos (by omega)]; exact ⟨rfl, by decide, by decide⟩
            · rw [if_neg z, if_pos (show rg ((4 : Int) + lb M x) by omega), if_neg (show ¬ lb M x < 0 by omega)]; exact ⟨rfl, by omega, by omega⟩
          · rw [if_pos k2, g4 (by omega)]; exact ⟨rfl, (by decide : (0 : Int) ≤ 2), (by decide : (2 : Int) ≤ 4000)⟩
  rw [key.1, bs_, if_pos (show rg ((x3 : Int) * 16 + plc (T x)) by omega)]
theorem plan_loop {x1 : Int} {r : Nat → Nat} (b : Nat) : ∀ (x x3 f : Nat) (M : Mm), r x ≤ b → x3 + b ≤ 2504 → b < f → Fg M n ρ → TyG M n ρ T → (∀ x m, x < n → ρ x = x → mu M ρ x m ≠ 0 → r m < r x) → (∀ y, y < n → -2 ≤ M 31 y ∧ M 31 y ≤ 3000) → x < n → ρ x = x →
    ∃ M', l122_25 f 8 M x1 (x : Int) (x3 : Int) = some ((x3 : Int) * 16 + plc (T x), M') ∧ fr29 M M' n ∧ Fg M' n ρ := by
  induction b with
  | zero =>
    intro x x3 f M hb h3 hf F tg hr h31 hx hq
    obtain ⟨f, rfl⟩ : ∃ f', f = f' + 1 := ⟨f - 1, by omega⟩
    have hn := F.1.2.2.1
    have k3 : M 26 x ≠ 3 := fun z => by have := hr x _ hx hq (mu_iff.mpr (Or.inl ⟨by omega, rfl⟩)); omega
    have e := pl_end (x3 := x3) F tg hx hq h31 k3 (by omega)
    refine ⟨M, ?_, ⟨fun _ _ => rfl, fun _ _ => rfl⟩, F⟩
    rw [l122_25]
    by_cases z : (2504 : Int) ≤ (x3 : Int)
    · rw [if_pos z]; exact e
    · rw [if_neg z, f111_ok (by omega), bs_, if_pos k3, ← f111_ok (M := M) (x := x) (by omega)]; exact e
  | succ b ih =>
    intro x x3 f M hb h3 hf F tg hr h31 hx hq
    obtain ⟨f, rfl⟩ : ∃ f', f = f' + 1 := ⟨f - 1, by omega⟩
    have hn := F.1.2.2.1
    by_cases k3 : M 26 x = 3
    · have g3 := (tg.2 x hx).2.2.2.1
      rw [hq] at g3
      have g3 := g3 k3
      have w := (F.1.2.2.2 x hx).2.1 (by omega)
      obtain ⟨a, ha⟩ : ∃ a : Nat, M 27 x = (a : Int) := ⟨(M 27 x).toNat, by omega⟩
      have ra := F.2.2 a (by omega)
      have rr := hr x (ρ a) hx hq (mu_iff.mpr (Or.inl ⟨by omega, by rw [ha, Int.toNat_natCast]⟩))
      rw [ha, Int.toNat_natCast] at g3
      have Ta : T (ρ a) = T a := tg.1 _ _ ra.2
      obtain ⟨M1, e1, e2, e3⟩ := Fg_80 F (x := a) (by omega)
      obtain ⟨M2, z1, z2, z3⟩ := ih (ρ a) (x3 + 1) f M1 (by omega) (by omega) (by omega) e3 (TyG_fr ⟨e2.1 26 (by decide), e2.1 27 (by decide), e2.1 28 (by decide), e2.1 31 (by decide)⟩ tg) (by unfold mu; rw [e2.1 26 (by decide), e2.1 27 (by decide), e2.1 28 (by decide)]; exact hr) (by rw [e2.1 31 (by decide)]; exact h31) ra.1 ra.2
      refine ⟨M2, ?_, fr29_trans e2 z2, z3⟩
      have e112 : f112 M (x : Int) = some ((ρ a : Int), M1) := by
        unfold f112
        rw [if_pos (by omega), Int.toNat_natCast, ha, e1, bs_]
      rw [l122_25, if_neg (by omega), f111_ok (by omega), bs_, if_neg (fun z => z k3), e112, bs_]
      dsimp only
      rw [if_pos (by omega), show (x3 : Int) + 1 = ((x3 + 1 : Nat) : Int) by omega, z1, g3, Ta]
      show some (((x3 + 1 : Nat) : Int) * 16 + plc (T a), M2) = some ((x3 : Int) * 16 + (16 + plc (T a)), M2)
      rw [show ((x3 + 1 : Nat) : Int) * 16 + plc (T a) = (x3 : Int) * 16 + (16 + plc (T a)) by omega]
    · have e := pl_end (x3 := x3) F tg hx hq h31 k3 (by omega)
      refine ⟨M, ?_, ⟨fun _ _ => rfl, fun _ _ => rfl⟩, F⟩
      rw [l122_25]
      by_cases z : (2504 : Int) ≤ (x3 : Int)
      · rw [if_pos z]; exact e
      · rw [if_neg z, f111_ok (by omega), bs_, if_pos k3, ← f111_ok (M := M) (x := x) (by omega)]; exact e
theorem plan_ok {M : Mm} {x : Nat} (F : Fg M n ρ) (tg : TyG M n ρ T) (A : Acy M ρ n) (h31 : ∀ y, y < n → -2 ≤ M 31 y ∧ M 31 y ≤ 3000) (hx : x < n) : ∃ M', f122_25 M (x : Int) = some (plc (T x), M') ∧ fr29 M M' n ∧ Fg M' n ρ := by
  obtain ⟨r, hr, hA⟩ := A
  have hn := F.1.2.2.1
  have rx := F.2.2 x hx
  obtain ⟨M1, e1, e2, e3⟩ := Fg_80 F hx
  obtain ⟨M2, z1, z2, z3⟩ := plan_loop (x1 := (x : Int)) (r := r) n (ρ x) 0 FU M1 (hr _) (by omega) (by unfold FU; omega) e3 (TyG_fr ⟨e2.1 26 (by decide), e2.1 27 (by decide), e2.1 28 (by decide), e2.1 31 (by decide)⟩ tg) (by unfold mu; rw [e2.1 26 (by decide), e2.1 27 (by decide), e2.1 28 (by decide)]; exact hA) (by rw [e2.1 31 (by decide)]; exact h31) rx.1 rx.2
  refine ⟨M2, ?_, fr29_trans e2 z2, z3⟩
  unfold f122_25
  rw [e1, bs_]
  have z1 : l122_25 FU 8 M1 (x : Int) (ρ x : Int) 0 = some (0 * 16 + plc (T (ρ x)), M2) := z1
  rw [z1, tg.1 _ _ rx.2, show (0 : Int) * 16 + plc (T x) = plc (T x) by omega]
theorem l99p_ok {lo hi : Nat} (hh : hi ≤ 35520) (d : Nat) : ∀ (x f : Nat) (M : Mm), x + d = hi → lo ≤ x → d < f → (∀ m, lo ≤ m → m < x → M 23 m = 2) → ∃ M', l99_23 f 10 M (lo : Int) (hi : Int) 2 (x : Int) = some (0, M') ∧ (∀ a, a ≠ 23 → M' a = M a) ∧ (∀ m, lo ≤ m → m < hi → M' 23 m = 2) ∧ ∀ m, m < x ∨ hi ≤ m → M' 23 m = M 23 m := by
  induction d with
  | zero =>
    intro x f M hx hlo hf h
    obtain ⟨f, rfl⟩ : ∃ f', f = f' + 1 := ⟨f - 1, by omega⟩
    obtain rfl : x = hi := by omega
    exact ⟨M, by rw [l99_23, if_pos (Int.le_refl _)], fun _ _ => rfl, h, fun _ _ => rfl⟩
  | succ d ih =>
    intro x f M hx hlo hf h
    obtain ⟨f, rfl⟩ : ∃ f', f = f' + 1 := ⟨f - 1, by omega⟩
    obtain ⟨M', z1, z2, z3, z4⟩ := ih (x + 1) f (up M 23 x 2) (by omega) (by omega) (by omega) (fun m h1 hm => by
      by_cases e : m = x
      · subst e; exact up_same _ _ _ _
      · rw [up_at e]; exact h m h1 (by omega))
    refine ⟨M', ?_, fun a ha => by rw [z2 a ha, up_cell ha], z3, fun m hm => by rw [z4 m (by omega), up_at (by omega)]⟩
    rw [l99_23, if_neg (by omega), if_pos (by omega), if_pos (by omega), Int.toNat_natCast, show (x : Int) + 1 = ((x + 1 : Nat) : Int) by omega]
    exact z1
/-- what is planned so far -/
def PQ (Mc : Mm) (n : Nat) (ρ : Nat → Nat) (T : Nat → Ty) (np un : Nat) (M : Mm) (p v : Nat) : Prop := (∀ a, a ≠ 23 → a ≠ 29 → M a = Mc a) ∧ (∀ y, n ≤ y → M 29 y = Mc 29 y) ∧ Fg M n ρ ∧ (∀ i, (i < 480 * un ∨ 480 * un + 480 ≤ i) → M 23 i = Mc 23 i) ∧ (∀ q w : Nat, (q < p ∨ (q = p ∧ w < v)) → q < np → w < 8 → M 23 (8 * (60 * un + q) + w) = if (w : Int) < Mc 39 q then plc (T (Mc 38 (8 * q + w)).toNat) else 2)
theorem wr_in {kk p : Nat} (tg : TyG Mc n ρ T) (A : Acy Mc ρ n) (h31 : ∀ y, y < n → -2 ≤ Mc 31 y ∧ Mc 31 y ≤ 3000) (hun : un < 74) (hp : p < 60) (hpn : p < np) (hk : kk ≤ 8) (k1 : Mc 39 p = (kk : Int)) (hf : ∀ v, v < kk → ∃ c : Nat, Mc 38 (8 * p + v) = (c : Int) ∧ c < n) (d : Nat) : ∀ (v f : Nat) (M : Mm), v + d = kk → d < f → PQ Mc n ρ T np un M p v → (∀ w, v ≤ w → w < 8 → M 23 (8 * (60 * un + p) + w) = 2) →
    ∃ (M' : Mm), l120_24 f 43 M ((60 * un : Nat) : Int) (p : Int) (kk : Int) ((8 * (60 * un + p) : Nat) : Int) (v : Int) = l120_24 (f - d - 1) 2 M' ((60 * un : Nat) : Int) ((p + 1 : Nat) : Int) 0 0 0 ∧ PQ Mc n ρ T np un M' (p + 1) 0 := by
  induction d with
  | zero =>
    intro v f M hv hd q h2
    obtain ⟨f, rfl⟩ : ∃ f', f = f' + 1 := ⟨f - 1, by omega⟩
    refine ⟨M, ?_, q.1, q.2.1, q.2.2.1, q.2.2.2.1, fun q' w hw hq' hw8 => ?_⟩
    · rw [l120_24, if_pos (by omega), if_pos (by omega), show (p : Int) + 1 = ((p + 1 : Nat) : Int) by omega]
      rfl
    · by_cases e : q' = p
      · subst e
        by_cases e2 : w < v
        · exact q.2.2.2.2 q' w (Or.inr ⟨rfl, e2⟩) hq' hw8
        · rw [h2 w (by omega) hw8, if_neg (by omega)]
      · exact q.2.2.2.2 q' w (Or.inl (by omega)) hq' hw8
  | succ d ih =>
    intro v f M hv hd q h2
    obtain ⟨f, rfl⟩ : ∃ f', f = f' + 1 := ⟨f - 1, by omega⟩
    obtain ⟨c, c1, c2⟩ := hf v (by omega)
    have e38 : M 38 (8 * p + v) = (c : Int) := by rw [q.1 38 (by decide) (by decide)]; exact c1
    obtain ⟨M1, y1, y2, y3⟩ := plan_ok (x := c) q.2.2.1 (TyG_fr ⟨q.1 26 (by decide) (by decide), q.1 27 (by decide) (by decide), q.1 28 (by decide) (by decide), q.1 31 (by decide) (by decide)⟩ tg) (by unfold Acy mu; rw [q.1 26 (by decide) (by decide), q.1 27 (by decide) (by decide), q.1 28 (by decide) (by decide)]; exact A) (by rw [q.1 31 (by decide) (by decide)]; exact h31) c2
    have e23 : M1 23 = M 23 := y2.1 23 (by decide)
    have pq : PQ Mc n ρ T np un (up M1 23 (8 * (60 * un + p) + v) (plc (T c))) p (v + 1) := by
      refine ⟨fun a a1 a2 => by rw [up_cell a1, y2.1 a a2, q.1 a a1 a2], fun y hy => by rw [up_cell (by decide), y2.2 y hy, q.2.1 y hy], Fg_same (fun a b1 b2 => up_cell (by omega)) y3, fun i hi => ?_, fun q' w hw hq' hw' => ?_⟩
      · rw [up_at (by omega), e23]
        exact q.2.2.2.1 i hi
      · by_cases e : q' = p ∧ w = v
        · obtain ⟨rfl, rfl⟩ := e
          rw [up_same, if_pos (by omega), c1, Int.toNat_natCast]
        · rw [up_at (by omega), e23]
          exact q.2.2.2.2 q' w (by omega) hq' hw'
    obtain ⟨M2, z1, z2⟩ := ih (v + 1) f _ (by omega) (by omega) pq (fun w h1 h8 => by rw [up_at (by omega), e23]; exact h2 w (by omega) h8)
    refine ⟨M2, ?_, z2⟩
    have e109 : f109 M (p : Int) (v : Int) = some (c : Int) := by
      unfold f109
      rw [if_pos (by omega), show ((p : Int) * 8) + (v : Int) = ((8 * p + v : Nat) : Int) by omega, Int.toNat_natCast, e38]
    rw [l120_24, if_neg (by omega)]
    unfold f11
    rw [bs_, e109, bs_, y1, bs_]
    dsimp only
    rw [if_pos (by omega), if_pos (by omega), show ((8 * (60 * un + p) : Nat) : Int) + (v : Int) = ((8 * (60 * un + p) + v : Nat) : Int) by omega, Int.toNat_natCast, show (v : Int) + 1 = ((v + 1 : Nat) : Int) by omega, z1, show f - d - 1 = f + 1 - (d + 1) - 1 by omega]
theorem wr_out (tg : TyG Mc n ρ T) (A : Acy Mc ρ n) (h31 : ∀ y, y < n → -2 ≤ Mc 31 y ∧ Mc 31 y ≤ 3000) (hun : un < 74) (hnp : np ≤ 60) (h24 : Mc 24 13 = (np : Int)) (fl : ∀ p, p < np → ∃ kk : Nat, kk ≤ 8 ∧ Mc 39 p = (kk : Int) ∧ ∀ v, v < kk → ∃ c : Nat, Mc 38 (8 * p + v) = (c : Int) ∧ c < n) (d : Nat) : ∀ (p f : Nat) (M : Mm), p + d = np → 20 * d < f → PQ Mc n ρ T np un M p 0 →
    ∃ (M' : Mm), l120_24 f 2 M ((60 * un : Nat) : Int) (p : Int) 0 0 0 = some (0, M') ∧ PQ Mc n ρ T np un M' np 0 := by
  induction d with
  | zero =>
    intro p f M hp hf q
    obtain ⟨f, rfl⟩ : ∃ f', f = f' + 1 := ⟨f - 1, by omega⟩
    obtain rfl : p = np := by omega
    refine ⟨M, ?_, q⟩
    rw [l120_24]
    unfold f107
    rw [bs_, q.1 24 (by decide) (by decide), h24, if_pos (Int.le_refl _)]
  | succ d ih =>
    intro p f M hp hf q
    obtain ⟨f, rfl⟩ : ∃ f', f = f' + 1 := ⟨f - 1, by omega⟩
    obtain ⟨kk, z1, z2, z3⟩ := fl p (by omega)
    obtain ⟨M1, e1, e2, e3, e4⟩ := l99p_ok (lo := 8 * (60 * un + p)) (hi := 8 * (60 * un + p) + 8) (by omega) 8 (8 * (60 * un + p)) FU M (by omega) (by omega) (by unfold FU; omega) (fun m h1 h2 => by omega)
    have q1 : PQ Mc n ρ T np un M1 p 0 := by
      refine ⟨fun a a1 a2 => by rw [e2 a a1, q.1 a a1 a2], fun y hy => by rw [e2 29 (by decide), q.2.1 y hy], Fg_same (fun a b1 b2 => e2 a (by omega)) q.2.2.1, fun i hi => by rw [e4 i (by omega), q.2.2.2.1 i hi], fun q' w hw hq' hw' => by rw [e4 _ (by omega)]; exact q.2.2.2.2 q' w hw hq' hw'⟩
    obtain ⟨M2, y1, y2⟩ := wr_in tg A h31 hun (by omega) (by omega) z1 z2 z3 kk 0 f M1 (by omega) (by omega) q1 (fun w _ h8 => e3 _ (by omega) (by omega))
    obtain ⟨M3, w1, w2⟩ := ih (p + 1) (f - kk - 1) M2 (by omega) (by omega) y2
    refine ⟨M3, ?_, w2⟩
    have y1 : l120_24 f 43 M1 ((60 * un : Nat) : Int) (p : Int) (kk : Int) ((8 * (60 * un + p) : Nat) : Int) 0 = _ := y1
    have e121 : f121 M (p : Int) = some (kk : Int) := by
      unfold f121
      rw [if_pos (by omega), Int.toNat_natCast, q.1 39 (by decide) (by decide), z2]
    rw [l120_24]
    unfold f107
    rw [bs_, q.1 24 (by decide) (by decide), h24, if_neg (by omega), e121, bs_, show (((60 * un : Nat) : Int) + (p : Int)) * 8 = ((8 * (60 * un + p) : Nat) : Int) by omega, if_pos (by omega), show ((8 * (60 * un + p) : Nat) : Int) + 8 = ((8 * (60 * un + p) + 8 : Nat) : Int) by omega, if_pos (by omega)]
    unfold f99_23 f100
    rw [if_pos (by omega), if_pos (by omega), if_pos (by omega), bs_]
    dsimp only
    rw [e1, bs_]
    dsimp only
    rw [y1, w1]
/-- the plans of a unit are written -/
theorem write_ok (F : Fg Mc n ρ) (tg : TyG Mc n ρ T) (A : Acy Mc ρ n) (h31 : ∀ y, y < n → -2 ≤ Mc 31 y ∧ Mc 31 y ≤ 3000) (hun : un < 74) (hnp : np ≤ 60) (h24 : Mc 24 13 = (np : Int)) (fl : ∀ p, p < np → ∃ kk : Nat, kk ≤ 8 ∧ Mc 39 p = (kk : Int) ∧ ∀ v, v < kk → ∃ c : Nat, Mc 38 (8 * p + v) = (c : Int) ∧ c < n) : ∃ M', f120_24 Mc ((60 * un : Nat) : Int) = some (0, M') ∧ PQ Mc n ρ T np un M' np 0 :=
  wr_out tg A h31 hun hnp h24 fl np 0 FU Mc (by omega) (by unfold FU; omega) ⟨fun _ _ _ => rfl, fun _ _ => rfl, F, fun _ _ => rfl, fun q w z => by omega⟩
end PLAN
