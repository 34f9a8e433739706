/-! Run: the value that is shown. -/
theorem l164_fr {M M' : Mm} (h : M' 49 = M 49) : ∀ (f : Nat) (x1 x2 x3 x4 : Int), l164 f 5 M' x1 x2 x3 x4 = l164 f 5 M x1 x2 x3 x4 := by
  intro f
  induction f with
  | zero => intro _ _ _ _; rfl
  | succ f ih =>
    intro x1 x2 x3 x4
    have e : ∀ a b, f165 M' a b = f165 M a b := fun a b => by unfold f165; rw [h]
    rw [l164, l164, e, e]
    by_cases c : x2 ≤ x4
    · rw [if_pos c, if_pos c]
    · rw [if_neg c, if_neg c]
      congr 1
      funext q
      rw [ih]
section SHOWN
variable {M0 R0 : Mm} {N NT : Nat} {G : Nat → UGt} {Mc Mr : Mm} {φ : Nat → Nat} {τ : Nat → Ty} {κ : Nat → Nat × Nat × Nat} {Es : Nat → Int → Ty} {n m nf ne : Nat} {ω : Nat → Ty} {w s lim : Nat}
theorem l182_in {i len : Nat} (hC : ∀ i, i < n → COK M0 N G Mc Mr φ τ κ Es m nf ne i) (hn : n ≤ 602) (hi : i < n) (hlen : lenC Mc i = (len : Int)) (hl : len ≤ 301) (h14 : Mc 47 14 = (i : Int)) (d : Nat) : ∀ (x f : Nat) (M : Mm), x + d = len → d < f → (∀ a, a ≠ 52 → M a = up Mc 47 16 (len : Int) a) → (∀ k, k < x → M 52 k = Mc 49 (5 * elC Mc i k + 1)) → ∃ M' : Mm, l182 f 62 M (x : Int) = some (0, M') ∧ (∀ a, a ≠ 52 → M' a = up Mc 47 16 (len : Int) a) ∧ ∀ k, k < len → M' 52 k = Mc 49 (5 * elC Mc i k + 1) := by
  induction d with
  | zero =>
    intro x f M hx hf e1 e2
    obtain ⟨f, rfl⟩ : ∃ f', f = f' + 1 := ⟨f - 1, by omega⟩
    refine ⟨M, ?_, e1, fun k hk => e2 k (by omega)⟩
    rw [l182, e1 47 (by decide), up_same, if_pos (by omega)]
  | succ d ih =>
    intro x f M hx hf e1 e2
    obtain ⟨f, rfl⟩ : ∃ f', f = f' + 1 := ⟨f - 1, by omega⟩
    obtain ⟨M', r1, r2, r3⟩ := ih (x + 1) f (up M 52 x (Mc 49 (5 * elC Mc i x + 1))) (by omega) (by omega) (fun a ha => by rw [up_cell ha]; exact e1 a ha) (fun k hk => by
      by_cases z : k = x
      · subst z; exact up_same _ _ _ _
      · rw [up_at z]; exact e2 k (by omega))
    refine ⟨M', ?_, r2, r3⟩
    have e49 : M 49 = Mc 49 := by rw [e1 49 (by decide), up_cell (by decide)]
    have el := el_ok hC hi (k := x) (by omega)
    have q : f164 M (i : Int) (x : Int) = some (elC Mc i x : Int) := by
      rw [← f164_el hC hn hi (by omega)]
      exact l164_fr e49 _ _ _ _ _
    rw [l182, e1 47 (by decide), up_same, if_neg (by omega), up_at (by decide), h14, q, bs_, f178_eq (by omega), bs_, e49, if_pos (by omega), if_pos (by unfold rg; omega), Int.toNat_natCast]
    exact r1
theorem l241_in {i len : Nat} {a : Ty} {x1 x2 x3 : Int} (hU : ∀ u, uIn M0 N u → UG M0 R0 u (G u)) (hC : ∀ i, i < n → COK M0 N G Mc Mr φ τ κ Es m nf ne i) (hm : m ≤ 6000) (ha : a = tI ∨ a = tB) (hl : len ≤ 301) : ∀ (d k c : Nat) (M : Mm), lenC Mc c = (d : Int) → tlC Mc k i = c → c < n → τ c = tL a → k + d = len → (∀ b, b ≠ 53 → b ≠ 94 → M b = Mr b) → M 53 55 = 1 → M 53 56 = (k : Int) → (∀ j, j < k → M 94 j = Mc 49 (5 * elC Mc i j + 1)) →
    ∃ M' : Mm, (∀ f, d + 1 < f → l241 f 213 M x1 x2 x3 (φ c : Int) = some (M' 53 58, M')) ∧ (∀ b, b ≠ 53 → b ≠ 94 → M' b = Mr b) ∧ (∀ j, j ≠ 56 → M' 53 j = M 53 j) ∧ M' 53 56 = (len : Int) ∧ ∀ j, j < len → M' 94 j = Mc 49 (5 * elC Mc i j + 1) := by
  intro d
  induction d with
  | zero =>
    intro k c M hd htl hc ht hlen e1 e55 e56 e94
    have fc := (hC c hc).1
    have k2 : Mr 95 (φ c) = 2 := by
      rcases COK_lst hU (hC c hc) ht with z | z
      · exact z.2.1
      · obtain ⟨z1, _, h, t, _, z2, _, _, _, _, _, _, z3⟩ := z
        have := lenC_le hC (t + 1) t (by omega) (by omega)
        unfold lenC at hd
        rw [if_pos z1, z3] at hd
        omega
    refine ⟨M, fun f hf => ?_, e1, fun _ _ => rfl, by rw [e56]; omega, fun j hj => e94 j (by omega)⟩
    obtain ⟨f, rfl⟩ : ∃ f', f = f' + 2 := ⟨f - 2, by omega⟩
    rw [l241, if_neg (by omega), if_pos (by omega), Int.toNat_natCast, e1 95 (by decide) (by decide), k2, if_pos (by decide), l241]
  | succ d ih =>
    intro k c M hd htl hc ht hlen e1 e55 e56 e94
    have fc := (hC c hc).1
    have kd : Mc 49 (5 * c) = 2 := by
      by_cases z : Mc 49 (5 * c) = 2
      · exact z
      · unfold lenC at hd
        rw [if_neg z] at hd
        omega
    obtain ⟨_, z0, h, t, z1, z2, z3, z4, z5, z6, z7, z8, z9⟩ := COK_2 (hC c hc) kd
    have lt : lenC Mc t = (d : Int) := by
      have : lenC Mc c = lenC Mc t + 1 := by
        unfold lenC
        rw [if_pos kd]
        exact z9
      omega
    have el : elC Mc i k = h := by
      unfold elC
      rw [htl, z3, Int.toNat_natCast]
    have th : τ h = a := tL_inj (z7.symm.trans ht)
    have fh := (hC h (by omega)).1
    obtain ⟨_, nh⟩ := COK_num hU (hC h (by omega)) (by rw [th]; exact ha)
    obtain ⟨M', r1, r2, r3, r4, r5⟩ := ih (k + 1) t (up (up M 94 k (Mc 49 (5 * h + 1))) 53 56 ((k : Int) + 1)) lt (by rw [tlC_succ, htl, z4, Int.toNat_natCast]) (by omega) (by rw [z8]; exact ht) (by omega) (fun b h1 h2 => by rw [up_cell h1, up_cell h2]; exact e1 b h1 h2) (by rw [up_at (by decide), up_cell (by decide)]; exact e55) (by rw [up_same]; omega) (fun j hj => by
      rw [up_cell (by decide)]
      by_cases z : j = k
      · subst z; rw [up_same, el]
      · rw [up_at z]; exact e94 j (by omega))
    refine ⟨M', fun f hf => ?_, r2, fun j hj => by rw [r3 j hj, up_at hj, up_cell (by decide)], r4, r5⟩
    obtain ⟨f, rfl⟩ : ∃ f', f = f' + 1 := ⟨f - 1, by omega⟩
    rw [l241, if_neg (by omega), if_pos (by omega), Int.toNat_natCast, e1 95 (by decide) (by decide), z0, if_neg (fun q => q rfl), e1 96 (by decide) (by decide), z5, if_pos (by omega), e56, if_pos (by omega), if_pos (by unfold rg; omega), Int.toNat_natCast, Int.toNat_natCast, nh, e1 97 (by decide) (by decide), z6]
    exact r1 f (by omega)
/-- the end -/
def Fin (M0 R0 Mc' Mr' : Mm) : Prop := (∀ a, a < 47 ∨ 53 ≤ a → Mc' a = M0 a) ∧ (∀ a, a < 53 ∨ (53 < a ∧ a ≤ 93) ∨ 109 ≤ a → Mr' a = R0 a) ∧ (∀ j, j < 54 → Mr' 53 j = R0 53 j) ∧ ValR Mc' Mr'
theorem Fin_stop {Mc Mr : Mm} (st : Sta M0 R0 Mc Mr) (hv : ValR M0 R0) : Fin M0 R0 Mc Mr := by
  obtain ⟨s1, s2, s3, s4⟩ := st
  refine ⟨fun a ha => s1 a (by omega), fun a ha => s3 a (by omega), fun j hj => s4 j (by omega), ?_⟩
  unfold ValR
  rw [s2, s1 52 (by omega), s4 54 (by omega), s4 55 (by omega), s4 56 (by omega), s3 94 (by omega)]
  exact hv
theorem done_ok {g t : Nat} {x2 : Int} (hU : ∀ u, uIn M0 N u → UG M0 R0 u (G u)) (sv : SV M0 R0 N NT G Mc Mr φ τ κ Es n m nf ne ω 0 s lim) (hn : n < 602) (hm : m ≤ 6000) (hnf : nf < 302) (hK : Kc Mc n ≤ 300) (ht : t ≤ 1208) (hg : g < 20) (hty : (R0 68 g ≤ 1 ∧ (ω 0 = tI ∨ ω 0 = tB)) ∨ (¬ R0 68 g ≤ 1 ∧ (ω 0 = tL tI ∨ ω 0 = tL tB))) : ∃ (v : Int) (Mc' Mr' : Mm) (K : Nat), LpC (g : Int) x2 Mc t v Mc' ∧ LpR (g : Int) x2 Mr v Mr' K ∧ Fin M0 R0 Mc' Mr' ∧ K ≤ 400 := by
  obtain ⟨sc, h71, h10, i, hi, h14, h78, hti⟩ := sv
  have ck := sc.1.2.2.2.2
  obtain ⟨t1, t2, t3, t4, t5, t6⟩ := sc.2.1
  obtain ⟨b1, b2, b3, b4⟩ := sc.1.2.1
  have sta := sc.1.1
  have fi := (ck i hi).1
  have h68 : Mr 68 g = R0 68 g := by rw [sta.2.2.1 68 (by omega)]
  have h6 : Mc 47 6 = ((0 : Nat) : Int) := sc.2.2.1
  -- here
  have lc : ∀ Mc' : Mm, f182 Mc = some (0, Mc') → Mc' 47 7 = (s : Int) → LpC (g : Int) x2 Mc t (s : Int) Mc' := fun Mc' h1 h2 f hf => by
    obtain ⟨f, rfl⟩ : ∃ f', f = f' + 1 := ⟨f - 1, by omega⟩
    have e156 : f156 Mc = some 0 := by
      unfold f156 f157
      rw [if_neg (fun q => q t5), b1, b2, if_neg (by omega), if_neg (by omega), bs_, if_neg (by decide), if_neg (fun q => q h10), if_pos (by omega)]
    rw [l151]
    by_cases e : (1208 : Int) ≤ (t : Int)
    · rw [if_pos e, if_neg (fun q => q t5), if_neg (fun q => q h10), if_pos (by omega), h1, bs_]; dsimp only; rw [h2]
    · rw [if_neg e, e156, bs_, if_pos rfl, if_neg (fun q => q t5), if_neg (fun q => q h10), if_pos (by omega), h1, bs_]; dsimp only; rw [h2]
  -- there
  have lr : ∀ (M1 Mr' : Mm) (K : Nat), M1 = up (up Mr 53 54 1) 53 55 (if R0 68 g ≤ 1 then 0 else 1) → (∀ f, K ≤ f → l241 f 177 M1 (g : Int) x2 1 0 = some ((s : Int), Mr')) → LpR (g : Int) x2 Mr (s : Int) Mr' (K + 2) := fun M1 Mr' K h1 h2 => by
    intro f hf
    obtain ⟨f, rfl⟩ : ∃ f', f = f' + 2 := ⟨f - 2, by omega⟩
    rw [l241, if_pos (by omega), l241, if_pos t6, if_pos (by omega), Int.toNat_natCast, h68]
    by_cases e : R0 68 g ≤ 1
    · rw [if_pos e] at h1 ⊢
      rw [← h1]
      exact h2 f (by omega)
    · rw [if_neg e] at h1 ⊢
      rw [← h1]
      exact h2 f (by omega)
  rcases hty with ⟨k1, k2⟩ | ⟨k1, k2⟩
  · -- a number, a truth value
    obtain ⟨n0, nv⟩ := COK_num hU (ck i hi) (by rw [hti]; exact k2)
    refine ⟨(s : Int), up (up Mc 52 0 (Mc 49 (5 * i + 1))) 47 16 1, up (up (up (up (up Mr 53 54 1) 53 55 0) 53 56 0) 94 0 (Mc 49 (5 * i + 1))) 53 56 1, 4 + 2, lc _ ?_ ?_, lr _ _ 4 rfl (fun f hf => ?_), ⟨?_, ?_, ?_, ?_⟩, by omega⟩
    · unfold f182
      rw [h14, f176_eq (by omega), bs_, n0, if_neg (fun q => q rfl), f178_eq (by omega), bs_]
      rfl
    · rw [up_at (by decide), up_cell (by decide)]; exact t1
    · obtain ⟨f, rfl⟩ : ∃ f', f = f' + 3 := ⟨f - 3, by omega⟩
      have e78 : up (up Mr 53 54 1) 53 55 0 53 78 = (φ i : Int) := by rw [up_at (by decide), up_at (by decide)]; exact h78
      have e96 : up (up Mr 53 54 1) 53 55 0 96 (φ i) = Mc 49 (5 * i + 1) := by rw [up_cell (by decide), up_cell (by decide)]; exact nv
      rw [if_pos k1, l241, up_same, if_neg (fun q => q rfl), e78, if_pos (by omega), Int.toNat_natCast, e96, l241, up_at (show 55 ≠ 56 by decide), up_cell (show 53 ≠ 94 by decide), up_at (show 55 ≠ 56 by decide), up_same, if_pos rfl, l241]
      rw [up_at (show 58 ≠ 56 by decide), up_cell (show 53 ≠ 94 by decide), up_at (show 58 ≠ 56 by decide), up_at (show 58 ≠ 55 by decide), up_at (show 58 ≠ 54 by decide), t2]
      rfl
    · intro a ha
      rw [up_cell (by omega), up_cell (by omega)]
      exact sta.1 a (by omega)
    · intro a ha
      rw [up_cell (by omega), up_cell (by omega), up_cell (by omega), up_cell (by omega), up_cell (by omega)]
      exact sta.2.2.1 a (by omega)
    · intro j hj
      rw [up_at (by omega), up_cell (by decide), up_at (by omega), up_at (by omega), up_at (by omega)]
      exact sta.2.2.2 j (by omega)
    · refine Or.inr ⟨?_, 1, by omega, up_same _ _ _ _, up_same _ _ _ _, Or.inr ⟨?_, rfl⟩, fun j hj => ?_⟩
      · rw [up_at (by decide), up_cell (by decide), up_at (by decide), up_at (by decide), up_same]
      · rw [up_at (by decide), up_cell (by decide), up_at (by decide), up_same]
      · obtain rfl : j = 0 := by omega
        rw [up_cell (by decide), up_same, up_cell (by decide), up_same]
  · -- a list
    obtain ⟨a, ha, ha2⟩ : ∃ a, (a = tI ∨ a = tB) ∧ τ i = tL a := by
      rcases k2 with k2 | k2
      · exact ⟨tI, Or.inl rfl, by rw [hti, k2]⟩
      · exact ⟨tB, Or.inr rfl, by rw [hti, k2]⟩
    have l1 := lenC_le ck (i + 1) i (by omega) hi
    have l2 := lenC_K ck (i + 1) i (by omega) hi
    have l3 := Kc_mono (M := Mc) (a := i + 1) (b := n) (by omega)
    obtain ⟨len, hlen⟩ : ∃ k : Nat, lenC Mc i = (k : Int) := ⟨(lenC Mc i).toNat, by omega⟩
    have kn : ¬ Mc 49 (5 * i) = 0 := by
      rcases COK_lst hU (ck i hi) ha2 with z | z
      · have := z.1; omega
      · have := z.1; omega
    obtain ⟨Mc', r1, r2, r3⟩ := l182_in ck (by omega) hi hlen (by omega) h14 len 0 FU (up Mc 47 16 (len : Int)) (by omega) (by unfold FU; omega) (fun _ _ => rfl) (fun k hk => by omega)
    obtain ⟨Mr', q1, q2, q3, q4, q5⟩ := l241_in (x1 := (g : Int)) (x2 := x2) (x3 := 1) hU ck hm ha (show len ≤ 301 by omega) len 0 i (up (up (up Mr 53 54 1) 53 55 1) 53 56 0) hlen rfl hi ha2 (by omega) (fun b h1 h2 => by rw [up_cell h1, up_cell h1, up_cell h1]) (by rw [up_at (by decide), up_same]) (up_same _ _ _ _) (fun j hj => by omega)
    have q3' : ∀ j, j ≠ 54 → j ≠ 55 → j ≠ 56 → Mr' 53 j = Mr 53 j := fun j h1 h2 h3 => by rw [q3 j h3, up_at h3, up_at h2, up_at h1]
    refine ⟨(s : Int), Mc', Mr', len + 3 + 2, lc _ ?_ ?_, lr _ _ (len + 3) rfl (fun f hf => ?_), ⟨?_, ?_, ?_, ?_⟩, by omega⟩
    · unfold f182
      rw [h14, f176_eq (by omega), bs_, if_pos kn, f180_eq (by omega), bs_, hlen, if_neg (by omega)]
      exact r1
    · rw [r2 47 (by decide), up_at (by decide)]; exact t1
    · obtain ⟨f, rfl⟩ : ∃ f', f = f' + 1 := ⟨f - 1, by omega⟩
      have e78 : up (up Mr 53 54 1) 53 55 1 53 78 = (φ i : Int) := by rw [up_at (by decide), up_at (by decide)]; exact h78
      rw [if_neg k1, l241, up_same, if_pos (by decide), e78, q1 f (by omega), q3' 58 (by decide) (by decide) (by decide), t2]
    · intro b hb
      rw [r2 b (by omega), up_cell (by omega)]
      exact sta.1 b (by omega)
    · intro b hb
      rw [q2 b (by omega) (by omega)]
      exact sta.2.2.1 b (by omega)
    · intro j hj
      rw [q3' j (by omega) (by omega) (by omega)]
      exact sta.2.2.2 j (by omega)
    · refine Or.inr ⟨?_, len, by omega, by rw [r2 47 (by decide), up_same], q4, Or.inl ?_, fun j hj => by rw [r3 j hj, q5 j hj]⟩
      · rw [q3 54 (by decide), up_at (by decide), up_at (by decide), up_same]
      · rw [q3 55 (by decide), up_at (by decide), up_same]
end SHOWN
