/-! The term of a node, whole; all terms of a unit. -/
section TK2
variable {Mc Mr : Mm} {S : Nat → Nat → Prop} {n n' k lim : Nat} {cs : List (Nat × Nat)} {ρ ρ' : Nat → Nat} {T : Nat → Ty}
/-- from where all parts are there -/
theorem fin_K {M : Mm} {N : Nat} {x1 a b : Int} {c u f : Nat} {L : List Nat} (h : Fin2 Mc Mr S n n' cs ρ ρ') (tg : TyG Mc n ρ T) (hlim : lim ≤ 200000) (q : KQ Mr S n n' ρ ρ' T lim M N) (tt : Tt S n n' ρ ρ' c u) (hs : sk M 82 (u :: L)) (hL : L.length ≤ 14000) (h0 : M 81 (ρ' u) = -1)
    (ha : (rtA Mr ρ' (ρ' u) = -1 ∧ ((M 76 (ρ' u) ≠ 2 ∧ a = 0) ∨ (M 76 (ρ' u) = 2 ∧ f230 (up M 73 N (M 76 (ρ' u))) (ρ' u : Int) = some a))) ∨ ∃ x : Nat, rtA Mr ρ' (ρ' u) = (x : Int) ∧ x < 4000 ∧ a = M 81 x) (hb : (rtB Mr ρ' (ρ' u) = -1 ∧ b = 0) ∨ ∃ x : Nat, rtB Mr ρ' (ρ' u) = (x : Int) ∧ x < 4000 ∧ b = M 81 x)
    (hr : ((3 ≤ M 76 (ρ' u) ∧ M 76 (ρ' u) ≤ 4) → 0 ≤ a ∧ a < (N : Int)) ∧ (M 76 (ρ' u) = 4 → 0 ≤ b ∧ b < (N : Int)))
    (ht : ∀ M' : Mm, WTm M' (N + 1) → M' 73 N = M 76 (ρ' u) → M' 74 N = a → M' 75 N = b → (∀ t, t < N → trm M' t = trm M t) → trm M' N = T c) :
    ∃ M', l235 (f + 4) 166 M x1 ((u :: L).length : Int) (ρ' u : Int) (rtA Mr ρ' (ρ' u)) (rtB Mr ρ' (ρ' u)) = l235 f 9 M' x1 (L.length : Int) 0 0 0 ∧ KQ Mr S n n' ρ ρ' T lim M' (N + 1) ∧ M' 81 (ρ' u) = (N : Int) ∧ sk M' 82 L ∧ uN M' n' + 1 = uN M n' ∧ (∀ y, M 81 y ≠ -1 → M' 81 y = M 81 y) ∧ ∀ d v, Tt S n n' ρ ρ' d v → hT (T c) < hT (T d) → M' 81 (ρ' v) = M 81 (ρ' v) := by
  have hn' := h.2.1.1.2.1
  have ql := (h.2.1.2.2 u (T_lt tt).2).1
  have u1 : 1 ≤ uN M n' := cn_pos (p := fun y => decide (M 81 y = -1)) (decide_eq_true h0) ql
  have q4 := q.2.2.2.1
  obtain ⟨k1, k2⟩ := KQ_nt h tg q tt h0 hr ht
  obtain ⟨a1, a2, a3, a4, a5, a6, a7⟩ := nt_at (M := M) (N := N) (q := ρ' u) (a := a) (b := b)
  refine ⟨nt M N (ρ' u) a b, ?_, k1, by rw [a4, if_pos rfl], sk_eq (fun i _ => by rw [a7 82 (by decide) (by decide) (by decide) (by decide) (by decide)]) hs.2, k2, fun y hy => ?_, fun d v td hd => ?_⟩
  · exact l235_mk (len := L.length) (show ρ' u < 4000 by omega) (by omega) q.2.1 (by omega) ha hb
  · rw [a4, if_neg (fun e => hy (by rw [e]; exact h0))]
  · have : ρ' v ≠ ρ' u := fun e => by
      have := tg.1 d c (T_c h td tt e)
      rw [this] at hd
      omega
    rw [a4, if_neg this]
theorem term_big {x1 : Int} (h : Fin2 Mc Mr S n n' cs ρ ρ') (nm : Nm Mc Mr S n n' ρ ρ' k) (tg : TyG Mc n ρ T) (hlim : lim ≤ 200000) (b : Nat) : ∀ (c u f N : Nat) (L : List Nat) (M : Mm), hT (T c) ≤ b → KQ Mr S n n' ρ ρ' T lim M N → Tt S n n' ρ ρ' c u → sk M 82 (u :: L) → L.length + b ≤ 13000 → M 81 (ρ' u) = -1 → 60 * uN M n' + 20 * (hT (T c) + 1) ≤ f → OutK Mr S n n' ρ ρ' T lim x1 c u L M f := by
  induction b with
  | zero =>
    intro c u f N L M hb q tt hs hL h0 hf
    exact leaf c u f N L M (by omega) q tt hs (by omega) h0 (by omega)
  | succ b ih =>
    intro c u f N L M hb q tt hs hL h0 hf
    by_cases hz : hT (T c) = 0
    · exact leaf c u f N L M hz q tt hs (by omega) h0 (by omega)
    have hn' := h.2.1.1.2.1
    have hu := (T_lt tt).2
    have hc := (T_lt tt).1
    have ql := (h.2.1.2.2 u hu).1
    have rc := h.1.2.2 c hc
    have kk := T_k h tt
    have kq := (rtK q (ρ' u)).2.2
    obtain ⟨g0, g1, g2, g3, g4, g5⟩ := tg.2 c hc
    obtain ⟨q1, q2, q3, q4, q5, q6⟩ := h.1.1.2.2.2 (ρ c) rc.1
    obtain ⟨r1, r2, r3, r4⟩ := h.2.1.1.2.2 (ρ' u) ql
    have k34 : 3 ≤ Mc 26 (ρ c) ∧ Mc 26 (ρ c) ≤ 4 := by
      by_cases k0 : Mc 26 (ρ c) = 0
      · rw [g0 k0] at hz; exact absurd rfl hz
      · by_cases k1 : Mc 26 (ρ c) = 1
        · rw [g1 k1] at hz; exact absurd rfl hz
        · by_cases k2 : Mc 26 (ρ c) = 2
          · rw [g2 k2] at hz; exact absurd rfl hz
          · by_cases k5 : Mc 26 (ρ c) = 5
            · rw [g5 k5] at hz; exact absurd rfl hz
            · omega
    have ta := T_a h tt k34
    generalize hA : (Mc 27 (ρ c)).toNat = a at *
    have la := (T_lt ta).2
    have ra := h.2.1.2.2 _ la
    generalize hA' : ρ' (Mr 77 (ρ' u)).toNat = a' at *
    have ta' : Tt S n n' ρ ρ' a a' := T_r ta (T_lt ta).1 ra.1 rfl (by rw [ra.2]; exact hA')
    have eA : rtA Mr ρ' (ρ' u) = (a' : Int) := by
      unfold rtA
      rw [if_pos (by omega), hA']
    by_cases k3 : Mc 26 (ρ c) = 3
    · have Tc : T c = tL (T a) := g3 k3
      have hh : hT (T c) = hT (T a) + 1 := by rw [Tc]; rfl
      have eB : rtB Mr ρ' (ρ' u) = -1 := by
        unfold rtB
        rw [if_neg (by omega)]
      obtain ⟨l, N1, M1, f1, y2, y3, y4, y5, y6, y7, y8, y9, y10⟩ := part_KA (x1 := x1) (f := f) h q tt ta' ra.2 eA hs (by omega) h0 (by omega) (by omega) (fun f M w1 w2 w3 w4 => ih a a' f N (u :: L) M (by omega) w1 ta' w2 (by simp; omega) w3 w4)
      dsimp only at y2
      have uu : 1 ≤ uN M1 n' := cn_pos (p := fun y => decide (M1 81 y = -1)) (decide_eq_true y5) ql
      obtain ⟨f2, rfl⟩ : ∃ f2, f1 = f2 + 5 := ⟨f1 - 5, by omega⟩
      have e1 := l235_nB (M := M1) (f := f2 + 4) (x1 := x1) (q := ρ' u) (A := rtA Mr ρ' (ρ' u)) (B := rtB Mr ρ' (ρ' u)) (len := (u :: L).length) (Or.inl eB)
      have k3' : M1 76 (ρ' u) = 3 := by rw [(rtK y3 _).2.2]; omega
      obtain ⟨M2, x_2, x_3, x_4, x_5, x_6, x_7, x_8⟩ := fin_K (x1 := x1) (f := f2) (a := (l : Int)) (b := 0) h tg hlim y3 tt y6 (by omega) y5 (Or.inr ⟨a', eA, by omega, y4.1.symm⟩) (Or.inl ⟨eB, rfl⟩) ⟨fun _ => by omega, fun z => by omega⟩ (fun M' w1 w2 w3 w4 w5 => by
        rw [trm_3 w1 (by omega) (by rw [w2]; exact k3') w3, w5 l y4.2.1, y4.2.2, Tc])
      refine ⟨N1, N1 + 1, M2, f2, by rw [y2, e1, x_2], x_3, x_4, x_5, by omega, by omega, fun y hy => ?_, fun d v td hd => ?_⟩
      · rw [x_7 y (by rw [y9 y hy]; exact hy), y9 y hy]
      · rw [x_8 d v td hd, y10 d v td (by omega)]
    · have k4 : Mc 26 (ρ c) = 4 := by omega
      have tb := T_b h tt k4
      generalize hB : (Mc 28 (ρ c)).toNat = bb at *
      have lb := (T_lt tb).2
      have rb := h.2.1.2.2 _ lb
      generalize hB' : ρ' (Mr 78 (ρ' u)).toNat = b' at *
      have tb' : Tt S n n' ρ ρ' bb b' := T_r tb (T_lt tb).1 rb.1 rfl (by rw [rb.2]; exact hB')
      have eB : rtB Mr ρ' (ρ' u) = (b' : Int) := by
        unfold rtB
        rw [if_pos (by omega), hB']
      have Tc : T c = tF (T a) (T bb) := g4 k4
      have hh : hT (T c) = max (hT (T a)) (hT (T bb)) + 1 := by rw [Tc]; rfl
      obtain ⟨l, N1, M1, f1, y2, y3, y4, y5, y6, y7, y8, y9, y10⟩ := part_KA (x1 := x1) (f := f) h q tt ta' ra.2 eA hs (by omega) h0 (by omega) (by omega) (fun f M w1 w2 w3 w4 => ih a a' f N (u :: L) M (by omega) w1 ta' w2 (by simp; omega) w3 w4)
      dsimp only at y2
      have uu : 1 ≤ uN M1 n' := cn_pos (p := fun y => decide (M1 81 y = -1)) (decide_eq_true y5) ql
      obtain ⟨r, N3, M3, f3, s2, s3, s4, s5, s6, s7, s8, s9, s10⟩ := part_KB (x1 := x1) (f := f1) (l := l) h y3 tt tb' rb.2 ra.1 eA eB y4.1 y6 (by omega) y5 (by omega) (by omega) (fun f M w1 w2 w3 w4 => ih bb b' f N1 (u :: L) M (by omega) w1 tb' w2 (by simp; omega) w3 w4)
      dsimp only at s2
      have uu3 : 1 ≤ uN M3 n' := cn_pos (p := fun y => decide (M3 81 y = -1)) (decide_eq_true s5) ql
      have m3a : M3 81 a' = (l : Int) := by rw [s9 a' (by rw [y4.1]; omega)]; exact y4.1
      have qa := s3.2.2.2.2 a a' ta'
      rw [ra.2, m3a] at qa
      have qa : l < N3 ∧ trm M3 l = T a := by
        rcases qa with z | ⟨t', z1, z2, z3⟩
        · omega
        · obtain rfl : t' = l := by omega
          exact ⟨z2, z3⟩
      obtain ⟨f2, rfl⟩ : ∃ f2, f3 = f2 + 4 := ⟨f3 - 4, by omega⟩
      have k4' : M3 76 (ρ' u) = 4 := by rw [(rtK s3 _).2.2]; omega
      obtain ⟨M2, x_2, x_3, x_4, x_5, x_6, x_7, x_8⟩ := fin_K (x1 := x1) (f := f2) (a := (l : Int)) (b := (r : Int)) h tg hlim s3 tt s6 (by omega) s5 (Or.inr ⟨a', eA, by omega, m3a.symm⟩) (Or.inr ⟨b', eB, by omega, s4.1.symm⟩) ⟨fun _ => by omega, fun z => by omega⟩ (fun M' w1 w2 w3 w4 w5 => by
        rw [trm_4 w1 (by omega) (by rw [w2]; exact k4') w3 w4, w5 l qa.1, qa.2, w5 r s4.2.1, s4.2.2, Tc])
      refine ⟨N3, N3 + 1, M2, f2, by rw [y2, s2, x_2], x_3, x_4, x_5, by omega, by omega, fun y hy => ?_, fun d v td hd => ?_⟩
      · have w1 := y9 y hy
        have w2 := s9 y (by rw [w1]; exact hy)
        rw [x_7 y (by rw [w2, w1]; exact hy), w2, w1]
      · rw [x_8 d v td hd, s10 d v td (by omega), y10 d v td (by omega)]
where
  leaf : ∀ (c u f N : Nat) (L : List Nat) (M : Mm), hT (T c) = 0 → KQ Mr S n n' ρ ρ' T lim M N → Tt S n n' ρ ρ' c u → sk M 82 (u :: L) → L.length ≤ 13000 → M 81 (ρ' u) = -1 → 60 * uN M n' + 20 ≤ f → OutK Mr S n n' ρ ρ' T lim x1 c u L M f := by
    intro c u f N L M hb q tt hs hL h0 hf
    have hn' := h.2.1.1.2.1
    have hu := (T_lt tt).2
    have hc := (T_lt tt).1
    have ql := (h.2.1.2.2 u hu).1
    have rc := h.1.2.2 c hc
    have kk := T_k h tt
    have kq := (rtK q (ρ' u)).2.2
    obtain ⟨g0, g1, g2, g3, g4, g5⟩ := tg.2 c hc
    obtain ⟨q1, q2, q3, q4, q5, q6⟩ := h.1.1.2.2.2 (ρ c) rc.1
    have k2 : Mc 26 (ρ c) ≤ 2 ∨ Mc 26 (ρ c) = 5 := by
      by_cases k3 : Mc 26 (ρ c) = 3
      · rw [g3 k3] at hb; exact absurd hb (by show ¬ (hT _ + 1 = 0); omega)
      · by_cases k4 : Mc 26 (ρ c) = 4
        · rw [g4 k4] at hb; exact absurd hb (by show ¬ (max _ _ + 1 = 0); omega)
        · omega
    have eA : rtA Mr ρ' (ρ' u) = -1 := by unfold rtA; rw [if_neg (by omega)]
    have eB : rtB Mr ρ' (ρ' u) = -1 := by unfold rtB; rw [if_neg (by omega)]
    obtain ⟨f1, d1, d2⟩ := l235_head (x1 := x1) (f := f - 3) (KQ_fin h q).2.1 hu rfl hs (by omega)
    rw [Nat.sub_add_cancel (by omega), (rtK q _).1, (rtK q _).2.1] at d2
    obtain ⟨f2, rfl⟩ : ∃ f2, f1 = f2 + 6 := ⟨f1 - 6, by omega⟩
    have e1 := l235_nA (M := M) (f := f2 + 5) (x1 := x1) (A := rtA Mr ρ' (ρ' u)) (B := rtB Mr ρ' (ρ' u)) (len := (u :: L).length) (show ρ' u < 4000 by omega) h0 (Or.inl eA)
    have e2 := l235_nB (M := M) (f := f2 + 4) (x1 := x1) (q := ρ' u) (A := rtA Mr ρ' (ρ' u)) (B := rtB Mr ρ' (ρ' u)) (len := (u :: L).length) (Or.inl eB)
    have fin : ∀ a : Int, ((M 76 (ρ' u) ≠ 2 ∧ a = 0) ∨ (M 76 (ρ' u) = 2 ∧ f230 (up M 73 N (M 76 (ρ' u))) (ρ' u : Int) = some a)) → (∀ M' : Mm, WTm M' (N + 1) → M' 73 N = M 76 (ρ' u) → M' 74 N = a → trm M' N = T c) → OutK Mr S n n' ρ ρ' T lim x1 c u L M f := by
      intro a hk ht
      obtain ⟨M2, x_2, x_3, x_4, x_5, x_6, x_7, x_8⟩ := fin_K (x1 := x1) (f := f2) (a := a) (b := 0) h tg hlim q tt hs (by omega) h0 (Or.inl ⟨eA, hk⟩) (Or.inl ⟨eB, rfl⟩) ⟨fun z => by omega, fun z => by omega⟩ (fun M' w1 w2 w3 w4 w5 => ht M' w1 w2 w3)
      exact ⟨N, N + 1, M2, f2, by rw [d2, e1, e2, x_2], x_3, x_4, x_5, by omega, by omega, x_7, x_8⟩
    by_cases k0 : Mc 26 (ρ c) = 0
    · exact fin 0 (Or.inl ⟨by omega, rfl⟩) (fun M' _ w2 _ => by rw [g0 k0]; unfold trm; rw [tmT, if_pos (by omega)])
    · by_cases k1 : Mc 26 (ρ c) = 1
      · exact fin 0 (Or.inl ⟨by omega, rfl⟩) (fun M' _ w2 _ => by rw [g1 k1]; unfold trm; rw [tmT, if_neg (by omega), if_pos (by omega)])
      · by_cases k5 : Mc 26 (ρ c) = 5
        · exact fin 0 (Or.inl ⟨by omega, rfl⟩) (fun M' _ w2 _ => by rw [g5 k5]; unfold trm; rw [tmT, if_neg (by omega), if_neg (by omega), if_neg (by omega), if_neg (by omega), if_neg (by omega)])
        · have k2 : Mc 26 (ρ c) = 2 := by omega
          refine fin (lb Mc (ρ c)) (Or.inr ⟨by omega, ?_⟩) (fun M' _ w2 w3 => by rw [g2 k2]; unfold trm; rw [tmT, if_neg (by omega), if_neg (by omega), if_pos (by omega), w3])
          have fq := KQ_fin h q
          have nq := KQ_nm nm q
          refine idx_ok (k := k) (Mc := Mc) (Mr := up M 73 N (M 76 (ρ' u))) (Fin2_same fq ⟨rfl, rfl, rfl⟩ ⟨up_cell (by decide), up_cell (by decide), up_cell (by decide)⟩ fq.1 (Fr_same (fun a b1 b2 => up_cell (by omega)) (by rw [up_cell (by decide)]) fq.2.1)) ?_ tt k2
          unfold Nm
          rw [up_cell (show 53 ≠ 73 by decide), up_cell (show 92 ≠ 73 by decide)]
          exact nq
theorem KQ_base {M : Mm} {N : Nat} (q : KQ Mr S n n' ρ ρ' T lim M N) : KQ M S n n' ρ ρ' T lim M N := ⟨Rk_refl M, q.2⟩
theorem term_ok {N c u : Nat} (h : Fin2 Mc Mr S n n' cs ρ ρ') (nm : Nm Mc Mr S n n' ρ ρ' k) (tg : TyG Mc n ρ T) (A : Acy Mc ρ n) (hlim : lim ≤ 200000) (q : KQ Mr S n n' ρ ρ' T lim Mr N) (tt : Tt S n n' ρ ρ' c u) :
    ∃ (t N' : Nat) (M' : Mm), f235 Mr (u : Int) = some ((t : Int), M') ∧ KQ Mr S n n' ρ ρ' T lim M' N' ∧ t < N' ∧ trm M' t = T c := by
  have hn' := h.2.1.1.2.1
  have hn := h.1.1.2.2.1
  have hu := (T_lt tt).2
  have ql := (h.2.1.2.2 u hu).1
  have hh := hT_le h.1 A tg (T_lt tt).1
  have q1 := KQ_82 (i := 0) (v := (u : Int)) q
  have un : uN (up Mr 82 0 (u : Int)) n' ≤ n' := cn_le _ _
  have e0 : f235 Mr (u : Int) = l235 FU 9 (up Mr 82 0 (u : Int)) (u : Int) (([u] : List Nat).length : Int) 0 0 0 := rfl
  have last : ∀ (f' : Nat) (M' : Mm) (N' : Nat), KQ Mr S n n' ρ ρ' T lim M' N' → M' 81 (ρ' u) ≠ -1 → ∃ t : Nat, l235 (f' + 1) 9 M' (u : Int) 0 0 0 0 = some ((t : Int), M') ∧ t < N' ∧ trm M' t = T c := by
    intro f' M' N' q' hne
    rcases q'.2.2.2.2 c u tt with z | ⟨t, z1, z2, z3⟩
    · exact absurd z hne
    · refine ⟨t, ?_, z2, z3⟩
      rw [l235, if_pos (by decide), Fr_217 (KQ_fin h q').2.1 hu, bs_, if_pos (by omega), Int.toNat_natCast, z1]
  have sk0 : sk (up Mr 82 0 (u : Int)) 82 [u] := ⟨up_same _ _ _ _, trivial⟩
  by_cases m : (up Mr 82 0 (u : Int)) 81 (ρ' u) = -1
  · obtain ⟨t, N', M', f', z1, z2, z3, z4, z5, z6, z7, z8⟩ := term_big (x1 := (u : Int)) h nm tg hlim (hT (T c)) c u FU N [] (up Mr 82 0 (u : Int)) (Nat.le_refl _) q1 tt sk0 (by simp; omega) m (by unfold FU; omega)
    obtain ⟨f', rfl⟩ : ∃ g, f' = g + 1 := ⟨f' - 1, by unfold FU at z6; omega⟩
    obtain ⟨t', w1, w2, w3⟩ := last f' M' N' z2 (by omega)
    exact ⟨t', N', M', by rw [e0, z1]; exact w1, z2, w2, w3⟩
  · obtain ⟨f1, d1, d2⟩ := l235_head (x1 := (u : Int)) (f := FU - 3) (KQ_fin h q1).2.1 hu rfl sk0 (by simp)
    rw [Nat.sub_add_cancel (by unfold FU; omega)] at d2
    obtain ⟨f2, rfl⟩ : ∃ f2, f1 = f2 + 3 := ⟨f1 - 3, by unfold FU at d1; omega⟩
    have e1 := l235_pop (M := up Mr 82 0 (u : Int)) (f := f2 + 1) (x1 := (u : Int)) (len := 0) (A := rtA (up Mr 82 0 (u : Int)) ρ' (ρ' u)) (B := rtB (up Mr 82 0 (u : Int)) ρ' (ρ' u)) (show ρ' u < 4000 by omega) (by omega) m
    obtain ⟨t', w1, w2, w3⟩ := last f2 _ N q1 m
    refine ⟨t', N, _, ?_, q1, w2, w3⟩
    rw [e0, d2]
    exact e1.trans w1
end TK2
