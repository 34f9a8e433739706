/-! Numbering a type, the reference's way: the whole of it. -/
section BIG3
variable {Mc Mr : Mm} {S : Nat → Nat → Prop} {n n' k : Nat} {cs : List (Nat × Nat)} {ρ ρ' : Nat → Nat} {T : Nat → Ty}
theorem big_ok {x1 : Int} (h : Fin2 Mc Mr S n n' cs ρ ρ') (nm : Nm Mc Mr S n n' ρ ρ' k) (tg : TyG Mc n ρ T) (h5 : ∀ y, y < n → Mc 26 y ≠ 5) (b : Nat) : ∀ (c u f : Nat) (L : List Nat) (M : Mm) (B : Tab), hT (T c) ≤ b → NQ Mc Mr S n n' ρ ρ' T M B → Tt S n n' ρ ρ' c u → vOK (T c) → sk M 82 (u :: L) → L.length + b ≤ 13000 → M 81 (ρ' u) = -1 → 60 * uN M n' + 20 * (hT (T c) + 1) ≤ f → Out Mc Mr S n n' ρ ρ' T x1 c u L M B f := by
  induction b with
  | zero =>
    intro c u f L M B hb q tt vc hs hL h0 hf
    exact leaf c u f L M B (by omega) q tt vc hs (by omega) h0 (by omega)
  | succ b ih =>
    intro c u f L M B hb q tt vc hs hL h0 hf
    by_cases hz : hT (T c) = 0
    · exact leaf c u f L M B hz q tt vc hs (by omega) h0 (by omega)
    have hn' := h.2.1.1.2.1
    have hu := (T_lt tt).2
    have hc := (T_lt tt).1
    have ql := (h.2.1.2.2 u hu).1
    have rc := h.1.2.2 c hc
    have kk := T_k h tt
    have kq := (rtA_eq q (ρ' u)).2.2
    obtain ⟨g0, g1, g2, g3, g4, g5⟩ := tg.2 c hc
    obtain ⟨q1, q2, q3, q4, q5, q6⟩ := h.1.1.2.2.2 (ρ c) rc.1
    obtain ⟨r1, r2, r3, r4⟩ := h.2.1.1.2.2 (ρ' u) ql
    have k34 : 3 ≤ Mc 26 (ρ c) ∧ Mc 26 (ρ c) ≤ 4 := by
      have := h5 (ρ c) rc.1
      by_cases k0 : Mc 26 (ρ c) = 0
      · rw [g0 k0] at hz; exact absurd rfl hz
      · by_cases k1 : Mc 26 (ρ c) = 1
        · rw [g1 k1] at hz; exact absurd rfl hz
        · by_cases k2 : Mc 26 (ρ c) = 2
          · rw [g2 k2] at hz; exact absurd rfl hz
          · omega
    have ta := T_a h tt k34
    generalize hA : (Mc 27 (ρ c)).toNat = a at *
    have la := (T_lt ta).2
    have ra := h.2.1.2.2 _ la
    generalize hA' : ρ' (Mr 77 (ρ' u)).toNat = a' at *
    have ta' : Tt S n n' ρ ρ' a a' := T_r ta (T_lt ta).1 ra.1 rfl (by rw [ra.2]; exact hA')
    have eA : rtA Mr ρ' (ρ' u) = (a' : Int) := by
      unfold rtA
      rw [if_pos (by omega), hA']
    by_cases k3 : Mc 26 (ρ c) = 3
    · have Tc : T c = tL (T a) := g3 k3
      have va : vOK (T a) := by rw [Tc] at vc; exact vc.2
      have hh : hT (T c) = hT (T a) + 1 := by rw [Tc]; rfl
      have eB : rtB Mr ρ' (ρ' u) = -1 := by
        unfold rtB
        rw [if_neg (by omega)]
      have insx : ∀ C, ins (T c) C = (ins (T a) C).bind (fun z => tadd z.2 (z.1 : Int) (-1)) := fun C => by rw [Tc]; rfl
      rcases part_A (x1 := x1) (f := f) h q tt va ta' ra.2 eA hs (by omega) h0 (by omega) (by omega) (fun f M w1 w2 w3 w4 => ih a a' f (u :: L) M B (by omega) w1 ta' va w2 (by simp; omega) w3 w4) with ⟨z1, M', z2, z3⟩ | ⟨l, C, M1, f1, y1, y2, y3, y4, y5, y6, y7, y8, y9, y10⟩
      · exact Or.inl ⟨by rw [insx, z1]; rfl, M', z2, z3⟩
      · dsimp only at y2
        obtain ⟨o1, o2, o3, o4, o5, o6⟩ := ins_ok (T a) va q.2.2.1 y1
        have uu : 1 ≤ uN M1 n' := cn_pos (p := fun y => decide (M1 81 y = -1)) (decide_eq_true y5) ql
        obtain ⟨f2, rfl⟩ : ∃ f2, f1 = f2 + 3 := ⟨f1 - 3, by omega⟩
        have e1 := l233_nB (M := M1) (f := f2 + 2) (x1 := x1) (q := ρ' u) (A := rtA Mr ρ' (ρ' u)) (B := rtB Mr ρ' (ρ' u)) (len := (u :: L).length) (Or.inl eB)
        have e2 := l233_list (M := M1) (f := f2) (x1 := x1) (len := (u :: L).length) (show ρ' u < 4000 by omega) eA (show a' < 4000 by omega) eB (by rw [(rtA_eq y3 _).2.2]; omega)
        have e12 : ins (T c) B = ins (T c) C := by rw [insx, insx, y1, o4]
        obtain ⟨m1, m2⟩ := big_made (x1 := x1) (f := f2) (l := l) (r := -1) (A := rtA Mr ρ' (ρ' u)) (Bb := rtB Mr ρ' (ρ' u)) h tg y3 tt vc o3 (Or.inl rfl) (by rw [insx, o4]; rfl) (fun t C' hC => by
          obtain ⟨w1, w2, w3, w4, w5, w6⟩ := tadd_ok (r := 0) o1 o3 (Or.inl rfl) hC
          rw [insx, ins_ok.ins_ext (T a) va o1 o4 w2]
          exact w5) y6 (by omega) y5 (by omega)
        have e3 : l233 f 32 M x1 ((u :: L).length : Int) 0 0 0 0 = (f191 M1 (asR (-1)).1 (l : Int) (asR (-1)).2).bind (fun z => l233 f2 259 z.2 x1 ((L.length + 1 : Nat) : Int) (ρ' u : Int) (rtA Mr ρ' (ρ' u)) (rtB Mr ρ' (ρ' u)) z.1) := by
          rw [y2, e1, e2, y4]
          exact m1
        rcases m2 with ⟨z1, M', z2, z3⟩ | ⟨t, C', M2, x_1, x_2, x_3, x_4, x_5, x_6, x_7, x_8⟩
        · exact Or.inl ⟨by rw [e12]; exact z1, M', by rw [e3]; exact z2, z3⟩
        · refine Or.inr ⟨t, C', M2, f2 - 2, by rw [e12]; exact x_1, by rw [e3]; exact x_2, x_3, x_4, x_5, by omega, by omega, fun y hy => ?_, fun d v td hd => ?_⟩
          · rw [x_7 y (by rw [y9 y hy]; exact hy), y9 y hy]
          · rw [x_8 d v td hd, y10 d v td (by omega)]
    · have k4 : Mc 26 (ρ c) = 4 := by omega
      have tb := T_b h tt k4
      generalize hB : (Mc 28 (ρ c)).toNat = bb at *
      have lb := (T_lt tb).2
      have rb := h.2.1.2.2 _ lb
      generalize hB' : ρ' (Mr 78 (ρ' u)).toNat = b' at *
      have tb' : Tt S n n' ρ ρ' bb b' := T_r tb (T_lt tb).1 rb.1 rfl (by rw [rb.2]; exact hB')
      have eB : rtB Mr ρ' (ρ' u) = (b' : Int) := by
        unfold rtB
        rw [if_pos (by omega), hB']
      have Tc : T c = tF (T a) (T bb) := g4 k4
      have va : vOK (T a) := by rw [Tc] at vc; exact vc.1
      have vb : vOK (T bb) := by rw [Tc] at vc; exact vc.2
      have hh : hT (T c) = max (hT (T a)) (hT (T bb)) + 1 := by rw [Tc]; rfl
      have insx : ∀ C, ins (T c) C = (ins (T a) C).bind (fun z => (ins (T bb) z.2).bind (fun w => tadd w.2 (z.1 : Int) (w.1 : Int))) := fun C => by rw [Tc]; rfl
      rcases part_A (x1 := x1) (f := f) h q tt va ta' ra.2 eA hs (by omega) h0 (by omega) (by omega) (fun f M w1 w2 w3 w4 => ih a a' f (u :: L) M B (by omega) w1 ta' va w2 (by simp; omega) w3 w4) with ⟨z1, M', z2, z3⟩ | ⟨l, C, M1, f1, y1, y2, y3, y4, y5, y6, y7, y8, y9, y10⟩
      · exact Or.inl ⟨by rw [insx, z1]; rfl, M', z2, z3⟩
      · dsimp only at y2
        obtain ⟨o1, o2, o3, o4, o5, o6⟩ := ins_ok (T a) va q.2.2.1 y1
        have uu : 1 ≤ uN M1 n' := cn_pos (p := fun y => decide (M1 81 y = -1)) (decide_eq_true y5) ql
        rcases part_B (x1 := x1) (f := f1) (l := l) h y3 tt vb tb' rb.2 ra.1 eA eB y4 y6 (by omega) y5 (by omega) (by omega) (fun f M w1 w2 w3 w4 => ih bb b' f (u :: L) M C (by omega) w1 tb' vb w2 (by simp; omega) w3 w4) with ⟨z1, M', z2, z3⟩ | ⟨r, D, M3, f3, s1, s2, s3, s4, s5, s6, s7, s8, s9, s10⟩
        · refine Or.inl ⟨?_, M', by rw [y2]; exact z2, z3⟩
          rw [insx, y1]
          show (ins (T bb) C).bind _ = none
          rw [z1]; rfl
        · dsimp only at s2
          obtain ⟨o1', o2', o3', o4', o5', o6'⟩ := ins_ok (T bb) vb o1 s1
          have uu3 : 1 ≤ uN M3 n' := cn_pos (p := fun y => decide (M3 81 y = -1)) (decide_eq_true s5) ql
          have ll : C.1 ≤ D.1 := o2'.1
          have o4a : ins (T a) D = some (l, D) := ins_ok.ins_ext (T a) va o1 o4 o2'
          have hdef : ins (T c) D = tadd D (l : Int) (r : Int) := by
            rw [insx, o4a]
            show (ins (T bb) D).bind _ = _
            rw [o4']; rfl
          have m3a : M3 81 a' = (l : Int) := by rw [s9 a' (by rw [y4]; omega)]; exact y4
          obtain ⟨f2, rfl⟩ : ∃ f2, f3 = f2 + 2 := ⟨f3 - 2, by omega⟩
          have e2 := l233_fun (M := M3) (f := f2) (x1 := x1) (len := (u :: L).length) (show ρ' u < 4000 by omega) eA (show a' < 4000 by omega) eB (show b' < 4000 by omega) (by rw [s4]; omega) (by rw [(rtA_eq s3 _).2.2]; omega)
          have e12 : ins (T c) B = ins (T c) D := by
            rw [hdef, insx, y1]
            show (ins (T bb) C).bind _ = _
            rw [s1]; rfl
          obtain ⟨m1, m2⟩ := big_made (x1 := x1) (f := f2) (l := l) (r := (r : Int)) (A := rtA Mr ρ' (ρ' u)) (Bb := rtB Mr ρ' (ρ' u)) h tg s3 tt vc (by omega) (Or.inr (by omega)) hdef (fun t C' hC => by
            obtain ⟨w1, w2, w3, w4, w5, w6⟩ := tadd_ok (r := r) o1' (show l < D.1 by omega) (Or.inr ⟨rfl, o3'⟩) hC
            rw [insx, ins_ok.ins_ext (T a) va o1' o4a w2]
            show (ins (T bb) C').bind _ = _
            rw [ins_ok.ins_ext (T bb) vb o1' o4' w2]
            exact w5) s6 (by omega) s5 (by omega)
          have e3 : l233 f 32 M x1 ((u :: L).length : Int) 0 0 0 0 = (f191 M3 (asR (r : Int)).1 (l : Int) (asR (r : Int)).2).bind (fun z => l233 f2 259 z.2 x1 ((L.length + 1 : Nat) : Int) (ρ' u : Int) (rtA Mr ρ' (ρ' u)) (rtB Mr ρ' (ρ' u)) z.1) := by
            rw [y2, s2, e2, m3a, s4]
            exact m1
          rcases m2 with ⟨z1, M', z2, z3⟩ | ⟨t, C', M2, x_1, x_2, x_3, x_4, x_5, x_6, x_7, x_8⟩
          · exact Or.inl ⟨by rw [e12]; exact z1, M', by rw [e3]; exact z2, z3⟩
          · refine Or.inr ⟨t, C', M2, f2 - 2, by rw [e12]; exact x_1, by rw [e3]; exact x_2, x_3, x_4, x_5, by omega, by omega, fun y hy => ?_, fun d v td hd => ?_⟩
            · have w1 := y9 y hy
              have w2 := s9 y (by rw [w1]; exact hy)
              rw [x_7 y (by rw [w2, w1]; exact hy), w2, w1]
            · rw [x_8 d v td hd, s10 d v td (by omega), y10 d v td (by omega)]
where
  leaf : ∀ (c u f : Nat) (L : List Nat) (M : Mm) (B : Tab), hT (T c) = 0 → NQ Mc Mr S n n' ρ ρ' T M B → Tt S n n' ρ ρ' c u → vOK (T c) → sk M 82 (u :: L) → L.length ≤ 13000 → M 81 (ρ' u) = -1 → 60 * uN M n' + 20 ≤ f → Out Mc Mr S n n' ρ ρ' T x1 c u L M B f := by
    intro c u f L M B hb q tt vc hs hL h0 hf
    have hn' := h.2.1.1.2.1
    have hu := (T_lt tt).2
    have hc := (T_lt tt).1
    have ql := (h.2.1.2.2 u hu).1
    have rc := h.1.2.2 c hc
    have kk := T_k h tt
    have kq := (rtA_eq q (ρ' u)).2.2
    obtain ⟨g0, g1, g2, g3, g4, g5⟩ := tg.2 c hc
    obtain ⟨q1, q2, q3, q4, q5, q6⟩ := h.1.1.2.2.2 (ρ c) rc.1
    have k2 : Mc 26 (ρ c) ≤ 2 := by
      have := h5 (ρ c) rc.1
      by_cases k3 : Mc 26 (ρ c) = 3
      · rw [g3 k3] at hb; exact absurd hb (by show ¬ (hT _ + 1 = 0); omega)
      · by_cases k4 : Mc 26 (ρ c) = 4
        · rw [g4 k4] at hb; exact absurd hb (by show ¬ (max _ _ + 1 = 0); omega)
        · omega
    have eA : rtA Mr ρ' (ρ' u) = -1 := by unfold rtA; rw [if_neg (by omega)]
    have eB : rtB Mr ρ' (ρ' u) = -1 := by unfold rtB; rw [if_neg (by omega)]
    obtain ⟨f1, d1, d2⟩ := l233_head (x1 := x1) (f := f - 3) (NQ_fin h q).2.1 hu rfl hs (by omega)
    rw [Nat.sub_add_cancel (by omega), (rtA_eq q _).1, (rtA_eq q _).2.1] at d2
    obtain ⟨f2, rfl⟩ : ∃ f2, f1 = f2 + 6 := ⟨f1 - 6, by omega⟩
    have e1 := l233_nA (M := M) (f := f2 + 5) (x1 := x1) (A := rtA Mr ρ' (ρ' u)) (B := rtB Mr ρ' (ρ' u)) (len := (u :: L).length) (show ρ' u < 4000 by omega) h0 (Or.inl eA)
    have e2 := l233_nB (M := M) (f := f2 + 4) (x1 := x1) (q := ρ' u) (A := rtA Mr ρ' (ρ' u)) (B := rtB Mr ρ' (ρ' u)) (len := (u :: L).length) (Or.inl eB)
    have fin : ∀ t : Nat, ins (T c) B = some (t, B) → ((M 76 (ρ' u) ≠ 2 ∧ M 76 (ρ' u) = (t : Int)) ∨ (M 76 (ρ' u) = 2 ∧ ∃ j : Int, f230 M (ρ' u : Int) = some j ∧ 2 + j = (t : Int) ∧ j < 1000)) → Out Mc Mr S n n' ρ ρ' T x1 c u L M B f := by
      intro t ht hk
      have e3 := l233_leaf (M := M) (f := f2) (x1 := x1) (t := t) (B := rtB Mr ρ' (ρ' u)) (len := L.length) (show ρ' u < 4000 by omega) (by omega) eA hk
      have eu : uN (up M 81 (ρ' u) (t : Int)) n' + 1 = uN M n' := uN_up ql h0 (v := (t : Int)) (by omega) (fun y => by
        by_cases e : y = ρ' u
        · rw [e, up_same, if_pos rfl]
        · rw [up_at e, if_neg e])
      refine Or.inr ⟨t, B, up M 81 (ρ' u) (t : Int), f2, ht, ?_, NQ_set h tg q tt ht, up_same _ _ _ _, sk_eq (fun i _ => by rw [up_cell (by decide)]) hs.2, by omega, by omega, fun y hy => ?_, fun d v td hd => ?_⟩
      · rw [d2, e1, e2]
        exact e3
      · exact up_at (fun e => hy (by rw [e]; exact h0))
      · have : ρ' v ≠ ρ' u := fun e => by
          have := tg.1 d c (T_c h td tt e)
          rw [this] at hd
          omega
        exact up_at this
    by_cases k0 : Mc 26 (ρ c) = 0
    · exact fin 0 (by rw [g0 k0]; rfl) (Or.inl (by omega))
    · by_cases k1 : Mc 26 (ρ c) = 1
      · exact fin 1 (by rw [g1 k1]; rfl) (Or.inl (by omega))
      · have k2 : Mc 26 (ρ c) = 2 := by omega
        have vv := vc
        rw [g2 k2] at vv
        have vv : 0 ≤ lb Mc (ρ c) ∧ lb Mc (ρ c) < 8 := vv.2
        refine fin (2 + lb Mc (ρ c)).toNat (by rw [g2 k2]; rfl) (Or.inr ⟨by omega, lb Mc (ρ c), ?_, by omega, by omega⟩)
        exact idx_ok (NQ_fin h q) (NQ_nm nm q) tt k2
end BIG3
