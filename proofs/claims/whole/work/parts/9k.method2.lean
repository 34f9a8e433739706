/-! The simple calls: method, whole. -/
theorem Rel_80 {Mc Mr R : Mm} {v : Int} (rel : Rel Mc Mr) (h : ∀ a, a ≠ 80 → R a = Mr a) : Rel Mc (up R 53 0 v) := by
  refine Rel_fr (fun _ _ => rfl) (fun a b1 b2 => by rw [up_cell (by omega), h a (by omega)]) (fun k _ hk => by rw [up_at hk, h 53 (by decide)]) ?_ rel
  exact ValR_fr ⟨rfl, rfl⟩ ⟨by rw [up_at (by decide), h 53 (by decide)], by rw [up_at (by decide), h 53 (by decide)], by rw [up_at (by decide), h 53 (by decide)], by rw [up_cell (by decide), h 94 (by decide)]⟩ (Rel_vr rel)
theorem Ans_80 {Mc Mr R : Mm} {k v b : Int} (rel : Rel Mc Mr) (h : ∀ a, a ≠ 80 → R a = Mr a) (hk : k = 1 ∨ k = 2) : Ans Mc Mr (some (k, v, Mc)) (some (b, up R 53 0 k)) := ⟨k, v, b, Mc, up R 53 0 k, rfl, rfl, up_same _ _ _ _, by omega, fun z => by omega, Rel_80 rel h, fun _ _ => rfl, fun a ha => by rw [up_cell (by omega), h a (by omega)]⟩
theorem meth_call {Mc Mr : Mm} (rel : Rel Mc Mr) (x y : Int) : Ans Mc Mr (f30 Mc x y) (f196 Mr x y) := by
  obtain ⟨N, NT, st, ct, _⟩ := id rel
  have n6 := ct.1.2.2
  have h5 := ct.1.1
  have h53 := ct.1.2.1
  have c13 := st.1.1
  have e1 : Mr 53 1 = Mc 1 3 := st.2.1.1
  unfold f30 f196
  rw [f26_b, bs_, f195_b, bs_, h5, h53]
  rcases b01_01 (N : Int) x with z | ⟨z, z1, z2⟩
  · rw [if_pos z, if_pos z]; exact Ans_thr rel (Or.inl rfl)
  · have nz : ¬ b01 (N : Int) x = 0 := by omega
    rw [if_neg nz, if_neg nz, f17_b, bs_, f190_b, bs_, e1]
    rcases b01_01 (Mc 1 3) y with w | ⟨w, w1, w2⟩
    · rw [if_pos w, if_pos w]; exact Ans_thr rel (Or.inl rfl)
    · have nw : ¬ b01 (Mc 1 3) y = 0 := by omega
      rw [if_neg nw, if_neg nw]
      obtain ⟨c, rfl⟩ : ∃ c : Nat, x = (c : Int) := ⟨x.toNat, by omega⟩
      obtain ⟨t, rfl⟩ : ∃ t : Nat, y = (t : Int) := ⟨y.toNat, by omega⟩
      have hc : c < N := by omega
      obtain ⟨R, r1, r2⟩ := var_loop st.1 st.2.2.1 st.2.1 w2 (t + 1) 0 FU Mr (by omega) (by unfold FU; omega) (fun _ _ => rfl) (fun i hi => by omega)
      have r1 : f197 Mr (t : Int) = some (Mc 4 t, R) := r1
      have e31 : f31 Mc (t : Int) = some (if ¬ Mc 4 t = 1 then 0 else 1) := by
        unfold f31
        rw [if_pos (by omega), Int.toNat_natCast]
        by_cases q : Mc 4 t = 1
        · have nq : ¬ ¬ Mc 4 t = 1 := fun z => z q
          rw [if_neg nq, if_neg nq]
        · rw [if_pos q, if_pos q]
      rw [e31, bs_, r1, bs_]
      dsimp only
      by_cases q : Mc 4 t = 1
      · have nq : ¬ ¬ Mc 4 t = 1 := fun z => z q
        have l3 := (st.2.2.2.2.2.1.2 c (by omega)).1
        obtain ⟨mm, h7⟩ : ∃ mm : Nat, Mc 7 c = (mm : Int) := ⟨(Mc 7 c).toNat, by omega⟩
        have r58 : R 58 c = (mm : Int) := by rw [r2 58 (by decide), (ct.2.1 c hc).2.1]; exact h7
        have e32 : f32 Mc (c : Int) = some (mm : Int) := by unfold f32; rw [if_pos (by omega), Int.toNat_natCast, h7]
        rw [if_neg nq, if_neg nq, if_neg (show ¬ (1 : Int) = 0 by decide), e32, bs_, if_pos (show 0 ≤ (c : Int) ∧ (c : Int) < 6 by omega), Int.toNat_natCast]
        by_cases m3 : (3 : Int) ≤ (mm : Int)
        · rw [if_pos m3, if_pos (show R 58 c = 3 by omega)]
          exact Ans_80 rel r2 (Or.inr rfl)
        · rw [if_neg m3, if_neg (show ¬ R 58 c = 3 by omega)]
          obtain ⟨a0, b0⟩ := f34_ok (s := 0) ct hc (by omega)
          obtain ⟨a1, b1⟩ := f34_ok (s := 1) ct hc (by omega)
          obtain ⟨a2, b2⟩ := f34_ok (s := 2) ct hc (by omega)
          have a0 : f34 Mc (c : Int) 0 = some (Mc 9 (3 * c + 0)) := a0
          have a1 : f34 Mc (c : Int) 1 = some (Mc 9 (3 * c + 1)) := a1
          have a2 : f34 Mc (c : Int) 2 = some (Mc 9 (3 * c + 2)) := a2
          have k0 := (ct.2.2 (3 * c + 0) (by omega)).1
          have k1 := (ct.2.2 (3 * c + 1) (by omega)).1
          have k2 := (ct.2.2 (3 * c + 2) (by omega)).1
          have r60 : R 60 = Mr 60 := r2 60 (by decide)
          have any : ∃ q : Int, f33 Mc (c : Int) = some q ∧ f198 R (c : Int) = some q ∧ ((q = 0 ∧ ∀ s, s < 3 → Mc 9 (3 * c + s) = 0) ∨ q = 1) := by
            unfold f33 f198
            rw [a0, bs_, a1, bs_, a2, bs_, r60, show (3 : Int) * (c : Int) = ((3 * c + 0 : Nat) : Int) by omega, if_pos (show 0 ≤ ((3 * c + 0 : Nat) : Int) ∧ ((3 * c + 0 : Nat) : Int) < 18 by omega), Int.toNat_natCast, k0, show ((3 * c + 0 : Nat) : Int) + 1 = ((3 * c + 1 : Nat) : Int) by omega, if_pos (show 0 ≤ ((3 * c + 1 : Nat) : Int) ∧ ((3 * c + 1 : Nat) : Int) < 18 by omega), Int.toNat_natCast, k1, show ((3 * c + 0 : Nat) : Int) + 2 = ((3 * c + 2 : Nat) : Int) by omega, if_pos (show 0 ≤ ((3 * c + 2 : Nat) : Int) ∧ ((3 * c + 2 : Nat) : Int) < 18 by omega), Int.toNat_natCast, k2]
            by_cases z0 : Mc 9 (3 * c + 0) = 0
            · have n0 : ¬ ¬ Mc 9 (3 * c + 0) = 0 := fun z => z z0
              rw [if_neg n0]
              by_cases z1 : Mc 9 (3 * c + 1) = 0
              · have n1 : ¬ ¬ Mc 9 (3 * c + 1) = 0 := fun z => z z1
                rw [if_neg n1]
                by_cases z2 : Mc 9 (3 * c + 2) = 0
                · rw [if_pos z2]
                  refine ⟨0, rfl, rfl, Or.inl ⟨rfl, fun s hs => ?_⟩⟩
                  have : s = 0 ∨ s = 1 ∨ s = 2 := by omega
                  rcases this with rfl | rfl | rfl
                  · exact z0
                  · exact z1
                  · exact z2
                · rw [if_neg z2]
                  exact ⟨1, rfl, rfl, Or.inr rfl⟩
              · rw [if_pos z1]
                exact ⟨1, rfl, rfl, Or.inr rfl⟩
            · rw [if_pos z0]
              exact ⟨1, rfl, rfl, Or.inr rfl⟩
          obtain ⟨q', v1, v2, v3⟩ := any
          rw [v1, bs_, v2, bs_]
          rcases v3 with ⟨v0, vs⟩ | v0
          · have i1 : ((3 : Int) * (c : Int)) + (mm : Int) = ((3 * c + mm : Nat) : Int) := by omega
            have i2 : ((c : Int) * 3) + (mm : Int) = ((3 * c + mm : Nat) : Int) := by omega
            have b18 : 0 ≤ ((3 * c + mm : Nat) : Int) ∧ ((3 * c + mm : Nat) : Int) < 18 := by omega
            have e35 : f35 Mc (c : Int) (t : Int) = some ((mm : Int), up (up Mc 8 (3 * c + mm) (t : Int)) 7 c ((mm : Int) + 1)) := by
              unfold f35
              rw [if_pos (by omega), Int.toNat_natCast, h7, i2, if_pos b18, if_pos (by omega), Int.toNat_natCast]
            rw [if_neg (fun z => z v0), if_pos v0, e35, bs_, if_pos (show 0 ≤ (3 : Int) * (c : Int) + R 58 c ∧ (3 : Int) * (c : Int) + R 58 c < 18 by omega), if_pos (show rg (R 58 c + 1) by omega), up_same, if_pos (show rg (R 58 c + 1 - 1) by omega), r58, i1, Int.toNat_natCast]
            refine ⟨0, _, _, _, _, rfl, rfl, ?_, by omega, fun _ => by dsimp only; omega, meth_new rel r2 h5 hc h7 (by omega) w2 q vs, fun a ha => by dsimp only; rw [up_cell (by omega), up_cell (by omega)], fun a ha => by rw [up_cell (by omega), up_cell (by omega), up_cell (by omega), r2 a (by omega)]⟩
            rw [up_cell (by decide), up_cell (by decide), up_same]
          · rw [if_pos (show ¬ q' = 0 by omega), if_neg (show ¬ q' = 0 by omega)]
            exact Ans_80 rel r2 (Or.inr rfl)
      · rw [if_pos q, if_pos q, if_pos rfl]
        exact Ans_80 rel r2 (Or.inl rfl)
