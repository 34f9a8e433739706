/-! Run: the states of both machines together. -/
def Stq (Mc Mr : Mm) (s lim : Nat) : Prop := Mc 47 7 = (s : Int) ∧ Mr 53 58 = (s : Int) ∧ Mc 47 8 = (lim : Int) ∧ Mr 53 59 = (lim : Int) ∧ Mc 47 9 = 0 ∧ Mr 53 60 = 0
section JOINT
variable (M0 R0 : Mm) (N NT : Nat) (G : Nat → UGt) (Mc Mr : Mm) (φ : Nat → Nat) (τ : Nat → Ty) (κ : Nat → Nat × Nat × Nat) (Es : Nat → Int → Ty) (n m nf ne : Nat) (ω : Nat → Ty) (w s lim : Nat)
def Sj : Prop := Bas M0 R0 N NT G Mc Mr φ τ κ Es n m nf ne ∧ Stq Mc Mr s lim ∧ Mc 47 6 = (w : Int) ∧ ∀ k, k < w → WOK M0 N G Mc Mr φ τ κ Es n m nf ne ω k
/-- a value stands here and there -/
def SV : Prop := Sj M0 R0 N NT G Mc Mr φ τ κ Es n m nf ne ω w s lim ∧ Mr 53 71 = (w : Int) ∧ Mc 47 10 = -1 ∧ ∃ i : Nat, i < n ∧ Mc 47 14 = (i : Int) ∧ Mr 53 78 = (φ i : Int) ∧ τ i = ω w
/-- a place is to be evaluated -/
def SE : Prop := Sj M0 R0 N NT G Mc Mr φ τ κ Es n m nf ne ω w s lim ∧ Mr 53 71 = ((w + 1 : Nat) : Int) ∧ ∃ (u p f η : Nat) (ν : Int), PL M0 N G Mc κ Es n nf ne u p f η ν ∧ Mc 47 10 = ((G u).2.1 p : Int) ∧ Mc 47 11 = ((60 * u + p : Nat) : Int) ∧ Mc 47 12 = ν ∧ Mc 47 13 = (f : Int) ∧ Mr 103 w = 0 ∧ Mr 104 w = (u : Int) ∧ Mr 105 w = ((G u).2.1 p : Int) ∧ Mr 106 w = (p : Int) ∧ Mr 107 w = pe φ ν ∧ Mr 108 w = (η : Int) ∧ ω w = sub (Es η) ((G u).2.2.2.1 p)
end JOINT
section JOINT2
variable {M0 R0 : Mm} {N NT : Nat} {G : Nat → UGt} {Mc Mr Mc' Mr' : Mm} {φ φ' : Nat → Nat} {τ τ' : Nat → Ty} {κ κ' : Nat → Nat × Nat × Nat} {Es Es' : Nat → Int → Ty} {n m nf ne n' m' nf' ne' : Nat} {ω : Nat → Ty} {w s s' lim : Nat}
theorem Sj_to (sc : Sj M0 R0 N NT G Mc Mr φ τ κ Es n m nf ne ω w s lim) (b' : Bas M0 R0 N NT G Mc' Mr' φ' τ' κ' Es' n' m' nf' ne') (g : Grw Mc Mr φ τ κ Es n m nf ne Mc' Mr' φ' τ' κ' Es' n' m' nf' ne') (st : Stq Mc' Mr' s' lim) (h6 : Mc' 47 6 = (w : Int)) (h51 : ∀ j, j < 5 * w → Mc' 51 j = Mc 51 j) (h103 : ∀ a k, 103 ≤ a → a ≤ 108 → k < w → Mr' a k = Mr a k) : Sj M0 R0 N NT G Mc' Mr' φ' τ' κ' Es' n' m' nf' ne' ω w s' lim :=
  ⟨b', st, h6, fun k hk => WOK_grow sc.1.2.2.2.2 g (fun j _ h2 => h51 j (by omega)) (fun a h1 h2 => h103 a k h1 h2 hk) ⟨rfl, rfl⟩ (sc.2.2.2 k hk)⟩
/-- registers change, nothing else -/
theorem Sj_fr (h1 : ∀ a, a ≠ 47 → Mc' a = Mc a) (h16 : Mc' 47 16 = Mc 47 16) (h6 : Mc' 47 6 = Mc 47 6) (h2 : ∀ a, a ≠ 53 → Mr' a = Mr a) (h3 : ∀ j, (j < 58 ∨ j = 61 ∨ j = 68) → Mr' 53 j = Mr 53 j) (st : Stq Mc' Mr' s' lim) (sc : Sj M0 R0 N NT G Mc Mr φ τ κ Es n m nf ne ω w s lim) : Sj M0 R0 N NT G Mc' Mr' φ τ κ Es n m nf ne ω w s' lim ∧ Grw Mc Mr φ τ κ Es n m nf ne Mc' Mr' φ τ κ Es n m nf ne := by
  obtain ⟨b, g⟩ := Bas_fr (fun a b1 _ => h1 a b1) h16 (fun a b1 _ => h2 a b1) h3 sc.1
  exact ⟨Sj_to sc b g st (h6.trans sc.2.2.1) (fun _ _ => by rw [h1 51 (by decide)]) (fun a k b1 b2 _ => by rw [h2 a (by omega)]), g⟩
/-- a new cell is the value -/
theorem SV_new {x1 x2 x3 x4 x5 y1 y2 y3 y4 y5 y6 : Int} {q : Nat × Nat × Nat} (sc : Sj M0 R0 N NT G Mc Mr φ τ κ Es n m nf ne ω w s lim) (h71 : Mr 53 71 = (w : Int)) (hn : Grw Mc Mr φ τ κ Es n m nf ne (wc Mc n x1 x2 x3 x4 x5) (wr Mr m y1 y2 y3 y4 y5 y6) (fu φ n m) (fu τ n (ω w)) (fu κ n q) Es (n + 1) (m + 1) nf ne → COK M0 N G (wc Mc n x1 x2 x3 x4 x5) (wr Mr m y1 y2 y3 y4 y5 y6) (fu φ n m) (fu τ n (ω w)) (fu κ n q) Es (m + 1) nf ne n) : SV M0 R0 N NT G (up (up (wc Mc n x1 x2 x3 x4 x5) 47 14 (n : Int)) 47 10 (-1)) (up (wr Mr m y1 y2 y3 y4 y5 y6) 53 78 (m : Int)) (fu φ n m) (fu τ n (ω w)) (fu κ n q) Es (n + 1) (m + 1) nf ne ω w s lim := by
  obtain ⟨b, g⟩ := Bas_new sc.1 hn
  obtain ⟨t1, t2, t3, t4, t5, t6⟩ := sc.2.1
  have sc1 : Sj M0 R0 N NT G (wc Mc n x1 x2 x3 x4 x5) (wr Mr m y1 y2 y3 y4 y5 y6) (fu φ n m) (fu τ n (ω w)) (fu κ n q) Es (n + 1) (m + 1) nf ne ω w s lim := Sj_to sc b g (by
    unfold Stq
    rw [wc_cell (by decide) (by decide), wr_53 (by decide), wr_53 (by decide), wr_53 (by decide)]
    exact ⟨t1, t2, t3, t4, t5, t6⟩) (by rw [wc_cell (by decide) (by decide)]; exact sc.2.2.1) (fun _ _ => by rw [wc_cell (by decide) (by decide)]) (fun a k b1 b2 _ => by rw [wr_cell (by omega) (by omega)])
  obtain ⟨sc2, _⟩ := Sj_fr (Mc' := up (up (wc Mc n x1 x2 x3 x4 x5) 47 14 (n : Int)) 47 10 (-1)) (Mr' := up (wr Mr m y1 y2 y3 y4 y5 y6) 53 78 (m : Int)) (s' := s) (fun a ha => by rw [up_cell ha, up_cell ha]) (by rw [up_at (by decide), up_at (by decide)]) (by rw [up_at (by decide), up_at (by decide)]) (fun a ha => up_cell ha) (fun j hj => up_at (by omega)) (by
    have z := sc1.2.1
    unfold Stq at z ⊢
    rw [up_at (by decide), up_at (by decide), up_at (by decide), up_at (by decide), up_at (by decide), up_at (by decide), up_at (by decide), up_at (by decide), up_at (by decide)]
    exact z) sc1
  refine ⟨sc2, by rw [up_at (by decide), wr_53 (by decide)]; exact h71, up_same _ _ _ _, n, by omega, by rw [up_at (by decide), up_same], by rw [up_same, fu_eq], fu_eq⟩
/-- an old cell is the value -/
theorem SV_old {i : Nat} (sc : Sj M0 R0 N NT G Mc Mr φ τ κ Es n m nf ne ω w s lim) (h71 : Mr 53 71 = (w : Int)) (hi : i < n) (ht : τ i = ω w) : SV M0 R0 N NT G (up (up Mc 47 14 (i : Int)) 47 10 (-1)) (up Mr 53 78 (φ i : Int)) φ τ κ Es n m nf ne ω w s lim := by
  obtain ⟨sc2, _⟩ := Sj_fr (Mc' := up (up Mc 47 14 (i : Int)) 47 10 (-1)) (Mr' := up Mr 53 78 (φ i : Int)) (s' := s) (fun a ha => by rw [up_cell ha, up_cell ha]) (by rw [up_at (by decide), up_at (by decide)]) (by rw [up_at (by decide), up_at (by decide)]) (fun a ha => up_cell ha) (fun j hj => up_at (by omega)) (by
    have z := sc.2.1
    unfold Stq at z ⊢
    rw [up_at (by decide), up_at (by decide), up_at (by decide), up_at (by decide), up_at (by decide), up_at (by decide), up_at (by decide), up_at (by decide), up_at (by decide)]
    exact z) sc
  exact ⟨sc2, by rw [up_at (by decide)]; exact h71, up_same _ _ _ _, i, hi, by rw [up_at (by decide), up_same], up_same _ _ _ _, ht⟩
/-- one step more -/
theorem Sj_step (sc : Sj M0 R0 N NT G Mc Mr φ τ κ Es n m nf ne ω w s lim) {x : Int} : Sj M0 R0 N NT G (up (up Mc 47 9 0) 47 7 ((s : Int) + 1)) (up (up Mr 53 71 x) 53 58 ((s : Int) + 1)) φ τ κ Es n m nf ne ω w (s + 1) lim ∧ Grw Mc Mr φ τ κ Es n m nf ne (up (up Mc 47 9 0) 47 7 ((s : Int) + 1)) (up (up Mr 53 71 x) 53 58 ((s : Int) + 1)) φ τ κ Es n m nf ne := by
  refine Sj_fr (fun a ha => by rw [up_cell ha, up_cell ha]) (by rw [up_at (by decide), up_at (by decide)]) (by rw [up_at (by decide), up_at (by decide)]) (fun a ha => by rw [up_cell ha, up_cell ha]) (fun j hj => by rw [up_at (by omega), up_at (by omega)]) ?_ sc
  obtain ⟨t1, t2, t3, t4, t5, t6⟩ := sc.2.1
  refine ⟨by rw [up_same]; omega, by rw [up_same]; omega, by rw [up_at (by decide), up_at (by decide)]; exact t3, by rw [up_at (by decide), up_at (by decide)]; exact t4, by rw [up_at (by decide), up_same], by rw [up_at (by decide), up_at (by decide)]; exact t6⟩
end JOINT2
