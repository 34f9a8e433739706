/-! Run: a frame alone is new; what the other side does at a use. -/
section FR2
variable {M0 R0 : Mm} {N NT : Nat} {G : Nat → UGt} {Mc Mr Mc' Mr' : Mm} {φ : Nat → Nat} {τ : Nat → Ty} {κ : Nat → Nat × Nat × Nat} {Es : Nat → Int → Ty} {n m nf ne : Nat}
/-- a new frame here, nothing there -/
theorem Bas_frm (b : Bas M0 R0 N NT G Mc Mr φ τ κ Es n m nf ne) (h1 : ∀ a, a ≠ 47 → a ≠ 48 → a ≠ 50 → a ≠ 51 → Mc' a = Mc a) (h16 : Mc' 47 16 = Mc 47 16) (h48 : Mc' 48 2 = Mc 48 2) (h483 : Mc' 48 3 = ((nf + 1 : Nat) : Int)) (h50 : ∀ j, j < 8 * nf → Mc' 50 j = Mc 50 j) (hfb : ∀ v : Nat, v < 8 → 0 ≤ Mc' 50 (8 * nf + v) ∧ Mc' 50 (8 * nf + v) ≤ 800000 * ((nf : Int) + 1)) (h2 : ∀ a, a ≠ 53 → (a < 103 ∨ 108 < a) → Mr' a = Mr a) (h3 : ∀ j, (j < 58 ∨ j = 61 ∨ j = 68) → Mr' 53 j = Mr 53 j) : Bas M0 R0 N NT G Mc' Mr' φ τ κ Es n m (nf + 1) ne ∧ Grw Mc Mr φ τ κ Es n m nf ne Mc' Mr' φ τ κ Es n m (nf + 1) ne := by
  obtain ⟨⟨s1, s2, s3, s4⟩, ⟨c1, c2, c3, c4⟩, ew, fb, ck⟩ := b
  have g : Grw Mc Mr φ τ κ Es n m nf ne Mc' Mr' φ τ κ Es n m (nf + 1) ne := ⟨⟨Nat.le_refl _, Nat.le_refl _, by omega, Nat.le_refl _⟩, fun _ _ => by rw [h1 49 (by decide) (by decide) (by decide) (by decide)], fun j hj => h50 j hj, fun a _ b1 b2 _ => by rw [h2 a (by omega) (by omega)], fun _ _ => ⟨rfl, rfl, rfl⟩, fun η hη => rfl⟩
  refine ⟨⟨⟨fun a ha => by rw [h1 a (by omega) (by omega) (by omega) (by omega)]; exact s1 a ha, by rw [h16]; exact s2, fun a ha => by rw [h2 a (by omega) (by omega)]; exact s3 a ha, fun j hj => by rw [h3 j (by omega)]; exact s4 j hj⟩, ⟨by rw [h48]; exact c1, h483, by rw [h3 61 (by omega)]; exact c3, by rw [h3 68 (by omega)]; exact c4⟩, EW_fr (h2 73 (by decide) (by omega)) (h2 74 (by decide) (by omega)) (h2 75 (by decide) (by omega)) (fun j _ => ⟨by rw [h2 101 (by decide) (by omega)], by rw [h2 102 (by decide) (by omega)]⟩) ew, fun f v hf hv => ?_, fun i hi => COK_grow g hi (ck i hi)⟩, g⟩
  by_cases e : f = nf
  · subst e
    exact hfb v hv
  · rw [h50 _ (by omega)]
    exact fb f v (by omega) hv
theorem f249_eq {M : Mm} {ne : Nat} {x1 x2 : Int} (h : M 53 68 = (ne : Int)) (hn : ne < 400) : f249 M x1 x2 = some (0, up (up (up M 101 (8 * ne) x1) 102 (8 * ne) x2) 53 68 ((ne : Int) + 1)) := by
  unfold f249
  rw [if_pos (by rw [h]; omega), if_pos (by rw [h]; unfold rg; omega), h, show Int.toNat ((8 : Int) * (ne : Int)) = 8 * ne by omega]
/-- the method's body is put on the stack there -/
theorem l245_341 {M : Mm} {e c sh mm ne w f : Nat} {x1 x3 x4 x5 x6 : Int} (he : e < 200) (h64 : M 64 e = (c : Int)) (h65 : M 65 e = (mm : Int)) (hc : c < 6) (hsh : sh < 3) (hmm : mm < 3) (h68 : M 53 68 = ((ne + 1 : Nat) : Int)) (hne : ne < 400) (h71 : M 53 71 = (w : Int)) (hw : w < 2000) : l245 (f + 1) 341 M x1 (e : Int) x3 x4 x5 x6 (sh : Int) 0 = some (0, ptk M w 0 ((20 + (9 * c + 3 * sh + mm) : Nat) : Int) (M 62 (9 * c + 3 * sh + mm)) 0 (-1) (ne : Int)) := by
  have q : f240 M (c : Int) (sh : Int) (mm : Int) = some ((20 + (9 * c + 3 * sh + mm) : Nat) : Int) := by
    unfold f240
    rw [if_pos (by unfold rg; omega), show (20 : Int) + (9 : Int) * (c : Int) + (3 : Int) * (sh : Int) + (mm : Int) = ((20 + (9 * c + 3 * sh + mm) : Nat) : Int) by omega]
  rw [l245, if_pos (by omega), Int.toNat_natCast, h64, h65, q, bs_, if_pos (by omega), if_pos (by rw [h68]; unfold rg; omega), show Int.toNat ((9 : Int) * (c : Int) + (3 : Int) * (sh : Int) + (mm : Int)) = 9 * c + 3 * sh + mm by omega, h68, show ((ne + 1 : Nat) : Int) - 1 = (ne : Int) by omega, f243_eq h71 hw, bs_]
end FR2
