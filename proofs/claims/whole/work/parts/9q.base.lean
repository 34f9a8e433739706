/-! Run: what holds at every moment of both machines. -/
def fu {α : Type} (f : Nat → α) (n : Nat) (y : α) : Nat → α := fun i => if i = n then y else f i
theorem fu_eq {α : Type} {f : Nat → α} {n : Nat} {y : α} : fu f n y n = y := if_pos rfl
theorem fu_ne {α : Type} {f : Nat → α} {n i : Nat} {y : α} (h : i ≠ n) : fu f n y i = f i := if_neg h
theorem tmT_fr {M M' : Mm} (e1 : M' 73 = M 73) (e2 : M' 74 = M 74) (e3 : M' 75 = M 75) : ∀ f t : Nat, tmT M' f t = tmT M f t := by
  intro f
  induction f with
  | zero => intro t; rfl
  | succ f ih =>
    intro t
    unfold tmT
    rw [e1, e2, e3, ih, ih]
theorem trm_fr {M M' : Mm} (e1 : M' 73 = M 73) (e2 : M' 74 = M 74) (e3 : M' 75 = M 75) (t : Nat) : trm M' t = trm M t := tmT_fr e1 e2 e3 _ _
theorem EW_fr {M M' : Mm} {NT ne : Nat} {Es : Nat → Int → Ty} (e1 : M' 73 = M 73) (e2 : M' 74 = M 74) (e3 : M' 75 = M 75) (e4 : ∀ j, j < 8 * ne → M' 101 j = M 101 j ∧ M' 102 j = M 102 j) (h : EW M NT Es ne) : EW M' NT Es ne := fun η hη v => by
  rcases h η hη v with z | ⟨w, t, η', z1, z2, z3, z4, z5, z6, z7⟩
  · exact Or.inl z
  · exact Or.inr ⟨w, t, η', z1, z2, by rw [(e4 _ (by omega)).1]; exact z3, by rw [(e4 _ (by omega)).2]; exact z4, z5, z6, by rw [trm_fr e1 e2 e3]; exact z7⟩
section BASE
variable (M0 R0 : Mm) (N NT : Nat) (G : Nat → UGt)
def Sta (Mc Mr : Mm) : Prop := (∀ a, a < 47 ∨ 52 ≤ a → Mc a = M0 a) ∧ Mc 47 16 = M0 47 16 ∧ (∀ a, a < 53 ∨ (53 < a ∧ a ≤ 94) ∨ 109 ≤ a → Mr a = R0 a) ∧ ∀ j, j < 58 → Mr 53 j = R0 53 j
def Bas (Mc Mr : Mm) (φ : Nat → Nat) (τ : Nat → Ty) (κ : Nat → Nat × Nat × Nat) (Es : Nat → Int → Ty) (n m nf ne : Nat) : Prop := Sta M0 R0 Mc Mr ∧ (Mc 48 2 = (n : Int) ∧ Mc 48 3 = (nf : Int) ∧ Mr 53 61 = (m : Int) ∧ Mr 53 68 = (ne : Int)) ∧ EW Mr NT Es ne ∧ (∀ f v : Nat, f < nf → v < 8 → 0 ≤ Mc 50 (8 * f + v) ∧ Mc 50 (8 * f + v) ≤ 800000 * ((f : Int) + 1)) ∧ ∀ i, i < n → COK M0 N G Mc Mr φ τ κ Es m nf ne i
end BASE
section BASE2
variable {M0 R0 : Mm} {N NT : Nat} {G : Nat → UGt} {Mc Mr Mc' Mr' : Mm} {φ : Nat → Nat} {τ : Nat → Ty} {κ : Nat → Nat × Nat × Nat} {Es : Nat → Int → Ty} {n m nf ne : Nat}
/-- registers and rows don't matter -/
theorem Bas_fr (h1 : ∀ a, a ≠ 47 → a ≠ 51 → Mc' a = Mc a) (h16 : Mc' 47 16 = Mc 47 16) (h2 : ∀ a, a ≠ 53 → (a < 103 ∨ 108 < a) → Mr' a = Mr a) (h3 : ∀ j, (j < 58 ∨ j = 61 ∨ j = 68) → Mr' 53 j = Mr 53 j) (b : Bas M0 R0 N NT G Mc Mr φ τ κ Es n m nf ne) : Bas M0 R0 N NT G Mc' Mr' φ τ κ Es n m nf ne ∧ Grw Mc Mr φ τ κ Es n m nf ne Mc' Mr' φ τ κ Es n m nf ne := by
  obtain ⟨⟨s1, s2, s3, s4⟩, ⟨c1, c2, c3, c4⟩, ew, fb, ck⟩ := b
  have g : Grw Mc Mr φ τ κ Es n m nf ne Mc' Mr' φ τ κ Es n m nf ne := ⟨⟨Nat.le_refl _, Nat.le_refl _, Nat.le_refl _, Nat.le_refl _⟩, fun _ _ => by rw [h1 49 (by decide) (by decide)], fun _ _ => by rw [h1 50 (by decide) (by decide)], fun a _ b1 b2 _ => by rw [h2 a (by omega) (by omega)], fun _ _ => ⟨rfl, rfl, rfl⟩, fun _ _ => rfl⟩
  refine ⟨⟨⟨fun a ha => by rw [h1 a (by omega) (by omega)]; exact s1 a ha, by rw [h16]; exact s2, fun a ha => by rw [h2 a (by omega) (by omega)]; exact s3 a ha, fun j hj => by rw [h3 j (by omega)]; exact s4 j hj⟩, ⟨by rw [h1 48 (by decide) (by decide)]; exact c1, by rw [h1 48 (by decide) (by decide)]; exact c2, by rw [h3 61 (by omega)]; exact c3, by rw [h3 68 (by omega)]; exact c4⟩, EW_fr (h2 73 (by decide) (by omega)) (h2 74 (by decide) (by omega)) (h2 75 (by decide) (by omega)) (fun j _ => ⟨by rw [h2 101 (by decide) (by omega)], by rw [h2 102 (by decide) (by omega)]⟩) ew, fun f v hf hv => by rw [h1 50 (by decide) (by decide)]; exact fb f v hf hv, fun i hi => COK_grow g hi (ck i hi)⟩, g⟩
/-- a new cell, here and there -/
theorem Bas_new {x1 x2 x3 x4 x5 y1 y2 y3 y4 y5 y6 : Int} {T : Ty} {q : Nat × Nat × Nat} (b : Bas M0 R0 N NT G Mc Mr φ τ κ Es n m nf ne) (hn : Grw Mc Mr φ τ κ Es n m nf ne (wc Mc n x1 x2 x3 x4 x5) (wr Mr m y1 y2 y3 y4 y5 y6) (fu φ n m) (fu τ n T) (fu κ n q) Es (n + 1) (m + 1) nf ne → COK M0 N G (wc Mc n x1 x2 x3 x4 x5) (wr Mr m y1 y2 y3 y4 y5 y6) (fu φ n m) (fu τ n T) (fu κ n q) Es (m + 1) nf ne n) : Bas M0 R0 N NT G (wc Mc n x1 x2 x3 x4 x5) (wr Mr m y1 y2 y3 y4 y5 y6) (fu φ n m) (fu τ n T) (fu κ n q) Es (n + 1) (m + 1) nf ne ∧ Grw Mc Mr φ τ κ Es n m nf ne (wc Mc n x1 x2 x3 x4 x5) (wr Mr m y1 y2 y3 y4 y5 y6) (fu φ n m) (fu τ n T) (fu κ n q) Es (n + 1) (m + 1) nf ne := by
  obtain ⟨⟨s1, s2, s3, s4⟩, ⟨c1, c2, c3, c4⟩, ew, fb, ck⟩ := b
  have g : Grw Mc Mr φ τ κ Es n m nf ne (wc Mc n x1 x2 x3 x4 x5) (wr Mr m y1 y2 y3 y4 y5 y6) (fu φ n m) (fu τ n T) (fu κ n q) Es (n + 1) (m + 1) nf ne := ⟨⟨by omega, by omega, Nat.le_refl _, Nat.le_refl _⟩, fun j hj => wc_old hj, fun _ _ => by rw [wc_cell (by decide) (by decide)], fun a y b1 b2 hy => wr_old (by omega) (by omega), fun i hi => ⟨fu_ne (by omega), fu_ne (by omega), fu_ne (by omega)⟩, fun _ _ => rfl⟩
  have hn := hn g
  refine ⟨⟨⟨fun a ha => by rw [wc_cell (by omega) (by omega)]; exact s1 a ha, by rw [wc_cell (by decide) (by decide)]; exact s2, fun a ha => by rw [wr_cell (by omega) (by omega)]; exact s3 a ha, fun j hj => by rw [wr_53 (by omega)]; exact s4 j hj⟩, ⟨wc_2, by rw [wc_48 (by decide)]; exact c2, wr_61, by rw [wr_53 (by decide)]; exact c4⟩, EW_fr (wr_cell (by decide) (by omega)) (wr_cell (by decide) (by omega)) (wr_cell (by decide) (by omega)) (fun j _ => ⟨by rw [wr_cell (by decide) (by omega)], by rw [wr_cell (by decide) (by omega)]⟩) ew, fun f v hf hv => by rw [wc_cell (by decide) (by decide)]; exact fb f v hf hv, fun i hi => ?_⟩, g⟩
  by_cases e : i = n
  · subst e
    exact hn
  · exact COK_grow g (by omega) (ck i (by omega))
/-- a cell there alone -/
theorem Bas_one {y1 y2 y3 y4 y5 y6 : Int} (b : Bas M0 R0 N NT G Mc Mr φ τ κ Es n m nf ne) : Bas M0 R0 N NT G Mc (wr Mr m y1 y2 y3 y4 y5 y6) φ τ κ Es n (m + 1) nf ne ∧ Grw Mc Mr φ τ κ Es n m nf ne Mc (wr Mr m y1 y2 y3 y4 y5 y6) φ τ κ Es n (m + 1) nf ne := by
  obtain ⟨⟨s1, s2, s3, s4⟩, ⟨c1, c2, c3, c4⟩, ew, fb, ck⟩ := b
  have g : Grw Mc Mr φ τ κ Es n m nf ne Mc (wr Mr m y1 y2 y3 y4 y5 y6) φ τ κ Es n (m + 1) nf ne := ⟨⟨Nat.le_refl _, by omega, Nat.le_refl _, Nat.le_refl _⟩, fun j hj => rfl, fun _ _ => rfl, fun a y b1 b2 hy => wr_old (by omega) (by omega), fun i hi => ⟨rfl, rfl, rfl⟩, fun _ _ => rfl⟩
  exact ⟨⟨⟨s1, s2, fun a ha => by rw [wr_cell (by omega) (by omega)]; exact s3 a ha, fun j hj => by rw [wr_53 (by omega)]; exact s4 j hj⟩, ⟨c1, c2, wr_61, by rw [wr_53 (by decide)]; exact c4⟩, EW_fr (wr_cell (by decide) (by omega)) (wr_cell (by decide) (by omega)) (wr_cell (by decide) (by omega)) (fun j _ => ⟨by rw [wr_cell (by decide) (by omega)], by rw [wr_cell (by decide) (by omega)]⟩) ew, fb, fun i hi => COK_grow g hi (ck i hi)⟩, g⟩
theorem Grw_trans {M1 M1' M2 M2' : Mm} {φ1 φ2 : Nat → Nat} {τ1 τ2 : Nat → Ty} {κ1 κ2 : Nat → Nat × Nat × Nat} {Es1 Es2 : Nat → Int → Ty} {n1 m1 nf1 ne1 n2 m2 nf2 ne2 : Nat} (a : Grw Mc Mr φ τ κ Es n m nf ne M1 M1' φ1 τ1 κ1 Es1 n1 m1 nf1 ne1) (b : Grw M1 M1' φ1 τ1 κ1 Es1 n1 m1 nf1 ne1 M2 M2' φ2 τ2 κ2 Es2 n2 m2 nf2 ne2) : Grw Mc Mr φ τ κ Es n m nf ne M2 M2' φ2 τ2 κ2 Es2 n2 m2 nf2 ne2 := by
  obtain ⟨a1, a2, a3, a4, a5, a6⟩ := a
  obtain ⟨b1, b2, b3, b4, b5, b6⟩ := b
  refine ⟨by omega, fun j hj => (b2 j (by omega)).trans (a2 j hj), fun j hj => (b3 j (by omega)).trans (a3 j hj), fun c y h1 h2 hy => (b4 c y h1 h2 (by omega)).trans (a4 c y h1 h2 hy), fun i hi => ?_, fun η hη => (b6 η (by omega)).trans (a6 η hη)⟩
  have x := a5 i hi
  have y := b5 i (by omega)
  exact ⟨y.1.trans x.1, y.2.1.trans x.2.1, y.2.2.trans x.2.2⟩
end BASE2
