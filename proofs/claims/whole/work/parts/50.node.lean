/-! The node of a numbered type, whole; bits. -/
theorem nodeFor_ok {Mc Mr : Mm} {S : Nat → Nat → Prop} {n n' : Nat} {cs : List (Nat × Nat)} {t row : Nat} {fill w : Nat → Nat} (h : Tw Mc Mr S n n' cs) (hC : TyC Mc) (hR : TyR Mc Mr) (htc : (t : Int) < Mc 1 3) (hrow : row ≤ 480) (hn : n + 41 < 2504) (hn' : n' + 41 < 4000)
    (hfw : ∀ i, 2 ≤ i → i < 10 → Oc (Mc 2) (Mc 3) t i → Mc 38 (row + (i - 2)) = (fill (i - 2) : Int) ∧ Mr 83 i = (w (i - 2) : Int) ∧ S (fill (i - 2)) (w (i - 2))) :
    ∃ (y v : Nat) (Mc' Mr' : Mm) (S' : Nat → Nat → Prop) (m m' : Nat) (ν : Nat → Nat), f89 Mc (t : Int) (row : Int) = some ((y : Int), Mc') ∧ f223 Mr (t : Int) = some ((v : Int), Mr') ∧ Inc Mc Mr S n n' Mc' Mr' S' m m' cs ∧ S' y v ∧ TNs Mc' (Mc 2) (Mc 3) fill ν t (t + 1) ∧ ν t = y ∧ m ≤ n + 30 ∧ m' ≤ n' + 32 := by
  have h40 := hC.1
  obtain ⟨⟨v1, Mc1⟩, e1, q1, q2⟩ := f90_ok hC htc
  dsimp only at q1 q2
  have hF : TyF Mr (Mc 2) (Mc 3) t := by
    intro j h1 h2
    obtain ⟨a1, a2⟩ := hC.2 j h1 (by omega)
    obtain ⟨b1, b2⟩ := hR.2.2 j h1 (by omega)
    refine ⟨a1, b1, b2.imp (fun q => ⟨q.1, q.2.1⟩) (fun q => ⟨a2.resolve_left q.1, q.2.1, q.2.2⟩)⟩
  have hvar : ∀ i, 2 ≤ i → i < 10 → Mr 54 i = 2 := fun i h1 h2 => by rw [hR.2.1 i h2, if_neg (by omega)]
  have W : wp (f223 Mr (t : Int)) (fun q => ∃ (y v : Nat) (Mc' : Mm) (S' : Nat → Nat → Prop) (m m' : Nat) (ν : Nat → Nat), l89 FU 7 Mc1 (t : Int) (row : Int) 0 = some ((y : Int), Mc') ∧ q.1 = (v : Int) ∧ Inc Mc Mr S n n' Mc' q.2 S' m m' cs ∧ S' y v ∧ TNs Mc' (Mc 2) (Mc 3) fill ν t (t + 1) ∧ ν t = y ∧ m ≤ n + 30 ∧ m' ≤ n' + 32) := by
    refine l223_3 (lf := Mc 2) (rt := Mc 3) (by omega) 30 10 FU Mr (by omega) (by omega) (by omega) hF (fun N hN h9 hk g g1 g2 => ?_) (by unfold FU; omega)
    have hI : Inc Mc Mr S n n' Mc1 N S n n' cs := by
      refine ⟨Tw_same (fun a h1 h2 => q1 a (by omega)) (fun a h1 h2 => hN a (by omega) (by omega)) (by rw [hN 53 (by decide) (by decide)]) h, ⟨fun a ha => q1 a (by omega), fun k _ => by rw [q1 25 (by decide)], fun x _ => by rw [q1 26 (by decide), q1 27 (by decide), q1 28 (by decide)]; exact ⟨rfl, rfl, rfl⟩⟩, ⟨fun a h1 h2 h3 => hN a (by omega) (by omega), fun k _ => by rw [hN 53 (by decide) (by decide)], fun x _ => by rw [hN 76 (by decide) (by decide), hN 77 (by decide) (by decide), hN 78 (by decide) (by decide)]; exact ⟨rfl, rfl, rfl⟩⟩, ⟨Nat.le_refl _, Nat.le_refl _⟩, fun _ _ q => q, fun _ _ q _ => q, fun x h1 h2 => by omega⟩
    obtain ⟨y, v, Mc', Mr', S', m, m', ν, r1, r2, r3, r4, r5, r6, r7, r8⟩ := copy_loop (fill := fill) (w := w) (by omega) hrow (fun i h1 h2 h3 => ⟨(hfw i h1 h2 h3).1, (hfw i h1 h2 h3).2.2⟩) rfl rfl hF hvar (t + 1) 0 FU g Mc1 N S n n' (fun i => i) (fun i => i) (by omega) (by unfold FU; omega) (by unfold FU at g1; omega) (by omega) (by omega) hI q2 hk (fun i h1 h2 h3 => by rw [h9 i h2]; exact (hfw i h1 h2 h3).2.1) (fun i hi => by omega) (fun i hi => by omega)
    exact ⟨_, r2, y, v, Mc', S', m, m', ν, r1, rfl, r3, r4, r5, r6, by omega, by omega⟩
  obtain ⟨⟨v2, Mr'⟩, e2, y, v, Mc', S', m, m', ν, r1, r2, r3, r4, r5, r6, r7, r8⟩ := W
  dsimp only at r2 r3
  subst r2
  refine ⟨y, v, Mc', Mr', S', m, m', ν, ?_, e2, r3, r4, r5, r6, r7, r8⟩
  unfold f89
  rw [e1, bs_]
  exact r1
/-- ors of small ints -/
theorem iz_n (a : Nat) : iz (a : Int) = Int32.ofNat a := Int32.ofInt_eq_ofNat
theorem i32_or (a b : Nat) : Int32.ofNat a ||| Int32.ofNat b = Int32.ofNat (a ||| b) := by
  apply Int32.toBitVec_inj.mp
  rw [Int32.toBitVec_or]
  show BitVec.ofNat 32 a ||| BitVec.ofNat 32 b = BitVec.ofNat 32 (a ||| b)
  apply BitVec.eq_of_getLsbD_eq
  intro i hi
  rw [BitVec.getLsbD_or, BitVec.getLsbD_ofNat, BitVec.getLsbD_ofNat, BitVec.getLsbD_ofNat, Nat.testBit_or]
  simp [hi]
theorem lor_lt {a b k : Nat} (ha : a < 2 ^ k) (hb : b < 2 ^ k) : a ||| b < 2 ^ k := Nat.or_lt_two_pow ha hb
theorem bOr_n {a b : Nat} (ha : a < 2 ^ 31) (hb : b < 2 ^ 31) : bOr (a : Int) (b : Int) = ((a ||| b : Nat) : Int) := by
  have h := lor_lt ha hb
  unfold bOr
  rw [iz_n, iz_n, i32_or, ← iz_n, iz_toInt ⟨by omega, by omega⟩]
def pcn (x : Nat) : Nat := x % 2 + x / 2 % 2 + x / 4 % 2 + x / 8 % 2 + x / 16 % 2 + x / 32 % 2 + x / 64 % 2 + x / 128 % 2
set_option maxRecDepth 100000 in
theorem f88_fin : ∀ x : Fin 256, f88 (fun _ _ => 0) ((x.val : Nat) : Int) = some ((pcn x.val : Nat) : Int) := by decide +kernel
theorem f88_ok {M : Mm} {x : Nat} (hx : x < 256) : f88 M (x : Int) = some ((pcn x : Nat) : Int) := f88_fin ⟨x, hx⟩
