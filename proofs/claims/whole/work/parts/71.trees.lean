/-! Types as trees: INT, BOOL, variables by number, lists, functions. They ride on a type of Lean's own. -/
abbrev Ty := Std.Format
def tI : Ty := .nil
def tB : Ty := .line
def tV (v : Int) : Ty := .nest v .nil
def tL (a : Ty) : Ty := .group a .allOrNone
def tF (a b : Ty) : Ty := .append a b
def tX : Ty := .align false
def tn (M : Mm) (ρ : Nat → Nat) : Nat → Nat → Ty
  | 0, _ => tX
  | f + 1, x => if M 26 (ρ x) = 0 then tI else if M 26 (ρ x) = 1 then tB else if M 26 (ρ x) = 2 then tV (lb M (ρ x)) else if M 26 (ρ x) = 3 then tL (tn M ρ f (M 27 (ρ x)).toNat) else if M 26 (ρ x) = 4 then tF (tn M ρ f (M 27 (ρ x)).toNat) (tn M ρ f (M 28 (ρ x)).toNat) else tV 0
/-- T says what each node is -/
def TyG (M : Mm) (n : Nat) (ρ : Nat → Nat) (T : Nat → Ty) : Prop :=
  (∀ x y, ρ x = ρ y → T x = T y) ∧ ∀ x, x < n → (M 26 (ρ x) = 0 → T x = tI) ∧ (M 26 (ρ x) = 1 → T x = tB) ∧ (M 26 (ρ x) = 2 → T x = tV (lb M (ρ x))) ∧ (M 26 (ρ x) = 3 → T x = tL (T (M 27 (ρ x)).toNat)) ∧ (M 26 (ρ x) = 4 → T x = tF (T (M 27 (ρ x)).toNat) (T (M 28 (ρ x)).toNat)) ∧ (M 26 (ρ x) = 5 → T x = tV 0)
theorem tn_st {M : Mm} {n : Nat} {ρ r : Nat → Nat} (F : Fg M n ρ) (hr : ∀ x m, x < n → ρ x = x → mu M ρ x m ≠ 0 → r m < r x) : ∀ (f g x : Nat), x < n → r (ρ x) < f → r (ρ x) < g → tn M ρ f x = tn M ρ g x := by
  intro f
  induction f with
  | zero => intro g x hx h1 h2; omega
  | succ f ih =>
    intro g x hx h1 h2
    obtain ⟨g, rfl⟩ : ∃ g', g = g' + 1 := ⟨g - 1, by omega⟩
    have rx := F.2.2 x hx
    have gw := F.1.2.2.2 (ρ x) rx.1
    unfold tn
    have A : (3 ≤ M 26 (ρ x) ∧ M 26 (ρ x) ≤ 4) → tn M ρ f (M 27 (ρ x)).toNat = tn M ρ g (M 27 (ρ x)).toNat := fun k => by
      have := gw.2.1 k
      have := hr (ρ x) (ρ (M 27 (ρ x)).toNat) rx.1 rx.2 (mu_iff.mpr (Or.inl ⟨k, rfl⟩))
      exact ih g _ (by omega) (by omega) (by omega)
    have B : M 26 (ρ x) = 4 → tn M ρ f (M 28 (ρ x)).toNat = tn M ρ g (M 28 (ρ x)).toNat := fun k => by
      have := gw.2.2.2.1 k
      have := hr (ρ x) (ρ (M 28 (ρ x)).toNat) rx.1 rx.2 (mu_iff.mpr (Or.inr ⟨k, rfl⟩))
      exact ih g _ (by omega) (by omega) (by omega)
    by_cases k3 : M 26 (ρ x) = 3
    · rw [if_neg (by omega), if_neg (by omega), if_neg (by omega), if_pos k3, if_neg (by omega), if_neg (by omega), if_neg (by omega), if_pos k3, A (by omega)]
    · by_cases k4 : M 26 (ρ x) = 4
      · rw [if_neg (by omega), if_neg (by omega), if_neg (by omega), if_neg k3, if_pos k4, if_neg (by omega), if_neg (by omega), if_neg (by omega), if_neg k3, if_pos k4, A (by omega), B k4]
      · rw [if_neg k3, if_neg k4, if_neg k3, if_neg k4]
theorem TyG_of {M : Mm} {n : Nat} {ρ : Nat → Nat} (F : Fg M n ρ) (A : Acy M ρ n) : ∃ T, TyG M n ρ T := by
  obtain ⟨r, hb, hr⟩ := A
  refine ⟨tn M ρ (n + 2), fun x y e => ?_, fun x hx => ?_⟩
  · unfold tn; rw [e]
  · have rx := F.2.2 x hx
    have gw := F.1.2.2.2 (ρ x) rx.1
    have st : ∀ y, y < n → tn M ρ (n + 1) y = tn M ρ (n + 2) y := fun y hy => tn_st F hr (n + 1) (n + 2) y hy (by have := hb (ρ y); omega) (by have := hb (ρ y); omega)
    refine ⟨fun k => ?_, fun k => ?_, fun k => ?_, fun k => ?_, fun k => ?_, fun k => ?_⟩
    · unfold tn; rw [if_pos k]
    · unfold tn; rw [if_neg (by omega), if_pos k]
    · unfold tn; rw [if_neg (by omega), if_neg (by omega), if_pos k]
    · have := gw.2.1 (by omega)
      rw [← st _ (show (M 27 (ρ x)).toNat < n by omega)]
      conv => lhs; unfold tn
      rw [if_neg (by omega), if_neg (by omega), if_neg (by omega), if_pos k]
    · have := gw.2.1 (by omega)
      have := gw.2.2.2.1 k
      rw [← st _ (show (M 27 (ρ x)).toNat < n by omega), ← st _ (show (M 28 (ρ x)).toNat < n by omega)]
      conv => lhs; unfold tn
      rw [if_neg (by omega), if_neg (by omega), if_neg (by omega), if_neg (by omega), if_pos k]
    · unfold tn; rw [if_neg (by omega), if_neg (by omega), if_neg (by omega), if_neg (by omega), if_neg (by omega)]
theorem TyG_fr {M M' : Mm} {n : Nat} {ρ : Nat → Nat} {T : Nat → Ty} (e : M' 26 = M 26 ∧ M' 27 = M 27 ∧ M' 28 = M 28 ∧ M' 31 = M 31) (h : TyG M n ρ T) : TyG M' n ρ T := by
  unfold TyG lb
  rw [e.1, e.2.1, e.2.2.1, e.2.2.2]
  exact h
/-- the classes and their instances, here and there -/
def CT (Mc Mr : Mm) (N : Nat) : Prop :=
  (Mc 5 6 = (N : Int) ∧ Mr 53 5 = (N : Int) ∧ N ≤ 6) ∧ (∀ c, c < N → Mr 57 c = Mc 6 c ∧ Mr 58 c = Mc 7 c ∧ (Mc 6 c = -1 ∨ (0 ≤ Mc 6 c ∧ Mc 6 c < (c : Int)))) ∧
  ∀ i, i < 18 → Mr 60 i = Mc 9 i ∧ ((Mc 9 i = 0 ∧ Mc 10 i = -1) ∨ (Mc 9 i = 1 ∧ i < 3 * N ∧ Mr 61 i = Mc 10 i ∧ (Mc 10 i = -1 ∨ (0 ≤ Mc 10 i ∧ Mc 10 i < (N : Int) ∧ i % 3 = 2))))
theorem CT_fr {Mc Mr Nc Nr : Mm} {N : Nat} (h1 : ∀ a, a < 24 → Nc a = Mc a) (h2 : ∀ a, 54 ≤ a → a ≤ 75 → Nr a = Mr a) (h3 : ∀ k, k < 28 → Nr 53 k = Mr 53 k) (h : CT Mc Mr N) : CT Nc Nr N := by
  unfold CT
  rw [h1 5 (by omega), h1 6 (by omega), h1 7 (by omega), h1 9 (by omega), h1 10 (by omega), h2 57 (by omega) (by omega), h2 58 (by omega) (by omega), h2 60 (by omega) (by omega), h2 61 (by omega) (by omega), h3 5 (by omega)]
  exact h
/-- what is in c is thereby in d -/
def Rc (M : Mm) (c d : Int) : Prop := ∀ P : Int → Prop, P c → (∀ x : Nat, P (x : Int) → P (M 6 x)) → P d
theorem Rc_refl (M : Mm) (c : Int) : Rc M c c := fun _ h _ => h
theorem Rc_trans {M : Mm} {c d e : Int} (h : Rc M c d) (k : Rc M d e) : Rc M c e := fun P h1 h2 => k P (h P h1 h2) h2
theorem Rc_up {M : Mm} {c : Nat} {d : Int} (h : Rc M (M 6 c) d) : Rc M (c : Int) d := fun P h1 h2 => h P (h2 c h1) h2
theorem reach_ok {Mc Mr : Mm} {N : Nat} (h : CT Mc Mr N) {d : Nat} {x1 y1 : Int} : ∀ (b f g : Nat) (c u : Int), 0 ≤ u → c + u ≤ 5 → -1 ≤ c → c < (N : Int) → c < (b : Int) → b < f → b < g → ∃ v : Int, l60 f 5 Mc x1 (d : Int) c u = some v ∧ l229 g 2 Mr y1 (d : Int) c = some v ∧ (v = 0 ∨ (v = 1 ∧ Rc Mc c (d : Int) ∧ (d : Int) ≤ c)) := by
  intro b
  have e0 : ∀ (f : Nat) (u : Int), l60 (f + 1) 5 Mc x1 (d : Int) (-1) u = some 0 := fun f u => by
    rw [l60]
    by_cases q : 6 ≤ u
    · rw [if_pos q, if_pos (show ¬ (-1 : Int) = (d : Int) by omega)]
    · rw [if_neg q, if_pos rfl, if_pos (show ¬ (-1 : Int) = (d : Int) by omega)]
  induction b with
  | zero =>
    intro f g c u hu1 hu2 h1 h2 h3 hf hg
    obtain ⟨f, rfl⟩ : ∃ f', f = f' + 1 := ⟨f - 1, by omega⟩
    obtain ⟨g, rfl⟩ : ∃ f', g = f' + 1 := ⟨g - 1, by omega⟩
    obtain rfl : c = -1 := by omega
    exact ⟨0, e0 f u, by rw [l229, if_pos rfl, if_pos (by omega)], Or.inl rfl⟩
  | succ b ih =>
    intro f g c u hu1 hu2 h1 h2 h3 hf hg
    obtain ⟨f, rfl⟩ : ∃ f', f = f' + 1 := ⟨f - 1, by omega⟩
    obtain ⟨g, rfl⟩ : ∃ f', g = f' + 1 := ⟨g - 1, by omega⟩
    by_cases e : c = -1
    · subst e
      exact ⟨0, e0 f u, by rw [l229, if_pos rfl, if_pos (by omega)], Or.inl rfl⟩
    · by_cases e2 : c = (d : Int)
      · subst e2
        exact ⟨1, by rw [l60, if_neg (show ¬ 6 ≤ u by omega), if_neg e, if_pos rfl, if_neg (fun z => z rfl)], by rw [l229, if_neg e, if_pos rfl, if_neg (fun z => z rfl)], Or.inr ⟨rfl, Rc_refl _ _, Int.le_refl _⟩⟩
      · obtain ⟨c, rfl⟩ : ∃ c' : Nat, c = (c' : Int) := ⟨c.toNat, by omega⟩
        have hN := h.1.2.2
        obtain ⟨q1, -, q2⟩ := h.2.1 c (by omega)
        obtain ⟨v, r1, r2, r3⟩ := ih f g (Mc 6 c) (u + 1) (by omega) (by omega) (by omega) (by omega) (by omega) (by omega) (by omega)
        refine ⟨v, by rw [l60, if_neg (show ¬ 6 ≤ u by omega), if_neg e, if_neg e2, if_pos (by omega), Int.toNat_natCast, if_pos (show rg (u + 1) by omega)]; exact r1, by rw [l229, if_neg e, if_neg e2, if_pos (by omega), Int.toNat_natCast, q1]; exact r2, ?_⟩
        rcases r3 with z | ⟨z1, z2, z3⟩
        · exact Or.inl z
        · exact Or.inr ⟨z1, Rc_up z2, by omega⟩
theorem f60_ok {Mc Mr : Mm} {N d : Nat} {c : Int} (h : CT Mc Mr N) (h1 : -1 ≤ c) (h2 : c < (N : Int)) : ∃ v : Int, f60 Mc c (d : Int) = some v ∧ f229 Mr c (d : Int) = some v ∧ (v = 0 ∨ (v = 1 ∧ Rc Mc c (d : Int) ∧ (d : Int) ≤ c)) :=
  reach_ok h 7 FU FU c 0 (by omega) (by have := h.1.2.2; omega) h1 h2 (by have := h.1.2.2; omega) (by unfold FU; omega) (by unfold FU; omega)
/-- under the assumptions A, what T stands for is in c -/
def con (M : Mm) (A : Nat → Int → Prop) : Ty → Nat → Prop
  | .nil, c => M 9 (3 * c) = 1
  | .line, c => M 9 (3 * c + 1) = 1
  | .group a _, c => M 9 (3 * c + 2) = 1 ∧ (M 10 (3 * c + 2) = -1 ∨ con M A a (M 10 (3 * c + 2)).toNat)
  | .nest v _, c => ∃ c' : Nat, A c' v ∧ Rc M (c' : Int) (c : Int)
  | _, _ => False
theorem con_mono {M : Mm} {A B : Nat → Int → Prop} (h : ∀ c v, A c v → B c v) : ∀ (T : Ty) (c : Nat), con M A T c → con M B T c
  | .nil, _, q => q
  | .line, _, q => q
  | .group a _, _, q => ⟨q.1, q.2.imp id (con_mono h a _)⟩
  | .nest _ _, _, ⟨c', q1, q2⟩ => ⟨c', h _ _ q1, q2⟩
  | .align _, _, q => q
  | .text _, _, q => q
  | .append _ _, _, q => q
  | .tag _ _, _, q => q
theorem con_fr {M M' : Mm} {A : Nat → Int → Prop} (e6 : M' 6 = M 6) (e9 : M' 9 = M 9) (e10 : M' 10 = M 10) : ∀ (T : Ty) (c : Nat), con M A T c → con M' A T c
  | .nil, _, q => by unfold con at q ⊢; rw [e9]; exact q
  | .line, _, q => by unfold con at q ⊢; rw [e9]; exact q
  | .group a _, _, q => by unfold con at q ⊢; rw [e9, e10]; exact ⟨q.1, q.2.imp id (con_fr e6 e9 e10 a _)⟩
  | .nest _ _, _, ⟨c', q1, q2⟩ => ⟨c', q1, by unfold Rc at q2 ⊢; rw [e6]; exact q2⟩
  | .align _, _, q => q
  | .text _, _, q => q
  | .append _ _, _, q => q
  | .tag _ _, _, q => q
/-- bits -/
theorem bit_or : ∀ (a : Fin 64) (c : Fin 6), bOr ((a.val : Nat) : Int) (bShl 1 ((c.val : Nat) : Int)) = ((a.val ||| 1 <<< c.val : Nat) : Int) := by decide +kernel
theorem bit_or2 : ∀ (a : Fin 64) (c : Fin 6), a.val ||| 1 <<< c.val < 64 ∧ ∀ d : Fin 6, Nat.testBit (a.val ||| 1 <<< c.val) d.val = (Nat.testBit a.val d.val || decide (d.val = c.val)) := by decide +kernel
theorem bit_at : ∀ (a : Fin 64) (c : Fin 6), bAnd (bShr ((a.val : Nat) : Int) ((c.val : Nat) : Int)) 1 = if Nat.testBit a.val c.val then 1 else 0 := by decide +kernel
theorem flag_or : ∀ a b : Fin 2, bOr ((a.val : Nat) : Int) ((b.val : Nat) : Int) = if a.val = 1 ∨ b.val = 1 then 1 else 0 := by decide +kernel
theorem fl0 {a : Int} (h : a = 0 ∨ a = 1) : bOr a 0 = a := by
  rcases h with rfl | rfl
  · exact flag_or 0 0
  · exact flag_or 1 0
theorem fl1 {a : Int} (h : a = 0 ∨ a = 1) : bOr a 1 = 1 := by
  rcases h with rfl | rfl
  · exact flag_or 0 1
  · exact flag_or 1 1
