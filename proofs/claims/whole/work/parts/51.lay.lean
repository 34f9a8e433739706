/-! Laying an expression out, here and there. -/
def ExC (M : Mm) : Prop := (0 ≤ M 12 4 ∧ M 12 4 ≤ 200) ∧ ∀ e : Nat, (e : Int) < M 12 4 → (0 ≤ M 13 e ∧ M 13 e ≤ 6) ∧ (1 ≤ M 16 e ∧ M 16 e ≤ 60) ∧ (M 13 e = 1 → 0 ≤ M 14 e ∧ M 14 e < 8) ∧ (M 13 e = 2 → 0 ≤ M 14 e ∧ M 14 e < 10) ∧ (M 13 e = 3 → 0 ≤ M 14 e ∧ M 14 e < (e : Int) ∧ M 16 e = 1 + M 16 (M 14 e).toNat) ∧ (M 13 e = 4 → 0 ≤ M 14 e ∧ M 14 e < (e : Int) ∧ 0 ≤ M 15 e ∧ M 15 e < (e : Int) ∧ M 16 e = 1 + M 16 (M 14 e).toNat + M 16 (M 15 e).toNat) ∧ (M 13 e = 5 → 0 ≤ M 14 e ∧ M 14 e < M 5 6 ∧ 0 ≤ M 15 e ∧ M 15 e < M 7 (M 14 e).toNat) ∧ (M 13 e = 6 → 0 ≤ M 14 e ∧ M 14 e < M 17 4) ∧ (M 13 e ≠ 3 → M 13 e ≠ 4 → M 16 e = 1)
def ExR (Mc Mr : Mm) : Prop := Mr 53 12 = Mc 12 4 ∧ ∀ e : Nat, (e : Int) < Mc 12 4 → Mr 63 e = Mc 13 e ∧ Mr 64 e = Mc 14 e ∧ (Mc 13 e = 4 ∨ Mc 13 e = 5 → Mr 65 e = Mc 15 e) ∧ Mr 66 e = Mc 16 e
/-- what is laid so far: p are done, and from p on trees stand one behind another -/
def arOK (M : Mm) (p0 s : Nat) : Prop := -1 ≤ M 35 s ∧ M 35 s < (p0 : Int) ∧ (M 35 s = -1 ∨ M 13 (M 34 (M 35 s).toNat).toNat = 3)
def cov (M : Mm) (np p0 : Nat) : Nat → List Nat → Prop
  | s, [] => s = np
  | s, e :: L => (M 34 s = (e : Int) ∧ (e : Int) < M 12 4 ∧ arOK M p0 s) ∧ cov M np p0 (s + (M 16 e).toNat) L
def sts (M : Mm) : Nat → List Nat → Nat → Prop
  | _, [], _ => False
  | s, e :: L, c => c = s ∨ sts M (s + (M 16 e).toNat) L c
def LayQ (M : Mm) (np q : Nat) : Prop := ∃ e : Nat, M 34 q = (e : Int) ∧ (e : Int) < M 12 4 ∧ (-1 ≤ M 35 q ∧ M 35 q < (q : Int) ∧ (M 35 q = -1 ∨ M 13 (M 34 (M 35 q).toNat).toNat = 3)) ∧ (M 13 e = 3 → q + 1 < np ∧ M 34 (q + 1) = M 14 e ∧ M 35 (q + 1) = (q : Int)) ∧ (M 13 e = 4 → q + 1 + (M 16 (M 14 e).toNat).toNat < np ∧ M 34 (q + 1) = M 14 e ∧ M 35 (q + 1) = M 35 q ∧ M 34 (q + 1 + (M 16 (M 14 e).toNat).toNat) = M 15 e ∧ M 35 (q + 1 + (M 16 (M 14 e).toNat).toNat) = M 35 q)
/-- the places that a place done speaks of -/
def chQ (M : Mm) (q c : Nat) : Prop := (M 13 (M 34 q).toNat = 3 ∧ c = q + 1) ∨ (M 13 (M 34 q).toNat = 4 ∧ (c = q + 1 ∨ c = q + 1 + (M 16 (M 14 (M 34 q).toNat).toNat).toNat))
theorem cov_le {M : Mm} {np p0 : Nat} : ∀ {L : List Nat} {s : Nat}, cov M np p0 s L → s ≤ np
  | [], s, h => Nat.le_of_eq h
  | e :: L, s, h => Nat.le_trans (Nat.le_add_right _ _) (cov_le h.2)
theorem sts_ge {M : Mm} : ∀ {L : List Nat} {s c : Nat}, sts M s L c → s ≤ c
  | [], s, c, h => h.elim
  | e :: L, s, c, h => h.elim (fun q => by omega) (fun q => Nat.le_trans (Nat.le_add_right _ _) (sts_ge q))
theorem sts_lt {M : Mm} {np p0 : Nat} (h1 : ∀ e : Nat, (e : Int) < M 12 4 → 1 ≤ M 16 e) : ∀ {L : List Nat} {s c : Nat}, cov M np p0 s L → sts M s L c → c < np
  | [], s, c, _, h => h.elim
  | e :: L, s, c, k, h => by
    have := h1 e k.1.2.1
    have := cov_le k.2
    rcases h with h | h
    · omega
    · exact sts_lt h1 k.2 h
/-- tables as they were -/
def tbl (M M' : Mm) : Prop := M' 12 = M 12 ∧ M' 13 = M 13 ∧ M' 14 = M 14 ∧ M' 15 = M 15 ∧ M' 16 = M 16
theorem cov_fr {M M' : Mm} {np p0 p1 : Nat} (ht : tbl M M') (hp : p0 ≤ p1) : ∀ {L : List Nat} {s : Nat}, (∀ x, x < p0 ∨ s ≤ x → M' 34 x = M 34 x ∧ M' 35 x = M 35 x) → cov M np p0 s L → cov M' np p1 s L
  | [], _, _, h => h
  | e :: L, s, hx, h => by
    obtain ⟨⟨a, b, c1, c2, c3⟩, d⟩ := h
    obtain ⟨t1, t2, t3, t4, t5⟩ := ht
    refine ⟨⟨by rw [(hx s (Or.inr (Nat.le_refl _))).1]; exact a, by rw [t1]; exact b, ?_⟩, ?_⟩
    · unfold arOK
      rw [(hx s (Or.inr (Nat.le_refl _))).2, t2]
      refine ⟨c1, by omega, ?_⟩
      by_cases e9 : M 35 s = -1
      · exact Or.inl e9
      · rw [(hx _ (Or.inl (by omega))).1]
        exact Or.inr (c3.resolve_left e9)
    · rw [t5]
      exact cov_fr ⟨t1, t2, t3, t4, t5⟩ hp (fun x hx' => hx x (hx'.imp_right (fun q => by omega))) d
theorem sts_fr {M M' : Mm} (ht : tbl M M') : ∀ {L : List Nat} {s c : Nat}, sts M' s L c ↔ sts M s L c
  | [], _, _ => Iff.rfl
  | e :: L, s, c => by
    show (c = s ∨ sts M' (s + (M' 16 e).toNat) L c) ↔ (c = s ∨ sts M (s + (M 16 e).toNat) L c)
    rw [ht.2.2.2.2, sts_fr ht]
theorem ρn_id (n : Nat) : ρn (fun x => x) n = fun x => x := by
  funext x
  unfold ρn
  split
  · rename_i h; exact h.symm
  · rfl
/-- the reference's nodes while it lays out: all open, ow says whose -/
def Lnd (M : Mm) (n' p : Nat) (ow : Nat → Nat) : Prop := Gr M n' 0 (fun x => x) [] [] ∧ n' ≤ 2 * p ∧ (∀ u, u < n' → M 76 u = 2) ∧ (∀ q, q < p → M 89 q = 0 ∧ ∃ u : Nat, u < n' ∧ M 85 q = (u : Int) ∧ ow u = 2 * q) ∧ (∀ q, q < p → M 63 (M 84 q).toNat = 3 → ∃ u : Nat, u < n' ∧ M 87 q = (u : Int) ∧ ow u = 2 * q + 1)
theorem f69_eq {M : Mm} {e : Nat} (h : e < 200) : f69 M (e : Int) = some (M 13 e) := by unfold f69; rw [if_pos (by omega), Int.toNat_natCast]
theorem f70_eq {M : Mm} {e : Nat} (h : e < 200) : f70 M (e : Int) = some (M 14 e) := by unfold f70; rw [if_pos (by omega), Int.toNat_natCast]
theorem f72_eq {M : Mm} {e : Nat} (h : e < 200) : f72 M (e : Int) = some (M 15 e) := by unfold f72; rw [if_pos (by omega), Int.toNat_natCast]
theorem f67_eq {M : Mm} {e : Nat} (h : e < 200) : f67 M (e : Int) = some (M 16 e) := by unfold f67; rw [if_pos (by omega), Int.toNat_natCast]
theorem f68_eq {M : Mm} {p : Nat} {e a : Int} (h : p < 60) : f68 M (p : Int) e a = some (0, up (up M 34 p e) 35 p a) := by unfold f68; rw [if_pos (by omega), Int.toNat_natCast]
theorem LayQ_fr {M M' : Mm} {np q : Nat} (ht : tbl M M') (hq : ∀ x, x ≤ q ∨ chQ M q x → M' 34 x = M 34 x ∧ M' 35 x = M 35 x) (h : LayQ M np q) : LayQ M' np q ∧ ∀ c, chQ M' q c ↔ chQ M q c := by
  obtain ⟨t1, t2, t3, t4, t5⟩ := ht
  have e0 := hq q (Or.inl (Nat.le_refl _))
  obtain ⟨e, a1, a2, ⟨a3, a4, a5⟩, a6, a7⟩ := h
  have ee : (M 34 q).toNat = e := by rw [a1]; exact Int.toNat_natCast e
  refine ⟨⟨e, by rw [e0.1]; exact a1, by rw [t1]; exact a2, ⟨by rw [e0.2]; exact a3, by rw [e0.2]; exact a4, ?_⟩, fun k => ?_, fun k => ?_⟩, fun c => ?_⟩
  · rw [e0.2]
    by_cases e9 : M 35 q = -1
    · exact Or.inl e9
    · rw [t2, (hq _ (Or.inl (by omega))).1]
      exact Or.inr (a5.resolve_left e9)
  · rw [t2] at k
    obtain ⟨b1, b2, b3⟩ := a6 k
    have c1 := hq (q + 1) (Or.inr (Or.inl ⟨by rw [ee]; exact k, rfl⟩))
    rw [c1.1, c1.2, t3]
    exact ⟨b1, b2, b3⟩
  · rw [t2] at k
    obtain ⟨b1, b2, b3, b4, b5⟩ := a7 k
    have c1 := hq (q + 1) (Or.inr (Or.inr ⟨by rw [ee]; exact k, Or.inl rfl⟩))
    have c2 := hq (q + 1 + (M 16 (M 14 e).toNat).toNat) (Or.inr (Or.inr ⟨by rw [ee]; exact k, Or.inr (by rw [ee])⟩))
    rw [t3, t5, t4, c1.1, c1.2, c2.1, c2.2, e0.2]
    exact ⟨b1, b2, b3, b4, b5⟩
  · unfold chQ
    rw [e0.1, t2, t3, t5]
