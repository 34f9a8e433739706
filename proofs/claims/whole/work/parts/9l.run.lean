/-! Run, to begin with: what the class reads of plans; what a class asks of a closed type. -/
/-- what the class reads of a plan in a frame -/
def av (M : Mm) (x : Int) (f : Nat) : Int := 4 * (x / 16) + (if 4 ≤ x % 16 then M 50 (8 * f + (x % 16 - 4).toNat) else x % 16)
/-- plans are codes -/
theorem plc_dec : ∀ τ : Ty, vl8 τ → 0 ≤ plc τ ∧ plc τ % 16 < 12
  | .nil, _ => by show (0 : Int) ≤ 0 ∧ (0 : Int) % 16 < 12; omega
  | .line, _ => by show (0 : Int) ≤ 1 ∧ (1 : Int) % 16 < 12; omega
  | .append _ _, _ => by show (0 : Int) ≤ 2 ∧ (2 : Int) % 16 < 12; omega
  | .align _, _ => by show (0 : Int) ≤ 2 ∧ (2 : Int) % 16 < 12; omega
  | .text _, _ => by show (0 : Int) ≤ 2 ∧ (2 : Int) % 16 < 12; omega
  | .tag _ _, _ => by show (0 : Int) ≤ 2 ∧ (2 : Int) % 16 < 12; omega
  | .nest v _, h => by
    have h : v < 8 := h
    show 0 ≤ (if v < 0 then (2 : Int) else 4 + v) ∧ (if v < 0 then (2 : Int) else 4 + v) % 16 < 12
    split <;> omega
  | .group a _, h => by
    have := plc_dec a h
    show 0 ≤ 16 + plc a ∧ (16 + plc a) % 16 < 12
    omega
/-- reading a plan is safe, whatever it says -/
theorem act_run {M : Mm} {i f : Nat} {x1 x2 B : Int} (hi : i < 35520) (hx : x1 * 8 + x2 = (i : Int)) (h0 : 0 ≤ M 23 i) (h1 : M 23 i < 4000000) (h2 : M 23 i % 16 < 12) (hf : f < 302) (hB : B ≤ 1000000000) (hfr : ∀ v : Nat, v < 8 → 0 ≤ M 50 (8 * f + v) ∧ M 50 (8 * f + v) ≤ B) (hB2 : 2 ≤ B) : f169_50 M x1 x2 (f : Int) = some (av M (M 23 i) f) ∧ 0 ≤ av M (M 23 i) f ∧ av M (M 23 i) f ≤ M 23 i / 4 + B + 1 := by
  unfold f169_50 av
  rw [hx, Int.toNat_natCast, if_pos (by omega), if_pos (by omega), if_pos (by unfold rg; omega)]
  generalize hz : M 23 i = z at *
  by_cases c : 4 ≤ z % 16
  · obtain ⟨v, hv⟩ : ∃ v : Nat, z % 16 = 4 + (v : Int) := ⟨(z % 16 - 4).toNat, by omega⟩
    have b := hfr v (by omega)
    have e3 : Int.toNat (((f : Int) * 8 + z % 16) - 4) = 8 * f + v := by omega
    have e4 : (z % 16 - 4).toNat = v := by omega
    rw [if_pos c, if_pos c, if_pos (by omega), e3, e4, if_pos (by unfold rg; omega), Int.mul_comm]
    refine ⟨rfl, by omega, by omega⟩
  · rw [if_neg c, if_neg c, if_pos (by unfold rg; omega), Int.mul_comm]
    refine ⟨rfl, by omega, by omega⟩
theorem plc_tm {M : Mm} : ∀ (f t : Nat), vl8 (tmT M f t) → plc (tmT M f t) ≤ 16 * (f : Int) + 12 := by
  intro f
  induction f with
  | zero => intro t _; show (2 : Int) ≤ _; omega
  | succ f ih =>
    intro t h
    unfold tmT at h ⊢
    by_cases z0 : M 73 t = 0
    · rw [if_pos z0]; show (0 : Int) ≤ _; omega
    rw [if_neg z0] at h ⊢
    by_cases z1 : M 73 t = 1
    · rw [if_pos z1]; show (1 : Int) ≤ _; omega
    rw [if_neg z1] at h ⊢
    by_cases z2 : M 73 t = 2
    · rw [if_pos z2] at h ⊢
      have h : M 74 t < 8 := h
      show (if M 74 t < 0 then (2 : Int) else 4 + M 74 t) ≤ _
      split <;> omega
    rw [if_neg z2] at h ⊢
    by_cases z3 : M 73 t = 3
    · rw [if_pos z3] at h ⊢
      have := ih _ (show vl8 (tmT M f (M 74 t).toNat) from h)
      show 16 + plc (tmT M f (M 74 t).toNat) ≤ _
      omega
    rw [if_neg z3] at h ⊢
    by_cases z4 : M 73 t = 4
    · rw [if_pos z4]; show (2 : Int) ≤ _; omega
    rw [if_neg z4]
    show (if (0 : Int) < 0 then (2 : Int) else 4 + 0) ≤ _
    rw [if_neg (by omega)]
    omega
theorem plc_trm {M : Mm} {t : Nat} (h : vl8 (trm M t)) : plc (trm M t) ≤ 16 * (t : Int) + 28 := by
  have := plc_tm (M := M) (t + 1) t h
  show plc (tmT M (t + 1) t) ≤ _
  omega
def pln (T : Ty) : Prop := T = .nil ∨ T = .line ∨ ∃ a w, T = .group a w
theorem Rc_Q {M : Mm} {N : Nat} {Q : Nat → Prop} (cw : CW M N) (st : ∀ x u : Nat, x < N → M 6 x = (u : Int) → Q x → Q u) {c d : Nat} (hc : c < N) (r : Rc M (c : Int) (d : Int)) (q : Q c) : d < N ∧ Q d := by
  have k := r (fun x => x < (N : Int) ∧ (0 ≤ x → Q x.toNat)) ⟨by omega, fun _ => by rw [Int.toNat_natCast]; exact q⟩ (fun x hx => by
    have xN : x < N := by omega
    rcases cw.2.2.1 x xN with z | z
    · exact ⟨by omega, fun z2 => by omega⟩
    · obtain ⟨u, hu⟩ : ∃ u : Nat, M 6 x = (u : Int) := ⟨(M 6 x).toNat, by omega⟩
      refine ⟨by omega, fun _ => ?_⟩
      rw [hu, Int.toNat_natCast]
      have := hx.2 (by omega)
      rw [Int.toNat_natCast] at this
      exact st x u xN hu this)
  have k2 := k.2 (by omega)
  rw [Int.toNat_natCast] at k2
  exact ⟨by omega, k2⟩
/-- a closed type is in c, and z is what the class keeps of it, as far as c asks -/
def cf (M : Mm) : Ty → Nat → Int → Prop
  | .nil, c, z => M 9 (3 * c) = 1 ∧ z = 0
  | .line, c, z => M 9 (3 * c + 1) = 1 ∧ z = 1
  | .group a _, c, z => M 9 (3 * c + 2) = 1 ∧ 4 ≤ z ∧ (M 10 (3 * c + 2) = -1 ∨ cf M a (M 10 (3 * c + 2)).toNat (z - 4))
  | _, _, _ => False
theorem cf_up {M : Mm} {N : Nat} (cw : CW M N) (sup : SUP M N) : ∀ (T : Ty) (c d : Nat) (z : Int), c < N → Rc M (c : Int) (d : Int) → cf M T c z → cf M T d z
  | .nil, _, _, z, hc, r, q => (Rc_Q (Q := fun x => M 9 (3 * x) = 1 ∧ z = 0) cw (fun x u hx hu k => ⟨(sup x 0 u hx (by omega) hu k.1).1, k.2⟩) hc r q).2
  | .line, _, _, z, hc, r, q => (Rc_Q (Q := fun x => M 9 (3 * x + 1) = 1 ∧ z = 1) cw (fun x u hx hu k => ⟨(sup x 1 u hx (by omega) hu k.1).1, k.2⟩) hc r q).2
  | .group a w, _, _, z, hc, r, q => (Rc_Q (Q := fun x => cf M (.group a w) x z) cw (fun x u hx hu k => by
      have k : M 9 (3 * x + 2) = 1 ∧ 4 ≤ z ∧ (M 10 (3 * x + 2) = -1 ∨ cf M a (M 10 (3 * x + 2)).toNat (z - 4)) := k
      show M 9 (3 * u + 2) = 1 ∧ 4 ≤ z ∧ (M 10 (3 * u + 2) = -1 ∨ cf M a (M 10 (3 * u + 2)).toNat (z - 4))
      obtain ⟨s1, s2⟩ := sup x 2 u hx (by omega) hu k.1
      refine ⟨s1, k.2.1, ?_⟩
      rcases s2 with s2 | ⟨y, y2, s3, s4, s5⟩
      · exact Or.inl s2
      · refine Or.inr ?_
        rw [s4, Int.toNat_natCast]
        have k2 := k.2.2
        rw [s3, Int.toNat_natCast] at k2
        have hy : y < N := by
          have := (cw.2.2.2 (3 * x + 2) (by have := cw.2.1; omega) k.1).2
          omega
        exact cf_up cw sup a y y2 (z - 4) hy s5 (k2.resolve_left (by omega))) hc r q).2
  | .nest _ _, _, _, _, _, _, q => False.elim q
  | .append _ _, _, _, _, _, _, q => False.elim q
  | .align _, _, _, _, _, _, q => False.elim q
  | .text _, _, _, _, _, _, q => False.elim q
  | .tag _ _, _, _, _, _, _, q => False.elim q
theorem cf_sub {M Mf : Mm} {N f : Nat} {A : Nat → Int → Prop} {σ : Int → Ty} (cw : CW M N) (sup : SUP M N) (hp : ∀ v : Nat, v < 8 → 0 ≤ Mf 50 (8 * f + v)) (hA : ∀ c v, A c v → c < N ∧ ∃ w : Nat, w < 8 ∧ v = (w : Int) ∧ cf M (σ v) c (Mf 50 (8 * f + w))) : ∀ (T : Ty) (c : Nat), vl8 T → con M A T c → cf M (sub σ T) c (av Mf (plc T) f)
  | .nil, _, _, q => ⟨q, rfl⟩
  | .line, _, _, q => ⟨q, rfl⟩
  | .group a w, c, h8, q => by
    have d := plc_dec a h8
    have e : av Mf (plc (.group a w)) f = 4 + av Mf (plc a) f := by
      show 4 * ((16 + plc a) / 16) + (if 4 ≤ (16 + plc a) % 16 then Mf 50 (8 * f + ((16 + plc a) % 16 - 4).toNat) else (16 + plc a) % 16) = 4 + av Mf (plc a) f
      unfold av
      rw [show (16 + plc a) / 16 = 1 + plc a / 16 by omega, show (16 + plc a) % 16 = plc a % 16 by omega]
      omega
    have nn : 0 ≤ av Mf (plc a) f := by
      unfold av
      split
      · have := hp (plc a % 16 - 4).toNat (by omega)
        omega
      · omega
    rw [e]
    refine ⟨q.1, by omega, q.2.imp id (fun k => ?_)⟩
    rw [show 4 + av Mf (plc a) f - 4 = av Mf (plc a) f by omega]
    exact cf_sub cw sup hp hA a _ h8 k
  | .nest v w, c, h8, ⟨c', q1, q2⟩ => by
    obtain ⟨h1, k, h2, h3, h4⟩ := hA c' v q1
    subst h3
    have e : av Mf (plc (.nest (k : Int) w)) f = Mf 50 (8 * f + k) := by
      show 4 * ((if (k : Int) < 0 then (2 : Int) else 4 + (k : Int)) / 16) + (if 4 ≤ (if (k : Int) < 0 then (2 : Int) else 4 + (k : Int)) % 16 then Mf 50 (8 * f + ((if (k : Int) < 0 then (2 : Int) else 4 + (k : Int)) % 16 - 4).toNat) else (if (k : Int) < 0 then (2 : Int) else 4 + (k : Int)) % 16) = _
      rw [if_neg (show ¬ (k : Int) < 0 by omega), show (4 + (k : Int)) / 16 = 0 by omega, show (4 + (k : Int)) % 16 = 4 + (k : Int) by omega, if_pos (by omega), show (4 + (k : Int) - 4).toNat = k by omega]
      omega
    rw [e]
    exact cf_up cw sup (σ (k : Int)) c' c _ h1 q2 h4
  | .append _ _, _, _, q => False.elim q
  | .align _, _, _, q => False.elim q
  | .text _, _, _, q => False.elim q
  | .tag _ _, _, _, q => False.elim q
theorem cf_pln {M : Mm} : ∀ {T : Ty} {c : Nat} {z : Int}, cf M T c z → pln T
  | .nil, _, _, _ => Or.inl rfl
  | .line, _, _, _ => Or.inr (Or.inl rfl)
  | .group a w, _, _, _ => Or.inr (Or.inr ⟨a, w, rfl⟩)
  | .nest _ _, _, _, q => False.elim q
  | .append _ _, _, _, q => False.elim q
  | .align _, _, _, q => False.elim q
  | .text _, _, _, q => False.elim q
  | .tag _ _, _, _, q => False.elim q
