/-! The type at a place: numbers, primitives, locals, lambdas, applications. -/
def CFr (M M' : Mm) : Prop := (∀ a, a < 25 ∨ (34 ≤ a ∧ a ≤ 36) ∨ 42 ≤ a → M' a = M a) ∧ ∀ k, k ≠ 8 → M' 25 k = M 25 k
def RFr (M M' : Mm) : Prop := (∀ a, a ≠ 53 → ¬ (76 ≤ a ∧ a ≤ 83) → ¬ (88 ≤ a ∧ a ≤ 91) → M' a = M a) ∧ ∀ k, k ≠ 28 → k ≠ 43 → M' 53 k = M 53 k
/-- not too many nodes, if it fails -/
def Nf (M : Mm) : Prop := 0 ≤ M 53 28 ∧ M 53 28 ≤ 2700
theorem Tw_28 {Mc Mr : Mm} {S : Nat → Nat → Prop} {n n' : Nat} {cs : List (Nat × Nat)} (h : Tw Mc Mr S n n' cs) : Mr 53 28 = (n' : Int) := by
  obtain ⟨_, J, ρ, J', ρ', cs', g, g', _⟩ := h
  exact g'.1.1
theorem PS_28 {Mc Mr : Mm} {S : Nat → Nat → Prop} {n n' p np : Nat} {cs : List (Nat × Nat)} {ow : Nat → Nat} (h : PS Mc Mr S n n' cs p np ow) : n' ≤ 120 + 40 * p ∧ np ≤ 60 := ⟨h.2.2.2.2.2.2.2.2.1, h.2.2.1.1.2⟩
def Nxt (Mc Mr : Mm) (b : Int) (Mc' Mr' : Mm) (p np : Nat) (ow : Nat → Nat) : Prop := CFr Mc Mc' ∧ RFr Mr Mr' ∧ ((b = 0 ∧ Nf Mr') ∨ (b = 1 ∧ ∃ S' m m' cs', PS Mc' Mr' S' m m' cs' (p + 1) np ow))
theorem PS_simple {Mc Mr C1 R1 : Mm} {S S1 : Nat → Nat → Prop} {n n' m m' p np x y u v : Nat} {cs : List (Nat × Nat)} {ow : Nat → Nat} (h : PS Mc Mr S n n' cs p np ow) (hp : p < np) (k3 : Mc 13 (eAt Mc p) ≠ 3) (k5 : Mc 13 (eAt Mc p) ≠ 5) (k6 : Mc 13 (eAt Mc p) ≠ 6) (hI : Inc Mc Mr S n n' C1 R1 S1 m m' cs) (bm : m ≤ n + 39 ∧ m' ≤ n' + 40) (q1 : S1 x u) (q2 : S1 y v) (pl : ∀ C2, frj C1 C2 m → PlQ C2 ((x, y) :: cs) p) :
    ∃ (b : Int) (C2 R2 : Mm), f79 C1 (x : Int) (y : Int) = some (b, C2) ∧ f216 R1 (u : Int) (v : Int) = some (b, R2) ∧ Nxt Mc Mr b C2 R2 p np ow := by
  obtain ⟨tw, cg, rg', mn, sl, sf, k5i⟩ := hI
  obtain ⟨b, C2, R2, e1, e2, F, F', w⟩ := Tw_join tw q1 q2
  have cg2 := Cg_trans cg (Cg_j F) mn.1
  have rg2 := Rg_trans rg' (Rg_j F') mn.2
  refine ⟨b, C2, R2, e1, e2, ⟨fun a ha => cg2.1 a (by omega), cg2.2.1⟩, ⟨fun a h1 h2 h3 => rg2.1 a h1 (by omega) (by omega), fun k h1 _ => rg2.2.1 k h1⟩, ?_⟩
  rcases w with ⟨rfl, w⟩ | w
  · refine Or.inr ⟨rfl, S1, m, m', (x, y) :: cs, ?_⟩
    obtain ⟨-, -, -, -, fl, wt, -⟩ := id h
    have z := (fl p hp).2 (Nat.le_refl _)
    have cn : cnQ Mc p = 0 := by unfold cnQ; rw [if_neg k5, if_neg k6]
    have c39 := cg2.1 39 (by omega)
    have c38 := cg2.1 38 (by omega)
    have r88 := rg2.1 88 (by omega) (by omega) (by omega)
    have r89 := rg2.1 89 (by omega) (by omega) (by omega)
    have r90 := rg2.1 90 (by omega) (by omega) (by omega)
    have r91 := rg2.1 91 (by omega) (by omega) (by omega)
    refine PS_next h hp w (fun z hz => List.mem_cons_of_mem _ hz) cg2.2.2 (fun u hu => (rg2.2.2 u hu).1) (fun a ha => cg2.1 a (by omega)) ⟨cg2.1 34 (by omega), cg2.1 35 (by omega), cg2.1 36 (by omega)⟩ (fun a h1 h2 => rg2.1 a (by omega) (by omega) (by omega)) ⟨rg2.1 84 (by omega) (by omega) (by omega), rg2.1 85 (by omega) (by omega) (by omega), rg2.1 86 (by omega) (by omega) (by omega), rg2.1 87 (by omega) (by omega) (by omega)⟩ (fun k h1 _ => rg2.2.1 k h1) (fun q _ => by rw [cg2.1 37 (by omega)]) (fun k => absurd k k3) sl (fun d u q hu => Or.inl (sf d u q hu)) (fun q _ => by rw [c39, r89]; exact ⟨rfl, rfl⟩) (fun q v _ _ => by rw [c38, r88]; exact ⟨rfl, rfl⟩) ⟨0, by omega, by rw [c39]; exact z.1, by rw [r89]; exact z.2, ⟨fun z => absurd z k5, fun z => absurd z k6⟩, fun v hv => by omega⟩ ?_ (fun i _ => by rw [r90, r91]; exact ⟨rfl, rfl⟩) (fun k => absurd k k5) (fun k => absurd k k6) (pl C2 F) (by omega) (fun x h1 h2 => by rw [((Cg_j F).2.2 x h2).1]; exact k5i x h1 h2)
    rw [rg2.2.1 43 (by decide)]
    show Mr 53 43 = ((wsQ Mc p + cnQ Mc p : Nat) : Int)
    rw [cn]
    exact wt.1
  · refine Or.inl ⟨w, ?_⟩
    have z := Tw_28 tw
    have y := PS_28 h
    unfold Nf
    rw [F'.1 53 (by decide) (by decide)]
    omega
theorem f77_eq {Mc Mr : Mm} {np p : Nat} (ly : LayP Mc Mr np) (hE : ExC Mc) (hp : p < np) : f77 Mc (p : Int) = some (Mc 14 (eAt Mc p)) ∧ f78 Mc (p : Int) = some (Mc 13 (eAt Mc p)) := by
  obtain ⟨e1, e2⟩ := LayP_e ly hp
  have := ly.1
  have h2 := hE.1
  unfold f77 f78
  rw [if_pos (by omega), if_pos (by omega), Int.toNat_natCast, e1, f70_eq (by omega), f69_eq (by omega)]
  exact ⟨rfl, rfl⟩
/-- an answer is a truth value -/
theorem ans01 {b : Int} {M : Mm} (h : b = 0 ∨ b = 1) : (if b = 0 ∨ b = 1 then some (b, M) else none) = some (b, M) := if_pos h
theorem Nxt_01 {Mc Mr Mc' Mr' : Mm} {b : Int} {p np : Nat} {ow : Nat → Nat} (h : Nxt Mc Mr b Mc' Mr' p np ow) : b = 0 ∨ b = 1 := h.2.2.imp (fun q => q.1) (fun q => q.1)
theorem PlQ_one {M : Mm} {cs : List (Nat × Nat)} {q : Nat} {k : Int} (hk : M 13 (eAt M q) = k) (h0 : k = 0 → (2 + q, 0) ∈ cs) (h1 : k = 1 → ∃ y, (2 + q, y) ∈ cs ∧ PN M (M 14 (eAt M q)).toNat y) (h2 : k = 2 → ∃ l c : Nat, arn M (M 14 (eAt M q)).toNat (M 35 q) = (l : Int) ∧ M 37 l = (c : Int) ∧ (2 + q, c) ∈ cs) (h3 : k = 3 → ∃ y c : Nat, M 37 q = (c : Int) ∧ (2 + q, y) ∈ cs ∧ isF M y c (2 + (q + 1))) (h4 : k = 4 → ∃ y : Nat, (2 + (q + 1), y) ∈ cs ∧ isF M y (2 + (q + 1 + (M 16 (M 14 (eAt M q)).toNat).toNat)) (2 + q)) (h56 : k ≠ 5 ∧ k ≠ 6) : PlQ M cs q := by
  subst hk
  exact ⟨h0, h1, h2, h3, h4, fun k => absurd k h56.1, fun k => absurd k h56.2⟩
section STEP
variable {Mc Mr : Mm} {S : Nat → Nat → Prop} {n n' p np : Nat} {cs : List (Nat × Nat)} {ow : Nat → Nat}
theorem step_0 (h : PS Mc Mr S n n' cs p np ow) (hp : p < np) (k : Mc 13 (eAt Mc p) = 0) : ∃ (b : Int) (Mc' Mr' : Mm), f76 Mc (p : Int) = some (b, Mc') ∧ f215 Mr (p : Int) = some (b, Mr') ∧ Nxt Mc Mr b Mc' Mr' p np ow := by
  obtain ⟨tw, st, ly, nd, fl, wt, plq, b1, b2, k5z⟩ := id h
  have np60 := ly.1
  obtain ⟨⟨d1, u, d2, d3⟩, -⟩ := nd p hp
  obtain ⟨e77, e78⟩ := f77_eq ly st.2.2.2.1 hp
  obtain ⟨e1, e2⟩ := LayP_e ly hp
  have r84 : Mr 84 p = (eAt Mc p : Int) := by rw [(ly.2.2.2.2 p hp).1]; exact e1
  have r63 : Mr 63 (eAt Mc p) = 0 := by rw [(st.2.2.2.2.1.2 _ e2).1]; exact k
  have hne := st.2.2.2.1.1
  obtain ⟨R1, g1, hI⟩ := Inc_int (k := 0) (Inc_refl tw) (by omega) (by omega)
  have g1 : f214 Mr 0 0 0 = some ((n' : Int), R1) := g1
  obtain ⟨b, C2, R2, z1, z2, z3⟩ := PS_simple (x := 2 + p) (y := 0) (u := u) (v := n') h hp (by omega) (by omega) (by omega) hI (by omega) (adS_l d3) adS_r (fun C2 F => by
    have cg := Cg_j F
    have ee : eAt C2 p = eAt Mc p := by unfold eAt; rw [cg.1 34 (by omega)]
    exact PlQ_one (k := 0) (by rw [ee, cg.1 13 (by omega)]; exact k) (fun _ => List.mem_cons_self) (fun q => by omega) (fun q => by omega) (fun q => by omega) (fun q => by omega) (by omega))
  refine ⟨b, C2, R2, ?_, ?_, z3⟩
  · have z1 : f79 Mc ((2 + p : Nat) : Int) 0 = some (b, C2) := z1
    unfold f76
    rw [e77, bs_, e78, bs_, if_pos k, if_pos (by omega), Int.toNat_natCast, d1, z1, bs_]
    exact ans01 (Nxt_01 z3)
  · unfold f215
    rw [if_pos (by omega), Int.toNat_natCast, r84, if_pos (by omega), Int.toNat_natCast, if_pos r63, g1, bs_, d2, z2, bs_]
    exact ans01 (Nxt_01 z3)
theorem step_1 (h : PS Mc Mr S n n' cs p np ow) (hp : p < np) (k : Mc 13 (eAt Mc p) = 1) : ∃ (b : Int) (Mc' Mr' : Mm), f76 Mc (p : Int) = some (b, Mc') ∧ f215 Mr (p : Int) = some (b, Mr') ∧ Nxt Mc Mr b Mc' Mr' p np ow := by
  obtain ⟨tw, st, ly, nd, fl, wt, plq, b1, b2, k5z⟩ := id h
  have np60 := ly.1
  obtain ⟨⟨d1, u, d2, d3⟩, -⟩ := nd p hp
  obtain ⟨e77, e78⟩ := f77_eq ly st.2.2.2.1 hp
  obtain ⟨e1, e2⟩ := LayP_e ly hp
  have r84 : Mr 84 p = (eAt Mc p : Int) := by rw [(ly.2.2.2.2 p hp).1]; exact e1
  have r63 : Mr 63 (eAt Mc p) = 1 := by rw [(st.2.2.2.2.1.2 _ e2).1]; exact k
  have r64 : Mr 64 (eAt Mc p) = Mc 14 (eAt Mc p) := (st.2.2.2.2.1.2 _ e2).2.1
  have hne := st.2.2.2.1.1
  obtain ⟨-, -, k1, -⟩ := st.2.2.2.1.2 _ e2
  have k1 := k1 k
  obtain ⟨j, hj⟩ : ∃ j : Nat, Mc 14 (eAt Mc p) = (j : Int) := ⟨(Mc 14 (eAt Mc p)).toNat, by omega⟩
  have tj : (Mc 14 (eAt Mc p)).toNat = j := by rw [hj]; exact Int.toNat_natCast j
  obtain ⟨y, v, C1, R1, S1, m, m', c1, r1, hI, sy, pn, m1, m2⟩ := prim_ok (k := j) tw (by omega) (by omega) (by omega)
  have yl : y < m := (Tw_lt hI.1 sy).1
  obtain ⟨gw, -⟩ := Tw_G hI.1
  obtain ⟨b, C2, R2, z1, z2, z3⟩ := PS_simple (x := 2 + p) (y := y) (u := u) (v := v) h hp (by omega) (by omega) (by omega) hI (by omega) (hI.2.2.2.2.1 _ _ d3) sy (fun C2 F => by
    have cg := Cg_j F
    have cg2 := Cg_trans hI.2.1 cg hI.2.2.2.1.1
    have ee : eAt C2 p = eAt Mc p := by unfold eAt; rw [cg2.1 34 (by omega)]
    refine PlQ_one (k := 1) (by rw [ee, cg2.1 13 (by omega)]; exact k) (fun q => by omega) (fun _ => ⟨y, List.mem_cons_self, ?_⟩) (fun q => by omega) (fun q => by omega) (fun q => by omega) (by omega)
    rw [ee, cg2.1 14 (by omega), tj]
    exact PN_g gw yl cg.2.2 pn)
  refine ⟨b, C2, R2, ?_, ?_, z3⟩
  · unfold f76
    rw [e77, bs_, e78, bs_, if_neg (by omega), if_pos k, if_pos (by omega), Int.toNat_natCast, hj, c1, bs_, d1, z1, bs_]
    exact ans01 (Nxt_01 z3)
  · unfold f215
    rw [if_pos (by omega), Int.toNat_natCast, r84, if_pos (by omega), Int.toNat_natCast, if_neg (by omega), if_pos r63, r64, hj, r1, bs_, d2, z2, bs_]
    exact ans01 (Nxt_01 z3)
theorem step_4 (h : PS Mc Mr S n n' cs p np ow) (hp : p < np) (k : Mc 13 (eAt Mc p) = 4) : ∃ (b : Int) (Mc' Mr' : Mm), f76 Mc (p : Int) = some (b, Mc') ∧ f215 Mr (p : Int) = some (b, Mr') ∧ Nxt Mc Mr b Mc' Mr' p np ow := by
  obtain ⟨tw, st, ly, nd, fl, wt, plq, b1, b2, k5z⟩ := id h
  have np60 := ly.1
  obtain ⟨⟨d1, u, d2, d3⟩, -⟩ := nd p hp
  obtain ⟨e77, e78⟩ := f77_eq ly st.2.2.2.1 hp
  obtain ⟨e1, e2⟩ := LayP_e ly hp
  have r84 : Mr 84 p = (eAt Mc p : Int) := by rw [(ly.2.2.2.2 p hp).1]; exact e1
  have r63 : Mr 63 (eAt Mc p) = 4 := by rw [(st.2.2.2.2.1.2 _ e2).1]; exact k
  have r64 : Mr 64 (eAt Mc p) = Mc 14 (eAt Mc p) := (st.2.2.2.2.1.2 _ e2).2.1
  have hne := st.2.2.2.1.1
  obtain ⟨-, -, -, -, -, k4, -⟩ := st.2.2.2.1.2 _ e2
  obtain ⟨k41, k42, k43, k44, k45⟩ := k4 k
  obtain ⟨x, hx⟩ : ∃ x : Nat, Mc 14 (eAt Mc p) = (x : Int) := ⟨(Mc 14 (eAt Mc p)).toNat, by omega⟩
  have tx : (Mc 14 (eAt Mc p)).toNat = x := by rw [hx]; exact Int.toNat_natCast x
  have hxs := (st.2.2.2.1.2 x (by omega)).2.1
  obtain ⟨s, hs⟩ : ∃ s : Nat, Mc 16 x = (s : Int) := ⟨(Mc 16 x).toNat, by omega⟩
  have ts : (Mc 16 x).toNat = s := by rw [hs]; exact Int.toNat_natCast s
  have r66 : Mr 66 x = (s : Int) := by rw [(st.2.2.2.2.1.2 x (by omega)).2.2.2]; exact hs
  obtain ⟨e, l1, l2, -, -, l4⟩ := ly.2.2.2.1 p hp
  have ee0 : e = eAt Mc p := by unfold eAt; rw [l1]; exact (Int.toNat_natCast e).symm
  subst ee0
  obtain ⟨l5, l6, -⟩ := l4 k
  rw [tx, ts] at l5
  obtain ⟨⟨da, ua, db, dc⟩, -⟩ := nd (p + 1) (by omega)
  obtain ⟨⟨dx, ux, dy, dz⟩, -⟩ := nd (p + 1 + s) l5
  obtain ⟨C1, R1, c1, r1, hI, cg1, kf⟩ := Inc_arr (Inc_refl tw) (by omega) (by omega) dz d3
  obtain ⟨b, C2, R2, z1, z2, z3⟩ := PS_simple (x := 2 + (p + 1)) (y := n) (u := ua) (v := n') h hp (by omega) (by omega) (by omega) hI (by omega) (adS_l dc) adS_r (fun C2 F => by
    have cg := Cg_j F
    have cg2 := Cg_trans hI.2.1 cg hI.2.2.2.1.1
    have ee : eAt C2 p = eAt Mc p := by unfold eAt; rw [cg2.1 34 (by omega)]
    refine PlQ_one (k := 4) (by rw [ee, cg2.1 13 (by omega)]; exact k) (fun q => by omega) (fun q => by omega) (fun q => by omega) (fun q => by omega) (fun _ => ⟨n, List.mem_cons_self, ?_⟩) (by omega)
    rw [ee, cg2.1 14 (by omega), cg2.1 16 (by omega), tx, ts]
    exact isF_g cg (by omega) kf)
  have cp : ((p : Int) + 1) = ((p + 1 : Nat) : Int) := by omega
  have c2 : ((p + 1 : Nat) : Int) + (s : Int) = ((p + 1 + s : Nat) : Int) := by omega
  refine ⟨b, C2, R2, ?_, ?_, z3⟩
  · have e71 : f71 Mc (p : Int) = some ((p + 1 + s : Nat) : Int) := by
      unfold f71
      rw [if_pos (by omega), Int.toNat_natCast, l1, f70_eq (by omega), bs_, hx, f67_eq (by omega), bs_, hs, if_pos (by omega), cp, c2]
    unfold f76
    rw [e77, bs_, e78, bs_, if_neg (by omega), if_neg (by omega), if_neg (by omega), if_neg (by omega), if_pos k, if_pos (by omega), cp, Int.toNat_natCast, e71, bs_, if_pos (by omega), if_pos (by omega), Int.toNat_natCast, Int.toNat_natCast, dx, d1, c1, bs_, da, z1, bs_]
    exact ans01 (Nxt_01 z3)
  · unfold f215
    rw [if_pos (by omega), Int.toNat_natCast, r84, if_pos (by omega), Int.toNat_natCast, if_neg (by omega), if_neg (by omega), if_neg (by omega), if_neg (by omega), if_pos r63, if_pos (by omega), r64, hx, if_pos (by omega), Int.toNat_natCast, r66, cp, c2, if_pos (by omega), Int.toNat_natCast, Int.toNat_natCast, dy, d2, r1, bs_, db, z2, bs_]
    exact ans01 (Nxt_01 z3)
end STEP
