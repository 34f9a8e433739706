/-! The small machine's cells. -/
/-- a program: methods; fields (of what, which, their kind: 0 an int, 1 a truth value, 2 written once); calls (the method, how many arguments, of what the receiver is); what is made; statics; constants; methods that are given by what they do; calls of Object's own; handlers (where to, which local takes the exception); arrays from outside -/
abbrev mvP : Type := (Nat → Option mvE) × (Nat → Nat → Option (Nat × Nat × Nat)) × (Nat → Nat → Option (Nat × Nat × Nat)) × (Nat → Nat → Option (Nat × List mvV)) × (Nat → Nat → Option Nat) × (Nat → Nat → Option Int32) × (Nat → Option (List mvV → mvH → Option mvO)) × (Nat → Nat → Bool) × (Nat → Nat → String → Option (Nat × Nat × Nat)) × (Nat → Option (Nat × (Nat → Int32))) × List Cond
def mvPm (P : mvP) : Nat → Option mvE := P.1
def mvPf (P : mvP) : Nat → Nat → Option (Nat × Nat × Nat) := P.2.1
def mvPi (P : mvP) : Nat → Nat → Option (Nat × Nat × Nat) := P.2.2.1
def mvPn (P : mvP) : Nat → Nat → Option (Nat × List mvV) := P.2.2.2.1
def mvPs (P : mvP) : Nat → Nat → Option Nat := P.2.2.2.2.1
def mvPk (P : mvP) : Nat → Nat → Option Int32 := P.2.2.2.2.2.1
def mvPb (P : mvP) : Nat → Option (List mvV → mvH → Option mvO) := P.2.2.2.2.2.2.1
def mvPo (P : mvP) : Nat → Nat → Bool := P.2.2.2.2.2.2.2.1
def mvPh (P : mvP) : Nat → Nat → String → Option (Nat × Nat × Nat) := P.2.2.2.2.2.2.2.2.1
def mvPx (P : mvP) : Nat → Option (Nat × (Nat → Int32)) := P.2.2.2.2.2.2.2.2.2.1
/-- words that the tables keep, though not word for word -/
def mvPw (P : mvP) : List Cond := P.2.2.2.2.2.2.2.2.2.2
def mvWarm (w : Cond) : Bool := match w with
  | .castable .. => true
  | .declares _ => true
  | .methodLinkNest .. => true
  | .fieldLinkNest .. => true
  | _ => false
theorem mvWarm_go {w : Cond} {s U : State} (hw : mvWarm w = true) (hW : s.WarmedH U.vm) (h : va_Nw w s) : va_Nw w U := by
  unfold mvWarm at hw
  split at hw
  · exact va_Nw.warmC hW h
  · exact va_Nw.warmD hW h
  · exact va_Nw.warmM hW h
  · exact va_Nw.warmF hW h
  · cases hw
theorem mvWarm_on {w : Cond} (hw : mvWarm w = true) : w.onTables = true := by
  unfold mvWarm at hw
  split at hw
  · rfl
  · rfl
  · rfl
  · rfl
  · cases hw
theorem mvWs_get (N0 : Nat) (xa : Nat → Nat) (cA : Nat → ClassId) : ∀ (h : List mvC) (a k : Nat), (mvWs N0 xa cA a h)[k]? = (h[k]?).map (fun c => (a + k, mvCE N0 xa cA c))
  | [], a, k => by simp [mvWs]
  | c :: t, a, 0 => by simp [mvWs]
  | c :: t, a, k + 1 => by
    simp only [mvWs, List.getElem?_cons_succ]
    rw [mvWs_get N0 xa cA t (a + 1) k]
    congr 1
    funext c
    rw [Nat.add_right_comm, Nat.add_assoc]
theorem mvWs_set (N0 : Nat) (xa : Nat → Nat) (cA : Nat → ClassId) (c : mvC) : ∀ (h : List mvC) (a k : Nat), mvWs N0 xa cA a (h.set k c) = (mvWs N0 xa cA a h).set k (a + k, mvCE N0 xa cA c)
  | [], a, k => by simp [mvWs]
  | c' :: t, a, 0 => by simp [mvWs]
  | c' :: t, a, k + 1 => by
    simp only [mvWs, List.set_cons_succ]
    rw [mvWs_set N0 xa cA c t (a + 1) k, show a + 1 + k = a + (k + 1) by omega]
theorem mvWs_app (N0 : Nat) (xa : Nat → Nat) (cA : Nat → ClassId) (c : mvC) : ∀ (h : List mvC) (a : Nat), mvWs N0 xa cA a (h ++ [c]) = mvWs N0 xa cA a h ++ [(a + h.length, mvCE N0 xa cA c)]
  | [], a => by simp [mvWs]
  | c' :: t, a => by
    simp only [mvWs, List.cons_append, List.length_cons]
    rw [mvWs_app N0 xa cA c t (a + 1), show a + 1 + t.length = a + (t.length + 1) by omega]
theorem mvWs_D (N0 : Nat) (xa : Nat → Nat) (cA : Nat → ClassId) (h : List mvC) : va_D (fun q : Nat => N0 ≤ q) (mvWs N0 xa cA N0 h) := by
  refine ⟨fun i j p q hi hj e => ?_, fun k q hk => ?_⟩
  · rw [mvWs_get] at hi hj
    obtain ⟨c1, -, rfl⟩ := Option.map_eq_some_iff.mp hi
    obtain ⟨c2, -, rfl⟩ := Option.map_eq_some_iff.mp hj
    have e' : N0 + i = N0 + j := e
    omega
  · rw [mvWs_get] at hk
    obtain ⟨c1, -, rfl⟩ := Option.map_eq_some_iff.mp hk
    show N0 ≤ N0 + k
    omega
theorem mvWs_at {N0 : Nat} {xa : Nat → Nat} {cA : Nat → ClassId} {h : List mvC} {k : Nat} {c : mvC} (hk : h[k]? = some c) : (mvWs N0 xa cA N0 h)[k]? = some (N0 + k, mvCE N0 xa cA c) := by rw [mvWs_get, hk]; rfl
/-- one cell changes -/
theorem mvWs_put {N0 : Nat} {xa : Nat → Nat} {cA : Nat → ClassId} {D : va_G} {cl : List vw_C} {h : List mvC} {k : Nat} {c c' : mvC} {H H1 : Heap} (hP : va_P D cl (mvWs N0 xa cA N0 h) H) (hk : h[k]? = some c) (he : va_at D cl (N0 + k, mvCE N0 xa cA c') H1) (oq : ∀ q : Nat, q ≠ N0 + k → H1[q]? = H[q]?) :
    va_P D cl (mvWs N0 xa cA N0 (h.set k c')) H1 := by
  rw [mvWs_set]
  exact hP.set (mvWs_D N0 xa cA h) (mvWs_at hk) he oq
/-- one more cell -/
theorem mvWs_more {N0 : Nat} {xa : Nat → Nat} {cA : Nat → ClassId} {D : va_G} {cl : List vw_C} {h : List mvC} {c' : mvC} {H H1 : Heap} (hP : va_P D cl (mvWs N0 xa cA N0 h) H) (he : va_at D cl (N0 + h.length, mvCE N0 xa cA c') H1) (oq : ∀ q : Nat, q < H.size → H1[q]? = H[q]?) :
    va_P D cl (mvWs N0 xa cA N0 (h ++ [c'])) H1 := by
  rw [mvWs_app]
  refine va_P.app (hP.kept fun k q hq => oq q.1 (hP k q hq).lt) (fun k q hk => ?_)
  have hz : k < 1 := (List.getElem?_eq_some_iff.mp hk).1
  rw [show k = 0 by omega] at hk
  cases hk
  exact he
def mvFit (kd : Nat) (v : mvV) : Bool := match kd, v with
  | 0, .inl _ => true
  | 1, .inl x => decide (x = 0 ∨ x = 1)
  | 2, .inr (.inr (.inl (some _))) => true
  | _, _ => false
def mvIn (i : Int32) (n : Nat) : Bool := decide (¬ (i < 0 ∨ n ≤ i.toNatClampNeg))
theorem mvIn_iff {i : Int32} {n : Nat} : mvIn i n = true ↔ vp_in i n := decide_eq_true_iff
/-- fields -/
def mvG1 (P : mvP) (j : Nat) (i : Instr) (st : List mvV) (h : mvH) : Option (List mvV × mvH) := match i with
  | .getfield idx => match mvPf P j idx, st with
    | some (ci, k, _), .inr (.inr (.inl (some a))) :: r => match h.2[a]? with
      | some (.inr (ci', fs)) => if ci' = ci then (fs[k]?).map (fun v => (v :: r, h)) else none
      | _ => none
    | _, _ => none
  | .putfield idx => match mvPf P j idx, st with
    | some (ci, k, kd), v :: .inr (.inr (.inl (some a))) :: r => match h.2[a]? with
      | some (.inr (ci', fs)) => if ci' = ci ∧ k < fs.length ∧ mvFit kd v = true then some (r, (h.1, h.2.set a (.inr (ci, fs.set k v)))) else none
      | _ => none
    | _, _ => none
  | _ => none
/-- arrays -/
def mvG2 (P : mvP) (i : Instr) (st : List mvV) (h : mvH) : Option (List mvV × mvH) := match i with
  | .iaload => match st with
    | .inl x :: .inr (.inr (.inl (some a))) :: r => match h.2[a]? with
      | some (.inl (0, n, .inl f)) => if mvIn x n = true then some (.inl (mvLk f x.toNatClampNeg) :: r, h) else none
      | _ => none
    | .inl x :: .inr (.inr (.inr o)) :: r => match mvPx P o with
      | some q => if mvIn x q.1 = true ∧ o < 2 then some (.inl (q.2 x.toNatClampNeg) :: r, h) else none
      | none => none
    | _ => none
  | .baload => match st with
    | .inl x :: .inr (.inr (.inl (some a))) :: r => match h.2[a]? with
      | some (.inl (1, n, .inl f)) => if mvIn x n = true then some (.inl (mvLk f x.toNatClampNeg) :: r, h) else none
      | _ => none
    | _ => none
  | .laload => match st with
    | .inl x :: .inr (.inr (.inl (some a))) :: r => match h.2[a]? with
      | some (.inl (2, n, .inr f)) => if mvIn x n = true then some (.inr (.inl (mvLl f x.toNatClampNeg)) :: r, h) else none
      | _ => none
    | _ => none
  | .iastore => match st with
    | .inl y :: .inl x :: .inr (.inr (.inl (some a))) :: r => match h.2[a]? with
      | some (.inl (0, n, .inl f)) => if mvIn x n = true then some (r, (h.1, h.2.set a (.inl (0, n, .inl ((x.toNatClampNeg, y) :: f))))) else none
      | _ => none
    | _ => none
  | .bastore => match st with
    | .inl y :: .inl x :: .inr (.inr (.inl (some a))) :: r => match h.2[a]? with
      | some (.inl (1, n, .inl f)) => if mvIn x n = true then some (r, (h.1, h.2.set a (.inl (1, n, .inl ((x.toNatClampNeg, vp_nar .boolean y) :: f))))) else none
      | _ => none
    | _ => none
  | .lastore => match st with
    | .inr (.inl y) :: .inl x :: .inr (.inr (.inl (some a))) :: r => match h.2[a]? with
      | some (.inl (2, n, .inr f)) => if mvIn x n = true then some (r, (h.1, h.2.set a (.inl (2, n, .inr ((x.toNatClampNeg, y) :: f))))) else none
      | _ => none
    | _ => none
  | .arraylength => match st with
    | .inr (.inr (.inl (some a))) :: r => match h.2[a]? with
      | some (.inl (t, n, .inl _)) => if t < 2 then some (.inl (Int32.ofNat n) :: r, h) else none
      | _ => none
    | .inr (.inr (.inr o)) :: r => match mvPx P o with
      | some q => if o < 2 then some (.inl (Int32.ofNat q.1) :: r, h) else none
      | none => none
    | _ => none
  | _ => none
/-- what is made: the stack, the cells, how many slots, the length -/
def mvG3 (P : mvP) (j : Nat) (i : Instr) (st : List mvV) (h : mvH) : Option (List mvV × mvH × Nat × Nat) := match i with
  | .newarray t => match st with
    | .inl n :: r => if ¬ n < 0 ∧ n.toNatClampNeg ≤ 1000000 ∧ h.1 = true then match t with
      | .int => some (.inr (.inr (.inl (some h.2.length))) :: r, (true, h.2 ++ [.inl (0, n.toNatClampNeg, .inl [])]), n.toNatClampNeg, 2)
      | .boolean => some (.inr (.inr (.inl (some h.2.length))) :: r, (true, h.2 ++ [.inl (1, n.toNatClampNeg, .inl [])]), n.toNatClampNeg, 2)
      | .long => some (.inr (.inr (.inl (some h.2.length))) :: r, (true, h.2 ++ [.inl (2, n.toNatClampNeg, .inr [])]), n.toNatClampNeg, 2)
      | _ => none
      else none
    | _ => none
  | .new idx => match mvPn P j idx with
    | some (ci, fs) => if h.1 = true then some (.inr (.inr (.inl (some h.2.length))) :: st, (true, h.2 ++ [.inr (ci, fs)]), fs.length, 3) else none
    | none => none
  | _ => none
/-- statics and constants -/
def mvG4 (P : mvP) (j : Nat) (i : Instr) : Option (mvV × Nat) := match i with
  | .getstatic idx => (mvPs P j idx).map (fun o => (.inr (.inr (.inr o)), 3))
  | .ldc idx => (mvPk P j idx).map (fun v => (.inl v, 2))
  | .ldc_w idx => (mvPk P j idx).map (fun v => (.inl v, 3))
  | _ => none
/-- what the tables must say of a program's numbers -/
def mvKind (kd : Nat) (T : u_T) (k : Nat) (y : MethodName) : Prop := match kd with
  | 0 => (T k).2.2.2 = false ∧ parseFieldDescriptor (T k).2.2.1 = some .int
  | 1 => (T k).2.2.2 = false ∧ parseFieldDescriptor (T k).2.2.1 = some .boolean
  | _ => (T k).2.2.2 = true ∧ y.name = "<init>" ∧ ∃ ty, parseFieldDescriptor (T k).2.2.1 = some ty ∧ ((∃ n, ty = .object n) ∨ ∃ t, ty = .array t)
/-- what is known of a number of 'cl' -/
def mvOf (Ts : List Cond) (q : vw_C) : Prop := (∀ w ∈ u_ws q.1 q.2.1 q.2.2, w ∈ Ts) ∧ (∃ ty0 : Nat → FieldType, ∀ k, k < q.2.2 → parseFieldDescriptor (q.2.1 k).2.2.1 = some (ty0 k)) ∧ (∀ a, a < q.2.2 → ∀ b, b < q.2.2 → a ≠ b → (q.2.1 a).2.1 ≠ (q.2.1 b).2.1)
def mvOkf (Ts : List Cond) (cl : List vw_C) (P : mvP) : Prop := ∀ j E idx ci k kd, mvPm P j = some E → mvPf P j idx = some (ci, k, kd) → ∃ q : vw_C, cl[ci]? = some q ∧ mvOf Ts q ∧ k < q.2.2 ∧ Cond.fieldLink E.1.cls idx q.1 (q.2.1 k).2.1 (q.2.1 k).2.2.1 ∈ Ts ∧ (q.2.1 k).1 = q.1
def mvOkp (Ts : List Cond) (cl : List vw_C) (P : mvP) : Prop := ∀ j E idx ci k kd q, mvPm P j = some E → mvPf P j idx = some (ci, k, kd) → kd ≤ 2 → cl[ci]? = some q → mvKind kd q.2.1 k E.1 ∧ (kd = 2 → (q.2.1 k).1 = E.1.cls)
def mvOkn (Ts : List Cond) (cl : List vw_C) (P : mvP) : Prop := ∀ j E idx ci fs, mvPm P j = some E → mvPn P j idx = some (ci, fs) → ∃ q : vw_C, cl[ci]? = some q ∧ mvOf Ts q ∧ fs.length = q.2.2 ∧ Cond.classLink E.1.cls idx q.1 ∈ Ts ∧ Cond.instantiable q.1 q.2.2 ∈ Ts ∧ Cond.initialized q.1 ∈ Ts ∧ ∀ k, k < q.2.2 → ∀ ty, parseFieldDescriptor (q.2.1 k).2.2.1 = some ty → ∀ (N0 : Nat) (xa : Nat → Nat), defaultValue ty = vp_V (fs.map (mvCv N0 xa)) k
def mvOks (Ts : List Cond) (P : mvP) (sC sn sd : String) : Prop := ∀ j E idx o, mvPm P j = some E → mvPs P j idx = some o → o = 0 ∧ (Cond.fieldLink E.1.cls idx sC sn sd ∈ Ts ∨ ∃ host, Cond.fieldLinkNest E.1.cls idx sC sn sd host ∈ mvPw P)
def mvOkk (Ts : List Cond) (P : mvP) : Prop := ∀ j E idx v, mvPm P j = some E → mvPk P j idx = some v → Cond.constant E.1.cls idx v ∈ Ts
section MVG
variable {p : Program} {l : Launch} {e : Env} {R : Room} {s : State} {m : MethodId} {args : Array Value} {below : List Frame} {meth : Method} {c : Code} {H : Heap} {locs : List Loc} {cells slots : Nat} {Q : State → Prop}
variable {cc : ByteArray} {pc nL len : Nat} {ls : Array Slot} {N0 : Nat} {xa : Nat → Nat} {cA : Nat → ClassId} {D : va_G} {cl : List vw_C} {Ts : List Cond} {P : mvP} {j : Nat} {E : mvE} {lv : mvL} {st : List mvV} {h : mvH} {i : Instr}
/-- behind a step: the cells as the small machine has them -/
abbrev mvKk (p : Program) (l : Launch) (e : Env) (R : Room) (s : State) (m : MethodId) (args : Array Value) (below : List Frame) (meth : Method) (c : Code) (cells slots : Nat) (Q : State → Prop) (g : JFrame) (D : va_G) (cl : List vw_C) (N0 : Nat) (xa : Nat → Nat) (cA : Nat → ClassId) (h : mvH) : Prop :=
  ∀ (H1 : Heap) (locs1 : List Loc), va_P D cl (mvWs N0 xa cA N0 h.2) H1 → va_S (fun q : Nat => N0 ≤ q) s.heap H1 locs1 → (h.1 = true → H1.size = N0 + h.2.length) → W p l e R s m args below meth c H1 locs1 cells slots Q g
theorem mvG1_ok (hx : p.tables.exec = Jvm.exec) (hb : c.code = E.2.1) (hown : s.vm.findClass E.1.cls = some m.cls) (hnm : meth.name = E.1.name) (hts : ∀ w ∈ Ts, w.before args s = true) {tys : List (ClassId × FieldType)} (hK : va_K D cl tys s) (hE : mvPm P j = some E) (of : mvOkf Ts cl P) (op : mvOkp Ts cl P)
    (hP : va_P D cl (mvWs N0 xa cA N0 h.2) H) (hS : va_S (fun q : Nat => N0 ≤ q) s.heap H locs) (hF : h.1 = true → H.size = N0 + h.2.length)
    {st' : List mvV} {h' : mvH} (hs : mvG1 P j i st h = some (st', h')) (hdg : decode E.2.1 pc = .ok (i, 3))
    (k : mvKk p l e R s m args below meth c cells slots Q (F0 m (pc + 3) ls (st'.map (mvCv N0 xa))) D cl N0 xa cA h') : W p l e R s m args below meth c H locs cells slots Q (F0 m pc ls (st.map (mvCv N0 xa))) := by
  unfold mvG1 at hs
  split at hs
  · rename_i idx
    split at hs
    · rename_i ci kf kd a r hf
      split at hs
      · rename_i ci' fs hc
        split at hs
        · rename_i hci
          subst hci
          obtain ⟨v, hv, hq⟩ := Option.map_eq_some_iff.mp hs
          cases hq
          obtain ⟨⟨C, T, N⟩, hq1, ⟨hq2, -, -⟩, hq3, hq4, hq5⟩ := of j E idx ci' kf kd hE hf
          exact va_get (C := C) (T := T) (N := N) hx hb hts hq2 hown hK hP a (mvWs_at hc) hq1 kf hq3 (hts _ hq4) (fun x h9 => by rw [hq5] at h9; exact h9) (by rw [List.getElem?_map, hv]; rfl) hdg (k H locs hP hS hF)
        · cases hs
      · cases hs
    · cases hs
  · rename_i idx
    split at hs
    · rename_i ci kf kd v a r hf
      split at hs
      · rename_i ci' fs hc
        split at hs
        · rename_i hci
          obtain ⟨hci, hlen, hfit⟩ := hci
          subst hci
          cases hs
          obtain ⟨⟨C, T, N⟩, hq1, ⟨hq2, ⟨ty0, hty⟩, hnd⟩, hq3, hq4, hq5⟩ := of j E idx ci' kf kd hE hf
          have hkd3 : kd ≤ 2 := by
            match kd, hfit with
            | 0, _ => decide
            | 1, _ => decide
            | 2, _ => decide
            | n + 3, hfit => rcases v with x | x | (_ | b) | o <;> cases hfit
          obtain ⟨hkd, hkd2⟩ := op j E idx ci' kf kd (C, T, N) hE hf hkd3 hq1
          have hap := va_apart (own := E.1.cls) hts hq2 ty0 hty hnd hK hq1
          obtain ⟨r0, h1, cell, q1, q2, q3, q4⟩ := hP a _ (mvWs_at hc)
          have hr : r0 = (C, T, N) := Option.some.inj (h1.symm.trans hq1)
          subst hr
          obtain ⟨hSl, hfc, kC, hkC, hkind⟩ := hK.1 ci' _ hq1
          obtain ⟨cf, kf1, fi, f, hi, hsl⟩ := hSl kf hq3
          have hlay := hts _ (hq2 _ (u_in_lay hq3))
          have hst := (u_facts hfc hkC (u_lays hts hq2 hq3) hi).1
          have hsame : ∀ x, s.fieldFound? (T kf).1 (T kf).2.1 (T kf).2.2.1 = some x → s.fieldFound? C (T kf).2.1 (T kf).2.2.1 = some x := fun x h9 => by rw [hq5] at h9; exact h9
          have hlink := hts _ hq4
          have hl : kf < (fs.map (mvCv N0 xa)).length := by rw [List.length_map]; exact hlen
          have kk : ∀ H' : Heap, H'[N0 + a]? = some (cell.setSlot f.slot (mvCv N0 xa v)) → H'.size = H.size → (∀ q, q ≠ N0 + a → H'[q]? = H[q]?) → W p l e R s m args below meth c H' (locs ++ [⟨N0 + a, f.slot⟩]) cells slots Q (F0 m (pc + 3) ls (st'.map (mvCv N0 xa))) := by
            intro H' e1 e2 e3
            rw [hsl] at e1 ⊢
            refine k H' _ (mvWs_put hP hc ?_ e3) (hS.put e2 e3 (Nat.le_add_right _ _)) (fun hh => ?_)
            · refine ⟨_, hq1, ?_⟩
              rw [List.map_set]
              exact t_OB.to (V := updV (vp_V (fs.map (mvCv N0 xa))) kf (mvCv N0 xa v)) ⟨_, e1, q2, q3, t_set q4 hap hq3 _⟩ (fun j _ => vp_updV_set hl _ j)
            · rw [List.length_set, e2]
              exact hF hh
          unfold u_lay at hlay
          match kd, hkd, hkd2, hkd3, hfit with
          | 0, hkd, _, _, hfit =>
            rw [if_neg (by rw [hkd.1]; decide)] at hlay
            rcases v with x | v
            · have h6 := u_store hfc hkC hkind hlay hi hkd.2 (v := .int x) rfl rfl
              exact W.putK hx hb (f := f) ⟨hown, hlink, ⟨_, _, _, hsame _ hi⟩, hst⟩ (by rw [q2]; exact h6) q1 q3 (by rw [hsl]; exact k2_hasslot (q4 kf hq3)) rfl rfl hdg kk
            · cases hfit
          | 1, hkd, _, _, hfit =>
            rw [if_neg (by rw [hkd.1]; decide)] at hlay
            rcases v with x | v
            · have hx01 : x = 0 ∨ x = 1 := of_decide_eq_true hfit
              have h6 := u_store hfc hkC hkind hlay hi hkd.2 (v := .int x) (by rcases hx01 with rfl | rfl <;> rfl) (by rcases hx01 with rfl | rfl <;> rfl)
              exact W.putK hx hb (f := f) ⟨hown, hlink, ⟨_, _, _, hsame _ hi⟩, hst⟩ (by rw [q2]; exact h6) q1 q3 (by rw [hsl]; exact k2_hasslot (q4 kf hq3)) rfl rfl hdg kk
            · cases hfit
          | 2, hkd, hkd2, _, hfit =>
            obtain ⟨hfin, hin, ty, hty9, hty8⟩ := hkd
            rw [if_pos hfin] at hlay
            have hcf : m.cls = cf := by
              obtain ⟨_, _, c', _, _, _, -, -, hf', -, -, -, hown2, -⟩ := Cond.laysFinal_spec hlay
              have e1 : c' = cf := by have := hi.symm.trans hf'; simp at this; exact this.1.symm
              rw [hkd2 rfl] at hown2
              rw [← e1]; exact Option.some.inj (hown.symm.trans hown2)
            rcases v with x | x | (_ | b) | o
            · cases hfit
            · cases hfit
            · cases hfit
            · have h6 := u_fits hfc hkC hkind (Or.inr hlay) hi hty9 (v := .ref (N0 + b)) (by rcases hty8 with ⟨n, rfl⟩ | ⟨t, rfl⟩ <;> rfl) (by rcases hty8 with ⟨n, rfl⟩ | ⟨t, rfl⟩ <;> rfl)
              exact W.putFinK hx hb hown hlink (hsame _ hi) hst hcf (hnm.trans hin) (by rw [q2]; exact h6) q1 q3 (by rw [hsl]; exact k2_hasslot (q4 kf hq3)) rfl rfl hdg kk
            · cases hfit
          | n + 3, _, _, hkd3, _ => omega
        · cases hs
      · cases hs
    · cases hs
  · cases hs
end MVG
