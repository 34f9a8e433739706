/-! WHAT THE SMALL MACHINE COMES TO, THE MACHINE COMES TO. -/
def mvOkm (Ts : List Cond) (P : mvP) : Prop := ∀ j E, mvPm P j = some E → j ≠ 0 → mvCd E ∈ Ts ∧ plainName E.1.cls = true ∧ E.2.2.1 ≤ 41 ∧ E.1.cls ≠ "java/lang/invoke/MethodHandle" ∧ E.1.cls ≠ "java/lang/invoke/VarHandle"
def mvOki (Ts : List Cond) (cl : List vw_C) (P : mvP) : Prop := ∀ j E idx j' n ci, mvPm P j = some E → mvPi P j idx = some (j', n, ci) → ∃ E', mvPm P j' = some E' ∧ j' ≠ 0 ∧ (ci ≠ 102 → Cond.methodLink E.1.cls idx E'.1 ∈ Ts) ∧ Cond.initialized E'.1.cls ∈ Ts ∧ (parseMethodDescriptor E'.1.desc).map (fun d => d.parameters.length) = some n ∧
  (ci = 100 → Cond.static E'.1 ∈ Ts ∧ n ≤ E'.2.2.1) ∧ (ci = 101 → Cond.instanceMethod E'.1 ∈ Ts ∧ E'.1.name = "<init>" ∧ E'.2.2.2.1 = none ∧ E'.2.2.2.2 = [] ∧ n + 1 ≤ E'.2.2.1) ∧ (ci = 102 → Cond.instanceMethod E'.1 ∈ Ts ∧ E'.1.name = "<init>" ∧ E'.2.2.2.1 = none ∧ E'.2.2.2.2 = [] ∧ n + 1 ≤ E'.2.2.1 ∧ ∃ host, Cond.methodLinkNest E.1.cls idx E'.1 host ∈ mvPw P) ∧ (ci < 100 → Cond.instanceMethod E'.1 ∈ Ts ∧ Cond.selects E'.1.cls E'.1 E'.1 ∈ Ts ∧ E'.2.2.2.2 = [] ∧ n + 1 ≤ E'.2.2.1 ∧ ∃ q : vw_C, cl[ci]? = some q ∧ q.1 = E'.1.cls)
def mvOko (Ts : List Cond) (P : mvP) : Prop := Cond.instanceMethod Lib.objectInit ∈ Ts ∧ Cond.code Lib.objectInit ⟨#[0xb1]⟩ 1 none ∈ Ts ∧ (∀ j E idx, mvPm P j = some E → mvPo P j idx = true → Cond.methodLink E.1.cls idx Lib.objectInit ∈ Ts) ∧ (∀ j E idx, mvPm P j = some E → mvPo P (j + 100000) idx = true → Cond.methodLink E.1.cls idx arraycopyName ∈ Ts ∧ Cond.native arraycopyName ∈ Ts ∧ Cond.static arraycopyName ∈ Ts ∧ Cond.initialized "java/lang/System" ∈ Ts) ∧ (∀ j E idx, mvPm P j = some E → mvPo P (j + 200000) idx = true → Cond.methodLink E.1.cls idx Lib.Math.max.name ∈ Ts ∧ Cond.static Lib.Math.max.name ∈ Ts ∧ Cond.initialized "java/lang/Math" ∈ Ts ∧ Cond.code Lib.Math.max.name Lib.Math.max.code 2 (some .int) ∈ Ts) ∧ ∀ j E idx, mvPm P j = some E → mvPo P (j + 300000) idx = true → Cond.methodLink E.1.cls idx Lib.Math.min.name ∈ Ts ∧ Cond.static Lib.Math.min.name ∈ Ts ∧ Cond.initialized "java/lang/Math" ∈ Ts ∧ Cond.code Lib.Math.min.name Lib.Math.min.code 2 (some .int) ∈ Ts
def mvOkh (Ts : List Cond) (P : mvP) : Prop := ∀ j E pc ex hp x pc', mvPm P j = some E → mvPh P j pc ex = some (hp, x, pc') → ∃ (pre : List ExceptionTableEntry) (row : ExceptionTableEntry) (suf : List ExceptionTableEntry), tableOf E.2.2.2.2 = pre ++ row :: suf ∧
  (∀ z ∈ pre, covers z pc = false ∨ (covers z pc = true ∧ z.catchType ≠ 0 ∧ ex = "java/lang/IllegalStateException" ∧ Cond.classLink E.1.cls z.catchType "java/lang/IllegalArgumentException" ∈ Ts)) ∧ covers row pc = true ∧ row.catchType ≠ 0 ∧ Cond.classLink E.1.cls row.catchType ex ∈ Ts ∧ Cond.castable ex ex ∈ mvPw P ∧ row.handlerPc = hp ∧ x < E.2.2.1 ∧
  ((decode E.2.1 hp = .ok (.astore x, 2) ∧ pc' = hp + 2) ∨ (∃ k : Fin 4, decode E.2.1 hp = .ok (.astore_n k, 1) ∧ (k : Nat) = x ∧ pc' = hp + 1))
def mvFr (p : Program) (s : State) (m : MethodId) (args : Array Value) (meth : Method) (c : Code) (Ts : List Cond) (E : mvE) : Prop := p.tables.exec = Jvm.exec ∧ c.code = E.2.1 ∧ c.maxLocals = E.2.2.1 ∧ meth.sig.returnType = E.2.2.2.1 ∧ meth.locks = false ∧ s.vm.findClass E.1.cls = some m.cls ∧ meth.name = E.1.name ∧ (∀ w ∈ Ts, w.before args s = true) ∧ c.exceptionTable.toList = tableOf E.2.2.2.2
theorem mvAdd_inv {dc ds : Nat} {x : Option mvO} {o : mvO} (h : mvAdd dc ds x = some o) : ∃ o', x = some o' ∧ o = (o'.1, o'.2.1, dc + o'.2.2.1, ds + o'.2.2.2) := by
  obtain ⟨o', h1, h2⟩ := Option.map_eq_some_iff.mp h
  exact ⟨o', h1, h2.symm⟩
theorem mvCl_drop (N0 : Nat) (xa : Nat → Nat) (lv : mvL) (i : Nat) : (mvCl N0 xa lv).filter (fun q => !(q.1 == i) && !(q.1 + 1 == i && q.2.category == 2)) = mvCl N0 xa (mvDrop lv i) := by
  unfold mvDrop mvCl
  rw [List.filter_map]
  congr 1
  apply List.filter_congr
  intro q _
  simp [Function.comp, mvCv_cat]
theorem mvArgs_eq (N0 : Nat) (xa : Nat → Nat) : ∀ (as : List mvV) (i : Nat), mvOne as = true → lv_args i (as.map (mvCv N0 xa)) = mvCl N0 xa (mvArgs i as) ∧ (lg_sl (as.map (mvCv N0 xa))).length = as.length
  | [], i, _ => ⟨rfl, rfl⟩
  | v :: t, i, h => by
    have h1 : mvCat v = 1 ∧ mvOne t = true := by simpa [mvOne] using h
    have h2 : ¬ (mvCv N0 xa v).category = 2 := by rw [mvCv_cat, h1.1]; decide
    obtain ⟨h3, h4⟩ := mvArgs_eq N0 xa t (i + 1) h1.2
    refine ⟨?_, ?_⟩
    · simp only [List.map_cons, lv_args, h2, if_false, mvArgs, mvCl] at h3 ⊢
      rw [h3]
    · simp only [List.map_cons, lg_sl, h2, if_false, List.length_cons, List.flatMap_cons, List.length_append] at h4 ⊢
      simp only [List.length_nil] at *
      omega
theorem mvSum_eq (N0 : Nat) (xa : Nat → Nat) (st : List mvV) : ((st.map (mvCv N0 xa)).map fun v => v.category).sum = mvSum st := by
  unfold mvSum
  rw [List.map_map]
  congr 1
  apply List.map_congr_left
  intro v _
  exact mvCv_cat N0 xa v
section MVS
variable {p : Program} {l : Launch} {e : Env} {R : Room} {s : State} {m : MethodId} {args : Array Value} {below : List Frame} {meth : Method} {c : Code} {H : Heap} {locs : List Loc} {cells slots : Nat} {Q : State → Prop}
variable {pc dc ds : Nat} {ls : Array Slot} {N0 : Nat} {xa : Nat → Nat} {cA : Nat → ClassId} {D : va_G} {cl : List vw_C} {a : Array Value} {st0 rest : List Value} {r : mvR} {h' : mvH}
/-- behind a call, whatever it answers -/
theorem mvCall (hr : vx_Run p l e R s m args below meth c H locs cells slots dc ds (F0 m pc ls st0) rest (mvQc N0 xa cA D cl r h' a) (mvXc N0 xa cA D cl r h') (fun q : Nat => N0 ≤ q)) (hS : va_S (fun q : Nat => N0 ≤ q) s.heap H locs)
    (kx : ∀ (ex : String) (q : Addr) (ce : Cell) (H1 : Heap) (locs1 : List Loc), r = .inr ex → mvAt N0 xa cA D cl h' H1 → va_S (fun q : Nat => N0 ≤ q) s.heap H1 locs1 → H1[q]? = some ce → ce.vm = .none → s.vm.findClass ex = some ce.cls → vx_W p l e R s m args below meth c H1 locs1 (cells + dc) (slots + ds) Q (F0 m pc ls rest) q)
    (kk : ∀ (v : Option mvV) (H1 : Heap) (locs1 : List Loc), r = .inl v → mvAt N0 xa cA D cl h' H1 → va_S (fun q : Nat => N0 ≤ q) s.heap H1 locs1 → W p l e R s m args below meth c H1 locs1 (cells + dc) (slots + ds) Q (F0 m (pc + 3) ls ((v.map (mvCv N0 xa)).toList ++ rest))) : W p l e R s m args below meth c H locs cells slots Q (F0 m pc ls st0) := by
  intro T hT X
  rcases hr T hT X with ⟨v, st₀, t, T', L, h0, X', hL, e1, e2, ⟨⟨w, hw, hv⟩, hat, hF⟩, st⟩ | ⟨q, st₀, t, T', L, E, ce, h0, X', hL, e1, e2, ⟨hw, hat, hF⟩, hce, hcv, hcl, st⟩
  · cases hv
    obtain ⟨k1, k2, k3⟩ := vx_keep h0 e1 hS (fun _ _ h => h) (fun _ h => h) hL hF
    obtain ⟨t2, a1, b1⟩ := kk w T'.heap (locs ++ L) hw (by rw [e1]; exact hat) k3 T' rfl X'
    exact ⟨t2, st t2 a1, b1⟩
  · obtain ⟨k1, k2, k3⟩ := vx_keep h0 e1 hS (fun _ _ h => h) (fun _ h => h) hL hF
    obtain ⟨t2, a1, b1⟩ := kx E q ce T'.heap (locs ++ L) hw (by rw [e1]; exact hat) k3 (by rw [e1]; exact hce) hcv hcl T' rfl X'
    exact ⟨t2, st.trans a1, b1⟩
/-- the end -/
theorem mvFin_ok {Ts : List Cond} {E : mvE} {i : Instr} {len mc ms : Nat} {st : List mvV} {v : Option mvV} {h : mvH} (C : mvFr p s m args meth c Ts E) (hs : mvFin E i len st = some v) (hdg : decode E.2.1 pc = .ok (i, len)) (hat : mvAt N0 xa cA D cl h H) (hS : va_S (fun q : Nat => N0 ≤ q) s.heap H locs) (h1 : cells ≤ mc) (h2 : slots ≤ ms) :
    W p l e R s m args below meth c H locs cells slots (vx_MQ below (mvQc N0 xa cA D cl (.inl v) h) (mvXc N0 xa cA D cl (.inl v) h) args s mc ms (fun q : Nat => N0 ≤ q)) (F0 m pc ls (st.map (mvCv N0 xa))) := by
  obtain ⟨hx, hb, hml, hr, hlocks, -⟩ := C
  refine W.widen h1 h2 (vx_ret ?_)
  have hq : ∀ t : State, t.heap = H → s.WarmedH t.vm → mvQc N0 xa cA D cl (.inl v) h args s (.returned (v.map (mvCv N0 xa))) t := fun t ht _ => ⟨⟨v, rfl, rfl⟩, by rw [ht]; exact hat, hS.F ht⟩
  unfold mvFin at hs
  split at hs
  · rename_i hlen
    subst hlen
    split at hs
    · split at hs
      · rename_i hE
        cases hs
        exact W.vret hx hb (hr.trans hE) hq hS.2.2 hdg hlocks
      · cases hs
    · split at hs
      · rename_i hE
        cases hs
        exact W.iret hx hb (hr.trans hE) hq hS.2.2 hdg hlocks
      · rename_i x hE
        split at hs
        · rename_i h01
          cases hs
          exact W.zret hx hb (hr.trans hE) (by rcases h01 with rfl | rfl <;> rfl) hq hS.2.2 hdg hlocks
        · cases hs
      · cases hs
    · split at hs
      · rename_i hE
        cases hs
        exact W.aret hx hb (hr.trans hE) (Or.inl ⟨_, rfl⟩) (Or.inr ⟨_, rfl⟩) hq hS.2.2 hdg hlocks
      · rename_i hE
        cases hs
        exact W.aret hx hb (hr.trans hE) (Or.inr ⟨_, rfl⟩) (Or.inr ⟨_, rfl⟩) hq hS.2.2 hdg hlocks
      · cases hs
    · cases hs
  · cases hs
end MVS
