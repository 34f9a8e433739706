/-! An exception that comes out of a call is taken by a row of the caller's table: one row's look at it, then the rows in their order. -/
section MVK
variable {e : Env} {f : JFrame} {a : Addr} {cell : Cell}
/-- a row that covers the place and names what s links: it takes the object, or the next rows look on, the tables warmer by one entry -/
theorem mvRow {S : State} {x : ExceptionTableEntry} {t : List ExceptionTableEntry} {cT : ClassId} (hcov : covers x f.pc = true) (hnz : x.catchType ≠ 0) (hl : S.vm.ClassLinks e.platform f.method.cls x.catchType cT)
    (hcell : S.heap[a]? = some cell) (hobj : ∀ k, cell.vm ≠ .statics k) (h1 : ∃ k, S.vm.classes[cell.cls]? = some k) (h2 : ∃ k, S.vm.classes[cT]? = some k) {b : Bool} (hb : S.vm.assignable cell.cls cT = b)
    (Q : Handler → Pre) (E : CtlPost) (d : Bool) (acts : List Action) :
    wp (findHandler.go f a (x :: t)) Q E e d acts S ↔ (if b = true then Q (.found x.handlerPc) d acts (S.setVm (S.vm.noted f.method.cls x.catchType (.cls cT))) else wp (findHandler.go f a t) Q E e d acts (S.setVm (S.vm.noted f.method.cls x.catchType (.cls cT)))) := by
  have hc := hcov
  simp only [covers] at hc
  have hal : S.vm.Alike (S.vm.noted f.method.cls x.catchType (.cls cT)) := (Vm.Alike.refl S.vm).noted _ _ _
  obtain ⟨r1, r2⟩ := (resolveClass_links e.toSetting hl).op (op := VmOp.resolveClass f.method.cls x.catchType) rfl
  obtain ⟨z1, hz1⟩ := h1
  obtain ⟨z2, hz2⟩ := h2
  obtain ⟨y1, hy1, -⟩ := hal.2.2 _ _ hz1
  obtain ⟨y2, hy2, -⟩ := hal.2.2 _ _ hz2
  have hb' : (S.vm.noted f.method.cls x.catchType (.cls cT)).assignable cell.cls cT = b := by rw [hal.assignable]; exact hb
  cases b <;> simp [findHandler.go, hc, hnz, r1, r2, hcell, hobj, hy1, hy2, hb', VmOp.dirties, VmOp.acts]
/-- what a row says of an object: it does not cover the place, or links to something with this answer -/
def mvSays (pl : Platform) (s : State) (d : ClassId) (pc : Nat) (th : ClassId) (b : Bool) (x : ExceptionTableEntry) : Prop := covers x pc = true ∧ x.catchType ≠ 0 ∧ ∃ cT, s.vm.ClassLinks pl d x.catchType cT ∧ s.vm.assignable th cT = b
theorem mvRows {s : State} (hobj : ∀ k, cell.vm ≠ .statics k) (h1 : ∃ k, s.vm.classes[cell.cls]? = some k) {x : ExceptionTableEntry} (suf : List ExceptionTableEntry) (hx : mvSays e.platform s f.method.cls f.pc cell.cls true x) :
    ∀ (pre : List ExceptionTableEntry), (∀ y ∈ pre, covers y f.pc = false ∨ mvSays e.platform s f.method.cls f.pc cell.cls false y) → ∀ (S : State), s.WarmedH S.vm → S.heap[a]? = some cell →
      ∃ vm', s.WarmedH vm' ∧ ∀ (Q : Handler → Pre) (E : CtlPost) (d : Bool) (acts : List Action), wp (findHandler.go f a (pre ++ x :: suf)) Q E e d acts S ↔ Q (.found x.handlerPc) d acts (S.setVm vm') := by
  obtain ⟨z1, hz1⟩ := h1
  have step : ∀ (S : State), s.WarmedH S.vm → ∀ (b : Bool) (y : ExceptionTableEntry), mvSays e.platform s f.method.cls f.pc cell.cls b y → S.heap[a]? = some cell → ∃ cT, s.WarmedH (S.vm.noted f.method.cls y.catchType (.cls cT)) ∧ ∀ (t : List ExceptionTableEntry) (Q : Handler → Pre) (E : CtlPost) (d : Bool) (acts : List Action),
      (wp (findHandler.go f a (y :: t)) Q E e d acts S ↔ (if b = true then Q (.found y.handlerPc) d acts (S.setVm (S.vm.noted f.method.cls y.catchType (.cls cT))) else wp (findHandler.go f a t) Q E e d acts (S.setVm (S.vm.noted f.method.cls y.catchType (.cls cT))))) := by
    intro S hW b y hy hcell
    obtain ⟨hcov, hnz, cT, hl, hb⟩ := hy
    obtain ⟨y1, hy1, -⟩ := hW.alike.2.2 _ _ hz1
    obtain ⟨_, _, _, z2, hd, _, _, _, _, hz2, _, hopen⟩ := hl.here
    obtain ⟨y2, hy2, -⟩ := hW.alike.2.2 _ _ hz2
    exact ⟨cT, hW.noted hd hopen (State.rightAt_cls hl), fun t Q E d acts => mvRow hcov hnz (hW.classLinks hl) hcell hobj ⟨y1, hy1⟩ ⟨y2, hy2⟩ (by rw [hW.alike.assignable]; exact hb) Q E d acts⟩
  intro pre
  induction pre with
  | nil =>
    intro _ S hW hcell
    obtain ⟨cT, hW1, h⟩ := step S hW true x hx hcell
    exact ⟨_, hW1, fun Q E d acts => by rw [List.nil_append, h]; simp⟩
  | cons y ys ih =>
    intro hp S hW hcell
    have hys := fun z hz => hp z (List.mem_cons_of_mem _ hz)
    rcases hp y List.mem_cons_self with hno | hno
    · obtain ⟨vm', hW', h⟩ := ih hys S hW hcell
      exact ⟨vm', hW', fun Q E d acts => by rw [List.cons_append, W.findHandler_go_skip hno]; exact h Q E d acts⟩
    · obtain ⟨cT, hW1, h1⟩ := step S hW false y hno hcell
      obtain ⟨vm', hW', h⟩ := ih hys (S.setVm (S.vm.noted f.method.cls y.catchType (.cls cT))) hW1 hcell
      exact ⟨vm', hW', fun Q E d acts => by rw [List.cons_append, h1]; simp only [Bool.false_eq_true, if_false]; exact h Q E d acts⟩
end MVK
section MVK2
variable {p : Program} {l : Launch} {e : Env} {R : Room} {s : State} {m : MethodId} {args : Array Value} {below : List Frame} {meth : Method} {c : Code} {H : Heap} {locs : List Loc} {cells slots : Nat} {Q : State → Prop} {pc : Nat} {ls : Array Slot} {rest : List Value}
/-- taken by the row x of this method's table; the rows ahead of it let it pass -/
theorem mvCatch {own name : String} {E : String} {ce : Cell} {q : Addr} (hown : s.vm.findClass own = some m.cls) (pre : List ExceptionTableEntry) (x : ExceptionTableEntry) (suf : List ExceptionTableEntry) (hsplit : c.exceptionTable.toList = pre ++ x :: suf)
    (hpass : ∀ z ∈ pre, covers z pc = false ∨ (covers z pc = true ∧ z.catchType ≠ 0 ∧ ∃ nm : String, (Cond.classLink own z.catchType nm).before args s = true ∧ va_Nc E nm s)) (hx : covers x pc = true) (h0 : x.catchType ≠ 0)
    (hlink : (Cond.classLink own x.catchType name).before args s = true) (hcast : (Cond.castable E name).before args s = true) (hcell : H[q]? = some ce) (hv : ce.vm = .none) (hcl : s.vm.findClass E = some ce.cls)
    (kk : W p l e R s m args below meth c H locs cells slots Q (F0 m x.handlerPc ls [.ref q])) : vx_W p l e R s m args below meth c H locs cells slots Q (F0 m pc ls rest) q := by
  intro T hT X
  have hpl : e.platform.magicAccessors = ({} : Platform).magicAccessors := by rw [X.admits.platform]
  obtain ⟨c3, c4, hc3, hc4, hasg⟩ := Cond.castable_spec hcast
  cases Option.some.inj (hc3.symm.trans hcl)
  obtain ⟨c5, hc5, hcl5⟩ := Cond.classLink_spec hown hlink e.platform hpl
  cases Option.some.inj (hc4.symm.trans hc5)
  have hobj : ∀ k, ce.vm ≠ .statics k := fun k => by rw [hv]; exact fun h => by cases h
  have hk1 : ∃ k, s.vm.classes[ce.cls]? = some k := by obtain ⟨k9, h9, -⟩ := Vm.findClass_spec hcl; exact ⟨k9, h9⟩
  obtain ⟨vm', hW', hf⟩ := mvRows (e := e) (f := F0 m pc ls rest) (a := q) (s := s) hobj hk1 suf (x := x) ⟨hx, h0, c4, hcl5, hasg⟩ pre (fun z hz => by
    rcases hpass z hz with h | ⟨hz1, hz0, nm, hl1, hn1⟩
    · exact Or.inl h
    · obtain ⟨c6, hc6, hcl6⟩ := Cond.classLink_spec hown hl1 e.platform hpl
      obtain ⟨a8, b8, h1, h2, h3⟩ := hn1
      cases Option.some.inj (h1.symm.trans hcl)
      cases Option.some.inj (h2.symm.trans hc6)
      exact Or.inr ⟨hz1, hz0, _, hcl6, h3⟩) ((T.setTop (F0 m pc ls rest)).pushFrame (.throwing q)) X.warmed (by show T.heap[q]? = some ce; rw [hT]; exact hcell)
  obtain ⟨t, a1, b1⟩ := kk (T.setVm vm') hT (X.noted hW')
  refine ⟨t, ?_, b1⟩
  obtain ⟨hgo, hw⟩ := X.here.throwing (g := F0 m pc ls rest) q
  refine Steps.head hgo hw ?_
  have hstep : (stepThrowing e ((T.setTop (F0 m pc ls rest)).pushFrame (.throwing q)) q (.java (F0 m pc ls rest) :: T.frames.tail)).Is ((((T.setTop (F0 m pc ls rest)).pushFrame (.throwing q)).setVm vm').setFrames (.java (F0 m x.handlerPc ls [.ref q]) :: T.frames.tail)) [] := by
    have hfind : ∀ (Q : Handler → Pre) (E : CtlPost) (d : Bool) (acts : List Action), wp (findHandler (F0 m pc ls rest) q) Q E e d acts ((T.setTop (F0 m pc ls rest)).pushFrame (.throwing q)) ↔ Q (.found x.handlerPc) d acts (((T.setTop (F0 m pc ls rest)).pushFrame (.throwing q)).setVm vm') := fun Q E d acts => by
      rw [W.findHandler_eq (meth := meth) (code := c) X.method' X.code, hsplit]
      exact hf Q E d acts
    simp only [stepThrowing, searchFrame, vmDo]
    generalize hr : Sem.go _ e false [] _ = res
    obtain ⟨as, rfl, ha⟩ := Sem.eq_ok_of hr (a := Handler.found x.handlerPc) (s' := ((T.setTop (F0 m pc ls rest)).pushFrame (.throwing q)).setVm vm') (acts' := []) (by simp [hfind _ _ _ _])
    exact ⟨rfl, ha⟩
  rw [stepThread_throwing (frames_entered X.here.top _), hstep.1]
  obtain ⟨g₀, hg⟩ := Option.isSome_iff_exists.mp X.here.top
  obtain ⟨r, hr⟩ := State.topJava?_eq_some.mp hg
  have hr' : (T.setVm vm').frames = .java g₀ :: r := hr
  rw [State.setTop_of_frames _ hr'] at a1
  rw [State.pushFrame, State.setTop_of_frames _ hr, State.setFrames_setFrames]
  have e1 : ∀ (F G : List Frame), ((T.setFrames F).setVm vm').setFrames G = (T.setVm vm').setFrames G := fun F G => by
    show ((T.setVm vm').setFrames F).setFrames G = _
    rw [State.setFrames_setFrames]
  rw [e1, hr]
  exact a1
end MVK2
