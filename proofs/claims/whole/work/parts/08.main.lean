/-! The small machine's runs are the machine's: the theorem, by the number of turns. -/
/-- all that the tables must say of a program -/
def mvOkAll (Ts : List Cond) (cl : List vw_C) (P : mvP) (sC sn sd : String) : Prop := (∀ w ∈ Ts, goodWord w = true) ∧ mvOkm Ts P ∧ mvOki Ts cl P ∧ mvOko Ts P ∧ mvOkh Ts P ∧ mvOkf Ts cl P ∧ mvOkp Ts cl P ∧ mvOkn Ts cl P ∧ (∀ at0 : ArrayType, at0 = .int ∨ at0 = .boolean ∨ at0 = .long → Cond.arrayClass (newarray.typeOf at0) ∈ Ts) ∧ mvOks Ts P sC sn sd ∧ mvOkk Ts P ∧ ∀ w ∈ mvPw P, mvWarm w = true
section MVM
variable {l : Launch} {N0 : Nat} {xa : Nat → Nat} {cA : Nat → ClassId} {D : va_G} {cl : List vw_C} {Ts : List Cond} {P : mvP} {sC sn sd : String}
/-- the frame's theorem, at n turns -/
def mvThm (l : Launch) (N0 : Nat) (xa : Nat → Nat) (cA : Nat → ClassId) (D : va_G) (cl : List vw_C) (Ts : List Cond) (P : mvP) (sC sn sd : String) (n : Nat) : Prop :=
  ∀ (d j pc : Nat) (lv : mvL) (st : List mvV) (h : mvH) (o : mvO), mvRun P n d j pc lv st h = some o → ∀ (E : mvE), mvPm P j = some E →
    ∀ (p : Program) (e : Env) (R : Room) (s : State) (m : MethodId) (args : Array Value) (below : List Frame) (meth : Method) (c : Code), mvFr p s m args meth c Ts E → mvWorld P N0 xa cA D cl sC sn sd s →
    ∀ (H : Heap) (locs : List Loc) (cells slots : Nat) (ls : Array Slot), lv_has ls E.2.2.1 (mvCl N0 xa lv) → mvAt N0 xa cA D cl h H → va_S (fun q : Nat => N0 ≤ q) s.heap H locs → d ≤ R.frames → 60 * d ≤ R.locals → cells + o.2.2.1 ≤ R.cells → slots + o.2.2.2 ≤ R.slots →
    ∀ (mc ms : Nat), cells + o.2.2.1 ≤ mc → slots + o.2.2.2 ≤ ms →
      W p l e R s m args below meth c H locs cells slots (vx_MQ below (mvQc N0 xa cA D cl o.1 o.2.1) (mvXc N0 xa cA D cl o.1 o.2.1) args s mc ms (fun q : Nat => N0 ≤ q)) (F0 m pc ls (st.map (mvCv N0 xa)))
/-- from the frame to the method -/
theorem mvMt_of (ok : mvOkAll Ts cl P sC sn sd) {n : Nat} (hn : mvThm l N0 xa cA D cl Ts P sC sn sd n) {d j : Nat} {as : List mvV} {h : mvH} {o : mvO} {E : mvE} (hE : mvPm P j = some E) (hj : j ≠ 0) (h1 : mvOne as = true) (hlen : as.length ≤ E.2.2.1) (hrun : mvRun P n d j 0 (mvArgs 0 as) [] h = some o) : mvMt P N0 xa cA D cl sC sn sd l Ts E as h o d := by
  obtain ⟨hcd, hpl, hmax, -⟩ := ok.2.1 j E hE hj
  obtain ⟨ea, el⟩ := mvArgs_eq N0 xa as 0 h1
  have body : ∀ (p : Program) (e : Env) (s : State) (m : MethodId) (args : Array Value) (below : List Frame) (meth : Method) (c : Code) (s₁ : State), BodyLoose p l E.1 (headSpec (mvCd E :: Ts) (mvRm d o.2.2.1 o.2.2.2)) E.2.1 E.2.2.1 E.2.2.2.1 e s m args below meth c s₁ → c.maxLocals = E.2.2.1 → c.exceptionTable.toList = tableOf E.2.2.2.2 → mvPre P N0 xa cA D cl sC sn sd as h args s →
      W p l e (headSpec (mvCd E :: Ts) (mvRm d o.2.2.1 o.2.2.2)).room s m args below meth c s.heap [] 0 0 (vx_MQ below (mvQc N0 xa cA D cl o.1 o.2.1) (mvXc N0 xa cA D cl o.1 o.2.1) args s o.2.2.1 o.2.2.2 (fun q : Nat => N0 ≤ q)) (entryFrame m args E.2.2.1) := by
    intro p e s m args below meth c s₁ B hml ht hv
    obtain ⟨rfl, hw, hat⟩ := hv
    have hts0 := atoms_spec (ws := mvCd E :: Ts) B.pre
    have hl := lv_entry (as.map (mvCv N0 xa)) (n := E.2.2.1) (by rw [el]; exact hlen)
    rw [lg_entry_eq]
    rw [ea] at hl
    exact hn d j 0 (mvArgs 0 as) [] h o hrun E hE p e _ s m _ below meth c ⟨B.exec, B.bytes, hml, B.returns, B.notSynchronized, findClass_of_methodNamed B.named, (name_of_methodNamed B.named B.method).1, fun w hw => hts0 w (List.mem_cons_of_mem _ hw), ht⟩ hw s.heap [] 0 0 _ hl hat va_S.rf (Nat.le_refl _) (Nat.le_refl _) (Nat.le_of_eq (Nat.zero_add _)) (Nat.le_of_eq (Nat.zero_add _)) _ _ (Nat.le_of_eq (Nat.zero_add _)) (Nat.le_of_eq (Nat.zero_add _))
  cases hh : E.2.2.2.2 with
  | nil =>
    refine vx_ofW (ws' := Ts) (cc := E.2.1) (maxL := E.2.2.1) (ret := E.2.2.2.1) hpl (by simp only [mvCd, hh]) ?_
    intro p e s m args below meth c s₁ B hml ht hv
    refine body p e s m args below meth c s₁ B hml ?_ hv
    rw [hh]
    exact List.eq_nil_iff_forall_not_mem.mpr fun x hx => ht x hx
  | cons q t =>
    refine vx_ofWH (ws' := Ts) (cc := E.2.1) (maxL := E.2.2.1) (ret := E.2.2.2.1) (hh := q :: t) hpl (by simp only [mvCd, hh]) ?_
    intro p e s m args below meth c s₁ B hml hv
    refine body p e s m args below meth c s₁ B hml ?_ hv
    rw [hh]
    have h9 := atoms_spec (ws := mvCd E :: Ts) B.pre (mvCd E) List.mem_cons_self
    simp only [mvCd, hh] at h9
    exact vx_table (x := E.1) B h9
theorem mvGood (ok : mvOkAll Ts cl P sC sn sd) {j : Nat} {E : mvE} (hE : mvPm P j = some E) (hj : j ≠ 0) : GoodIn Ts (mvCd E :: Ts) := by
  intro w hw
  rcases List.mem_cons.mp hw with rfl | hw
  · exact ⟨(ok.2.1 j E hE hj).1, good_of_word (ok.1 _ (ok.2.1 j E hE hj).1)⟩
  · exact ⟨hw, good_of_word (ok.1 _ hw)⟩
/-- a step over the cells -/
theorem mvG_ok {p : Program} {e : Env} {R : Room} {s : State} {m : MethodId} {args : Array Value} {below : List Frame} {meth : Method} {c : Code} {H : Heap} {locs : List Loc} {cells slots d j pc len : Nat} {Q : State → Prop} {ls : Array Slot} {E : mvE} {st st' : List mvV} {h h' : mvH} {i : Instr} {pc' dc ds : Nat} {lv0 : List (Nat × Value)}
    (ok : mvOkAll Ts cl P sC sn sd) (hE : mvPm P j = some E) (C : mvFr p s m args meth c Ts E) (hw : mvWorld P N0 xa cA D cl sC sn sd s) (hl : lv_has ls E.2.2.1 lv0) (hat : mvAt N0 xa cA D cl h H) (hS : va_S (fun q : Nat => N0 ≤ q) s.heap H locs) (hd : d ≤ R.frames) (hd2 : 60 * d ≤ R.locals)
    (hs : mvG P j d i len pc st h = some (pc', st', h', dc, ds)) (hdg : decode E.2.1 pc = .ok (i, len)) (hcells : cells + dc ≤ R.cells) (hslots : slots + ds ≤ R.slots)
    (k : ∀ (H1 : Heap) (locs1 : List Loc), mvAt N0 xa cA D cl h' H1 → va_S (fun q : Nat => N0 ≤ q) s.heap H1 locs1 → W p l e R s m args below meth c H1 locs1 (cells + dc) (slots + ds) Q (F0 m pc' ls (st'.map (mvCv N0 xa)))) :
    W p l e R s m args below meth c H locs cells slots Q (F0 m pc ls (st.map (mvCv N0 xa))) := by
  obtain ⟨og, om, oi, oo, oh, of, op, on, oa, os, okk, oww⟩ := ok
  obtain ⟨hx, hb, hml, hr, hlocks, hown, hnm, hts, htab⟩ := C
  obtain ⟨hK, hO, hZ, -, -, -, -, hNw⟩ := hw
  obtain ⟨hP, hF⟩ := hat
  unfold mvG at hs
  split at hs
  · rename_i st1 h1 hg
    split at hs
    · rename_i hlen
      subst hlen
      cases hs
      exact mvG1_ok hx hb hown hnm hts hK hE of op hP hS hF hg hdg (fun H1 locs1 a1 a2 a3 => k H1 locs1 ⟨a1, a3⟩ a2)
    · cases hs
  · split at hs
    · rename_i st1 h1 hg
      split at hs
      · rename_i hlen
        subst hlen
        cases hs
        exact mvG2_ok hx hb hK hO hP hS hF hg hdg (fun H1 locs1 a1 a2 a3 => k H1 locs1 ⟨a1, a3⟩ a2)
      · cases hs
    · split at hs
      · rename_i st1 h1 ns n hg
        split at hs
        · rename_i hlen
          subst hlen
          cases hs
          exact mvG3_ok hx hb hown hts hK hE on oa hP hS hF hg hdg hcells hslots (fun H1 locs1 a1 a2 a3 => k H1 locs1 ⟨a1, a3⟩ a2)
        · cases hs
      · split at hs
        · rename_i v n hg
          split at hs
          · rename_i hlen
            subst hlen
            cases hs
            exact mvG4_ok hx hb hown hts hE os okk hZ hNw hS hg hdg (k H locs ⟨hP, hF⟩ hS)
          · cases hs
        · split at hs
          · rename_i idx
            split at hs
            · rename_i a r
              split at hs
              · rename_i hcd
                obtain ⟨ho, hlen, hsum, hd1⟩ := hcd
                subst hlen
                cases hs
                refine W.objInit hx hb hown (hts _ (oo.2.2.1 j E _ hE ho)) (hts _ oo.1) (hts _ oo.2.1) rfl (hl.1.trans hml.symm) rfl hdg (Nat.le_trans hd1 hd) ?_ (k H locs ⟨hP, hF⟩ hS)
                have e1 := mvSum_eq N0 xa st'
                have e2 : 60 ≤ 60 * d := Nat.le_mul_of_pos_right 60 hd1
                show 2 * 0 + _ + 12 ≤ R.locals
                omega
              · cases hs
            · cases hs
          · cases hs
/-- a call of a constructor -/
theorem mvRunI {p : Program} {e : Env} {R : Room} {s : State} {m : MethodId} {args : Array Value} {below : List Frame} {meth : Method} {c : Code} {H : Heap} {locs : List Loc} {cells slots : Nat} {y : MethodName} {bytes cc : ByteArray} {maxL nL mc ms n index : Nat} {ws : List Cond} {rm : Room} {Pc : Array Value → State → Prop} {Qc : Array Value → State → Outcome → State → Prop} {XC : String → State → State → Prop} {free : Addr → Prop} {Ts : List Cond} {own : String} {b : Addr} {As rest : List Value} {g : JFrame}
    (S : CallFix p m c cc nL s args Ts own) (hM : vx_Met l y ws rm Pc Qc XC mc ms free) (cw : CallB R s args own index y bytes maxL none ws rm mc ms n ∧ y.name = "<init>" ∧ (Cond.instanceMethod y).before args s = true) (hp : PreS s H Pc (.ref b :: As))
    (hg : g.method = m) (hn : As.length = n) (hsize : g.locals.size = nL) (hstack : g.stack = As.reverse ++ .ref b :: rest) (hW : 2 * g.monitorRoom + (rest.map fun v => v.category).sum ≤ 8) (hdg : decode cc g.pc = .ok (.invokespecial index, 3)) (hf : cells + mc ≤ R.cells ∧ slots + ms ≤ R.slots) :
    vx_Run p l e R s m args below meth c H locs cells slots mc ms g rest (Qc (Value.ref b :: As).toArray) XC free := by
  have hK : vx_Back l R p e below s args y 3 8 (PreOf R mc ms Pc) (PostOf Qc mc ms free) (vx_Post XC mc ms free) := vx_callBack cw.1 hM hp.1
  obtain ⟨⟨-, -, -, -, -, -, hcode, -, hy, hlen, hl⟩, hy1, hin⟩ := cw
  obtain ⟨hx, hb, hml, ho, -⟩ := S
  subst hg
  intro T hT X
  have hpl : e.platform.magicAccessors = ({} : Platform).magicAccessors := by rw [X.admits.platform]
  obtain ⟨mk, methM, cM, kP, vm₁, hnamed, hmethM, hcodeM, -, hlocalsM, -, hkP, -, hW₁, hstep₁⟩ := Steps.initColdArgs (e := e) X.here hx X.warmed hpl ho hy1 hy hl hin hcode (f := g) rfl (fun sig h => hn.trans (hlen sig h)) hstack (by rw [hb]; exact hdg)
  have X₁ := X.noted hW₁
  rcases hK g.method meth c ⟨T.setVm vm₁, locs, cells, slots⟩ { g with stack := rest } (.invokespecial index) mk (Value.ref b :: As).toArray X₁ rfl (hsize.trans hml.symm) (by rw [hb]; exact hdg) hW (X₁.named hnamed) ⟨hf.1, hf.2, hp.2 (T.setVm vm₁) hT X₁.warmed⟩ with ⟨v, ⟨U', l2, c2, s2⟩, X', ⟨g', mk', t, L, e1, e2, hq, h1, hL, h2, h3⟩, st⟩ | ⟨q, ⟨U', l2, c2, s2⟩, X', ⟨g', mk', t, L, E, ce, e1, e2, hq, hce, hcv, hcl, h1, hL, h2, h3⟩, st⟩
  · dsimp only [Pt.U, Pt.locs, Pt.cells, Pt.slots] at X' e1 e2 h1 h2 h3 st
    subst h1; subst h2; subst h3
    exact Or.inl ⟨v, (T.setVm vm₁).calling g' mk' (Value.ref b :: As).toArray, t, U', L, hT, X', hL, e1, e2, hq, fun target h => hstep₁ _ fun acts => by rw [doInvoke_state]; exact st.trans h⟩
  · dsimp only [Pt.U, Pt.locs, Pt.cells, Pt.slots] at X' e1 e2 h1 h2 h3 st hcl
    subst h1; subst h2; subst h3
    exact Or.inr ⟨q, (T.setVm vm₁).calling g' mk' (Value.ref b :: As).toArray, t, U', L, E, ce, hT, X', hL, e1, e2, hq, hce, hcv, vx_cls hW₁ hcl, hstep₁ _ fun acts => by rw [doInvoke_state]; exact st⟩
/-- a call of a constructor of a nest mate -/
theorem mvRunIN {p : Program} {e : Env} {R : Room} {s : State} {m : MethodId} {args : Array Value} {below : List Frame} {meth : Method} {c : Code} {H : Heap} {locs : List Loc} {cells slots : Nat} {y : MethodName} {bytes cc : ByteArray} {maxL nL mc ms n index : Nat} {ws : List Cond} {rm : Room} {Pc : Array Value → State → Prop} {Qc : Array Value → State → Outcome → State → Prop} {XC : String → State → State → Prop} {free : Addr → Prop} {Ts : List Cond} {own host : String} {b : Addr} {As rest : List Value} {g : JFrame}
    (S : CallFix p m c cc nL s args Ts own) (hM : vx_Met l y ws rm Pc Qc XC mc ms free) (cw : va_CN R s args own index y host bytes maxL none ws rm mc ms n ∧ y.name = "<init>" ∧ (Cond.instanceMethod y).before args s = true) (hp : PreS s H Pc (.ref b :: As))
    (hg : g.method = m) (hn : As.length = n) (hsize : g.locals.size = nL) (hstack : g.stack = As.reverse ++ .ref b :: rest) (hW : 2 * g.monitorRoom + (rest.map fun v => v.category).sum ≤ 8) (hdg : decode cc g.pc = .ok (.invokespecial index, 3)) (hf : cells + mc ≤ R.cells ∧ slots + ms ≤ R.slots) :
    vx_Run p l e R s m args below meth c H locs cells slots mc ms g rest (Qc (Value.ref b :: As).toArray) XC free := by
  obtain ⟨⟨⟨hrc, hrs, hfr, hlo, hws, hcw⟩, hcode, hini, hy, hlen, hl⟩, hy1, hin⟩ := cw
  have hK : vx_Back l R p e below s args y 3 8 (PreOf R mc ms Pc) (PostOf Qc mc ms free) (vx_Post XC mc ms free) := vx_back (bytes := bytes) (maxL := maxL) (ret := none) hM hp.1 hrc hrs hfr hlo hws hcw (fun a' U hW => word_at hW (Or.inl (by first | rfl | simp [Cond.onTables, Cond.keeps, Cond.steady])) hini)
  obtain ⟨hx, hb, hml, ho, -⟩ := S
  subst hg
  intro T hT X
  have hpl : e.platform.magicAccessors = ({} : Platform).magicAccessors := by rw [X.admits.platform]
  obtain ⟨mk, methM, cM, kP, vm₁, hnamed, hmethM, hcodeM, -, hlocalsM, -, hkP, -, hW₁, hstep₁⟩ := Steps.initColdArgsNest (e := e) X.here hx X.warmed hpl ho hy1 hy hl hin hcode (f := g) rfl (fun sig h => hn.trans (hlen sig h)) hstack (by rw [hb]; exact hdg)
  have X₁ := X.noted hW₁
  rcases hK g.method meth c ⟨T.setVm vm₁, locs, cells, slots⟩ { g with stack := rest } (.invokespecial index) mk (Value.ref b :: As).toArray X₁ rfl (hsize.trans hml.symm) (by rw [hb]; exact hdg) hW (X₁.named hnamed) ⟨hf.1, hf.2, hp.2 (T.setVm vm₁) hT X₁.warmed⟩ with ⟨v, ⟨U', l2, c2, s2⟩, X', ⟨g', mk', t, L, e1, e2, hq, h1, hL, h2, h3⟩, st⟩ | ⟨q, ⟨U', l2, c2, s2⟩, X', ⟨g', mk', t, L, E, ce, e1, e2, hq, hce, hcv, hcl, h1, hL, h2, h3⟩, st⟩
  · dsimp only [Pt.U, Pt.locs, Pt.cells, Pt.slots] at X' e1 e2 h1 h2 h3 st
    subst h1; subst h2; subst h3
    exact Or.inl ⟨v, (T.setVm vm₁).calling g' mk' (Value.ref b :: As).toArray, t, U', L, hT, X', hL, e1, e2, hq, fun target h => hstep₁ _ fun acts => by rw [doInvoke_state]; exact st.trans h⟩
  · dsimp only [Pt.U, Pt.locs, Pt.cells, Pt.slots] at X' e1 e2 h1 h2 h3 st hcl
    subst h1; subst h2; subst h3
    exact Or.inr ⟨q, (T.setVm vm₁).calling g' mk' (Value.ref b :: As).toArray, t, U', L, E, ce, hT, X', hL, e1, e2, hq, hce, hcv, vx_cls hW₁ hcl, hstep₁ _ fun acts => by rw [doInvoke_state]; exact st⟩
/-- a call of a method whose contract stands -/
theorem mvRunCall {p : Program} {e : Env} {R : Room} {s : State} {m : MethodId} {args : Array Value} {below : List Frame} {meth : Method} {c : Code} {H : Heap} {locs : List Loc} {cells slots j pc len j' d' : Nat} {ls : Array Slot} {E : mvE} {st as rest : List mvV} {h : mvH} {i : Instr} {oC : mvO} {lv0 : List (Nat × Value)}
    (ok : mvOkAll Ts cl P sC sn sd) (hE : mvPm P j = some E) (C : mvFr p s m args meth c Ts E) (hw : mvWorld P N0 xa cA D cl sC sn sd s) (hl : lv_has ls E.2.2.1 lv0) (hat : mvAt N0 xa cA D cl h H) (hS : va_S (fun q : Nat => N0 ≤ q) s.heap H locs)
    (hs : mvInv P j i len st h = some (j', as, rest)) (hdg : decode E.2.1 pc = .ok (i, len)) (hsum : mvSum rest ≤ 8) (hd : d' + 1 ≤ R.frames) (hd2 : 60 * (d' + 1) ≤ R.locals) (hcells : cells + oC.2.2.1 ≤ R.cells) (hslots : slots + oC.2.2.2 ≤ R.slots)
    (hM : ∀ E', mvPm P j' = some E' → j' ≠ 0 → as.length ≤ E'.2.2.1 → mvMt P N0 xa cA D cl sC sn sd l Ts E' as h oC d') :
    len = 3 ∧ ∃ a, vx_Run p l e R s m args below meth c H locs cells slots oC.2.2.1 oC.2.2.2 (F0 m pc ls (st.map (mvCv N0 xa))) (rest.map (mvCv N0 xa)) (mvQc N0 xa cA D cl oC.1 oC.2.1 a) (mvXc N0 xa cA D cl oC.1 oC.2.1) (fun q : Nat => N0 ≤ q) := by
  have ok' := ok
  obtain ⟨og, om, oi, oo, oh, of, op, on, oa, os, okk, oww⟩ := ok'
  obtain ⟨hx, hb, hml, hr, hlocks, hown, hnm, hts, htab⟩ := C
  have S : CallFix p m c E.2.1 E.2.2.1 s args Ts E.1.cls := ⟨hx, hb, hml, hown, hts⟩
  have hW : 2 * (F0 m pc ls (st.map (mvCv N0 xa))).monitorRoom + ((rest.map (mvCv N0 xa)).map fun v => v.category).sum ≤ 8 := lv_room (by rw [mvSum_eq]; exact hsum)
  have hpre : ∀ U : State, U.heap = H → s.WarmedH U.vm → mvPre P N0 xa cA D cl sC sn sd as h (as.map (mvCv N0 xa)).toArray U := fun U hU hWm => ⟨rfl, mvWorld_go oww hw hWm hS hU, by rw [hU]; exact hat⟩
  have hloc : ∀ mx : Nat, mx ≤ 41 → 8 + (mx + 11) + (mvRm d' oC.2.2.1 oC.2.2.2).locals ≤ R.locals := fun mx hmx => by
    show 8 + (mx + 11) + 60 * d' ≤ R.locals
    omega
  have hsplit : ∀ n, n ≤ st.length → st.map (mvCv N0 xa) = (((st.take n).reverse).map (mvCv N0 xa)).reverse ++ (st.drop n).map (mvCv N0 xa) := fun n _ => by
    rw [List.map_reverse, List.reverse_reverse, ← List.map_append, List.take_append_drop]
  have hcw : ∀ (idx j1 n ci : Nat), mvPi P j idx = some (j1, n, ci) → ∀ E', mvPm P j1 = some E' → j1 ≠ 0 → E'.2.2.2.2 = [] → Cond.methodLink E.1.cls idx E'.1 ∈ Ts → Cond.initialized E'.1.cls ∈ Ts → (parseMethodDescriptor E'.1.desc).map (fun d => d.parameters.length) = some n → CallB R s args E.1.cls idx E'.1 E'.2.1 E'.2.2.1 E'.2.2.2.1 (mvCd E' :: Ts) (mvRm d' oC.2.2.1 oC.2.2.2) oC.2.2.1 oC.2.2.2 n := by
    intro idx j1 n ci hi E' hE' hj1 hh h1 h2 h3
    obtain ⟨-, -, hmx, hmh⟩ := om j1 E' hE' hj1
    exact callB_of (ws' := Ts) n hts (mvGood ok hE' hj1) (by simp only [mvCd, hh]) rfl rfl (hts _ h2) (hts _ h1) ⟨hmh.1, hmh.2, h3⟩ ⟨hd, hloc _ hmx⟩
  unfold mvInv at hs
  split at hs
  · rename_i idx
    split at hs
    · rename_i j1 n hi
      split at hs
      · rename_i hn
        obtain ⟨hn, hlen⟩ := hn
        subst hlen
        cases hs
        obtain ⟨E', hE', hj1, h1, h2, h3, h4, -, -, -⟩ := oi j E idx _ n 100 hE hi
        have h1 := h1 (by decide)
        obtain ⟨h4, h5⟩ := h4 rfl
        have hal : ((st.take n).reverse).length = n := by rw [List.length_reverse, List.length_take]; omega
        have hM' := hM E' hE' hj1 (by rw [hal]; exact h5)
        refine ⟨rfl, (((st.take n).reverse).map (mvCv N0 xa)).toArray, ?_⟩
        cases hh : E'.2.2.2.2 with
        | nil => exact vx_runS (g := F0 m pc ls (st.map (mvCv N0 xa))) S hM' ⟨hcw idx _ n 100 hi E' hE' hj1 hh h1 h2 h3, hts _ h4⟩ ⟨mvPre_blind oww _ _, hpre⟩ rfl (by rw [List.length_map, hal]) hl.1 (hsplit n hn) hW hdg ⟨hcells, hslots⟩
        | cons q t =>
          obtain ⟨-, -, hmx, hmh⟩ := om _ E' hE' hj1
          have hG : GoodIn Ts (va_wsS E.1.cls idx E'.1 (mvCd E' :: Ts)) := by
            intro w hw9
            rcases List.mem_append.mp hw9 with h9 | h9
            · simp only [List.mem_cons, List.not_mem_nil, or_false] at h9
              rcases h9 with rfl | rfl | rfl
              · exact ⟨h1, good_of_word (og _ h1)⟩
              · exact ⟨h4, good_of_word (og _ h4)⟩
              · exact ⟨h2, good_of_word (og _ h2)⟩
            · exact mvGood ok hE' hj1 w h9
          exact vx_runSX (g := F0 m pc ls (st.map (mvCv N0 xa))) S hM' (vx_cwSW (ws' := Ts) (bytes := E'.2.1) (maxL := E'.2.2.1) (ret := E'.2.2.2.1) (hh := q :: t) n hts hG (by simp only [mvCd, hh]) rfl rfl ⟨hmh.1, hmh.2, h3⟩ ⟨hd, hloc _ hmx⟩) ⟨mvPre_blind oww _ _, hpre⟩ rfl (by rw [List.length_map, hal]) hl.1 (hsplit n hn) hW hdg ⟨hcells, hslots⟩
      · cases hs
    · cases hs
  · rename_i idx
    split at hs
    · rename_i j1 n ci hi
      split at hs
      · rename_i a r hdr
        split at hs
        · rename_i ci' fs hc
          split at hs
          · rename_i hn
            obtain ⟨hn, hlen, hci, hc100⟩ := hn
            subst hlen
            subst hci
            cases hs
            obtain ⟨E', hE', hj1, h1, h2, h3, -, -, -, h4⟩ := oi j E idx _ n ci' hE hi
            have h1 := h1 (by omega)
            obtain ⟨h4, h5, hh, h6, q, hq1, hq2⟩ := h4 hc100
            have hal : ((st.take n).reverse).length = n := by rw [List.length_reverse, List.length_take]; omega
            have hM' := hM E' hE' hj1 (by rw [List.length_cons, hal]; exact h6)
            refine ⟨rfl, (Value.ref (N0 + a) :: ((st.take n).reverse).map (mvCv N0 xa)).toArray, ?_⟩
            have hrecv := va_recv hw.1 hat.1 hq1 (mvWs_at hc)
            rw [hq2] at hrecv
            refine vx_runV (g := F0 m pc ls (st.map (mvCv N0 xa))) (C := E'.1.cls) (b := N0 + a) (As := ((st.take n).reverse).map (mvCv N0 xa)) S hM' ⟨hcw idx _ n ci' hi E' hE' hj1 hh h1 h2 h3, hts _ h4, hts _ h5⟩ ⟨mvPre_blind oww _ _, hrecv, hpre⟩ rfl (by rw [List.length_map, hal]) hl.1 ?_ hW hdg ⟨hcells, hslots⟩
            rw [show (F0 m pc ls (st.map (mvCv N0 xa))).stack = st.map (mvCv N0 xa) from rfl, hsplit n hn, hdr]
            rfl
          · cases hs
        · cases hs
      · cases hs
    · cases hs
  · rename_i idx
    split at hs
    · rename_i j1 n ci hi
      split at hs
      · rename_i a r hdr
        split at hs
        · rename_i hn
          obtain ⟨hn, hlen, hci⟩ := hn
          subst hlen
          cases hs
          have hal : ((st.take n).reverse).length = n := by rw [List.length_reverse, List.length_take]; omega
          have hstk : (F0 m pc ls (st.map (mvCv N0 xa))).stack = (((st.take n).reverse).map (mvCv N0 xa)).reverse ++ .ref (N0 + a) :: rest.map (mvCv N0 xa) := by
            rw [show (F0 m pc ls (st.map (mvCv N0 xa))).stack = st.map (mvCv N0 xa) from rfl, hsplit n hn, hdr]
            rfl
          refine ⟨rfl, (Value.ref (N0 + a) :: ((st.take n).reverse).map (mvCv N0 xa)).toArray, ?_⟩
          rcases hci with rfl | rfl
          · obtain ⟨E', hE', hj1, h1, h2, h3, -, h4, -⟩ := oi j E idx _ n 101 hE hi
            have h1 := h1 (by decide)
            obtain ⟨h4, h5, hret, hh, h6⟩ := h4 rfl
            have hM' := hM E' hE' hj1 (by rw [List.length_cons, hal]; exact h6)
            have hcb := hcw idx _ n 101 hi E' hE' hj1 hh h1 h2 h3
            rw [hret] at hcb
            exact mvRunI (g := F0 m pc ls (st.map (mvCv N0 xa))) (b := N0 + a) (As := ((st.take n).reverse).map (mvCv N0 xa)) S hM' ⟨hcb, h5, hts _ h4⟩ ⟨mvPre_blind oww _ _, hpre⟩ rfl (by rw [List.length_map, hal]) hl.1 hstk hW hdg ⟨hcells, hslots⟩
          · obtain ⟨E', hE', hj1, -, h2, h3, -, -, h4, -⟩ := oi j E idx _ n 102 hE hi
            obtain ⟨h4, h5, hret, hh, h6, host, h7⟩ := h4 rfl
            have hM' := hM E' hE' hj1 (by rw [List.length_cons, hal]; exact h6)
            obtain ⟨-, -, hmx, hmh⟩ := om _ E' hE' hj1
            have hcn := va_cnB (R := R) (rm := mvRm d' oC.2.2.1 oC.2.2.2) (mc := oC.2.2.1) (ms := oC.2.2.2) (bytes := E'.2.1) (maxL := E'.2.2.1) (ret := none) (ws' := Ts) n hts (mvGood ok hE' hj1) (by simp only [mvCd, hh, hret]) rfl rfl (hw.2.2.2.2.2.2.2 _ h7) (hts _ h2) ⟨hmh.1, hmh.2, h3⟩ ⟨hd, hloc _ hmx⟩
            exact mvRunIN (g := F0 m pc ls (st.map (mvCv N0 xa))) (b := N0 + a) (As := ((st.take n).reverse).map (mvCv N0 xa)) S hM' ⟨hcn, h5, hts _ h4⟩ ⟨mvPre_blind oww _ _, hpre⟩ rfl (by rw [List.length_map, hal]) hl.1 hstk hW hdg ⟨hcells, hslots⟩
        · cases hs
      · cases hs
    · cases hs
  · cases hs
theorem mvCpl_eq (f g : List (Nat × Int32)) (sp dp : Nat) : ∀ n k, mvLk (mvCpl f g sp dp n) k = va_cpy (mvLk f) (mvLk g) sp dp n k
  | 0, k => by
    show mvLk g k = if dp ≤ k ∧ k < dp + 0 then _ else _
    rw [if_neg (by omega)]
  | n + 1, k => by
    show (if k = dp + n then mvLk f (sp + n) else mvLk (mvCpl f g sp dp n) k) = if dp ≤ k ∧ k < dp + (n + 1) then mvLk f (sp + (k - dp)) else mvLk g k
    rw [mvCpl_eq f g sp dp n k]
    unfold va_cpy
    by_cases h1 : k = dp + n
    · subst h1
      rw [if_pos rfl, if_pos (by omega)]
      congr 1
      omega
    · rw [if_neg h1]
      by_cases h2 : dp ≤ k ∧ k < dp + n
      · rw [if_pos h2, if_pos (by omega)]
      · rw [if_neg h2, if_neg (by omega)]
/-- System.arraycopy -/
theorem mvCq_ok {p : Program} {e : Env} {R : Room} {s : State} {m : MethodId} {args : Array Value} {below : List Frame} {meth : Method} {c : Code} {H : Heap} {locs : List Loc} {cells slots d j pc len : Nat} {Q : State → Prop} {ls : Array Slot} {E : mvE} {st st' : List mvV} {h h' : mvH} {i : Instr} {lv0 : List (Nat × Value)}
    (ok : mvOkAll Ts cl P sC sn sd) (hE : mvPm P j = some E) (C : mvFr p s m args meth c Ts E) (hw : mvWorld P N0 xa cA D cl sC sn sd s) (hl : lv_has ls E.2.2.1 lv0) (hat : mvAt N0 xa cA D cl h H) (hS : va_S (fun q : Nat => N0 ≤ q) s.heap H locs) (hd : d + 1 ≤ R.frames) (hd2 : 60 * (d + 1) ≤ R.locals)
    (hs : mvCq P j i len st h = some (st', h')) (hdg : decode E.2.1 pc = .ok (i, len))
    (k : ∀ (H1 : Heap) (locs1 : List Loc), mvAt N0 xa cA D cl h' H1 → va_S (fun q : Nat => N0 ≤ q) s.heap H1 locs1 → W p l e R s m args below meth c H1 locs1 cells slots Q (F0 m (pc + 3) ls (st'.map (mvCv N0 xa)))) :
    W p l e R s m args below meth c H locs cells slots Q (F0 m pc ls (st.map (mvCv N0 xa))) := by
  obtain ⟨og, om, oi, oo, oh, of, op, on, oa, os, okk, oww⟩ := ok
  obtain ⟨hx, hb, hml, hr, hlocks, hown, hnm, hts, htab⟩ := C
  obtain ⟨hK, hO, hZ, -, -, -, -, hNw⟩ := hw
  obtain ⟨hP, hF⟩ := hat
  unfold mvCq at hs
  split at hs
  · rename_i idx
    split at hs
    · rename_i n dp a sp a0 r
      split at hs
      · rename_i n0 f n1 g hc0 hc1
        split at hs
        · rename_i hcd
          obtain ⟨ho, hlen, hsum, h1, h2, h3, h4, h5⟩ := hcd
          subst hlen
          cases hs
          obtain ⟨w1, w2, w3, w4⟩ := oo.2.2.2.1 j E idx hE ho
          refine va_copyi (tys := mvTys cA) (A := fun q : Nat => N0 ≤ q) (H0 := s.heap) (locs := locs) hx hb (hml.trans hl.1.symm) hown (hts _ w1) (hts _ w2) (hts _ w3) (hts _ w4) hK hP (mvWs_D N0 xa cA h.2) hS a0 a 0 0 (mvWs_at hc0) (mvWs_at hc1) rfl rfl rfl h1 h2 h3 h4 h5 (fun _ _ => rfl) (Nat.le_trans (Nat.le_add_left _ _) hd) ?_ hdg ?_
          · have e1 := mvSum_eq N0 xa st'
            have e2 : nativeFrameWords "java/lang/System" "arraycopy" 5 = 7 := rfl
            rw [e2]
            omega
          · intro H1 locs1 a1 a2 a3
            refine k H1 locs1 ⟨?_, fun q => by cases q⟩ a3
            rw [mvWs_set]
            have e3 : mvCE N0 xa cA (.inl (0, n1, .inl (mvCpl f g sp.toNatClampNeg dp.toNatClampNeg n.toNatClampNeg))) = .inl (cA 0, n1, .inl (va_cpy (mvLk f) (mvLk g) sp.toNatClampNeg dp.toNatClampNeg n.toNatClampNeg)) := by
              show (Sum.inl (cA 0, n1, Sum.inl (mvLk (mvCpl f g sp.toNatClampNeg dp.toNatClampNeg n.toNatClampNeg))) : va_E) = _
              rw [show mvLk (mvCpl f g sp.toNatClampNeg dp.toNatClampNeg n.toNatClampNeg) = va_cpy (mvLk f) (mvLk g) sp.toNatClampNeg dp.toNatClampNeg n.toNatClampNeg from funext (mvCpl_eq f g _ _ _)]
            rw [e3]
            exact a1
        · cases hs
      · cases hs
    · cases hs
  · cases hs
theorem mvCp_ok {p : Program} {e : Env} {R : Room} {s : State} {m : MethodId} {args : Array Value} {below : List Frame} {meth : Method} {c : Code} {H : Heap} {locs : List Loc} {cells slots d j pc len : Nat} {Q : State → Prop} {ls : Array Slot} {E : mvE} {st st' : List mvV} {h h' : mvH} {i : Instr} {lv0 : List (Nat × Value)}
    (ok : mvOkAll Ts cl P sC sn sd) (hE : mvPm P j = some E) (C : mvFr p s m args meth c Ts E) (hw : mvWorld P N0 xa cA D cl sC sn sd s) (hl : lv_has ls E.2.2.1 lv0) (hat : mvAt N0 xa cA D cl h H) (hS : va_S (fun q : Nat => N0 ≤ q) s.heap H locs) (hd : d + 1 ≤ R.frames) (hd2 : 60 * (d + 1) ≤ R.locals) (hcc : cells ≤ R.cells) (hss : slots ≤ R.slots)
    (hs : mvCp P j i len st h = some (st', h')) (hdg : decode E.2.1 pc = .ok (i, len))
    (k : ∀ (H1 : Heap) (locs1 : List Loc), mvAt N0 xa cA D cl h' H1 → va_S (fun q : Nat => N0 ≤ q) s.heap H1 locs1 → W p l e R s m args below meth c H1 locs1 cells slots Q (F0 m (pc + 3) ls (st'.map (mvCv N0 xa)))) :
    len = 3 ∧ W p l e R s m args below meth c H locs cells slots Q (F0 m pc ls (st.map (mvCv N0 xa))) := by
  unfold mvCp at hs
  split at hs
  · rename_i st1 hm
    cases hs
    have ok' := ok
    obtain ⟨og, om, oi, oo, oh, of, op, on, oa, os, okk, oww⟩ := ok'
    have C' := C
    obtain ⟨hx, hb, hml, hr, hlocks, hown, hnm, hts, htab⟩ := C'
    have k1 := k H locs hat hS
    have hmx := hml.trans hl.1.symm
    unfold mvMx at hm
    split at hm
    · rename_i idx
      split at hm
      · rename_i y x r
        have e1 := mvSum_eq N0 xa r
        split at hm
        · rename_i hcd
          obtain ⟨ho, hlen, hsum⟩ := hcd
          subst hlen
          cases hm
          obtain ⟨w1, w2, w3, w4⟩ := oo.2.2.2.2.1 j E idx hE ho
          exact ⟨rfl, va_mmax hx hb hmx hown (hts _ w1) (hts _ w2) (hts _ w3) (hts _ w4) (Nat.le_trans (Nat.le_add_left _ _) hd) (by omega) hcc hss hdg k1⟩
        · split at hm
          · rename_i hcd
            obtain ⟨ho, hlen, hsum⟩ := hcd
            subst hlen
            cases hm
            obtain ⟨w1, w2, w3, w4⟩ := oo.2.2.2.2.2 j E idx hE ho
            exact ⟨rfl, va_mmin hx hb hmx hown (hts _ w1) (hts _ w2) (hts _ w3) (hts _ w4) (Nat.le_trans (Nat.le_add_left _ _) hd) (by omega) hcc hss hdg k1⟩
          · cases hm
      · cases hm
    · cases hm
  · have hlen : len = 3 := by
      unfold mvCq at hs
      split at hs
      · split at hs
        · split at hs
          · split at hs
            · rename_i hcd; exact hcd.2.1
            · cases hs
          · cases hs
        · cases hs
      · cases hs
    subst hlen
    exact ⟨rfl, mvCq_ok ok hE C hw hl hat hS hd hd2 hs hdg k⟩
/-- the theorem -/
theorem mvSound (ok : mvOkAll Ts cl P sC sn sd) (hB : ∀ (j : Nat) (E : mvE) (b : List mvV → mvH → Option mvO) (as : List mvV) (h : mvH) (o : mvO) (d : Nat), mvPm P j = some E → mvPb P j = some b → b as h = some o → 8 ≤ d → mvMt P N0 xa cA D cl sC sn sd l Ts E as h o d) :
    ∀ n, mvThm l N0 xa cA D cl Ts P sC sn sd n := by
  intro n
  induction n with
  | zero => intro d j pc lv st h o hrun; cases hrun
  | succ n ih =>
    intro d j pc lv st h o hrun E hE p e R s m args below meth c C hw H locs cells slots ls hl hat hS hd hd2 hcells hslots mc ms hmc hms
    have C' := C
    obtain ⟨hx, hb, hml, hr, hlocks, hown, hnm, hts, htab⟩ := C'
    rw [mvRun] at hrun
    rw [hE] at hrun
    simp only at hrun
    split at hrun
    · cases hrun
    · rename_i i len hdg
      split at hrun
      · rename_i pc' lv' st' hs
        exact mvF_ok hx hb hl hs hdg (fun ls' hl' => ih d j pc' lv' st' h o hrun E hE p e R s m args below meth c C hw H locs cells slots ls' hl' hat hS hd hd2 hcells hslots mc ms hmc hms)
      · split at hrun
        · rename_i pc' st' h1 dc ds hs
          obtain ⟨o', ho', rfl⟩ := mvAdd_inv hrun
          dsimp only at hcells hslots hmc hms ⊢
          exact mvG_ok ok hE C hw hl hat hS hd hd2 hs hdg (by omega) (by omega) (fun H1 locs1 a1 a2 => ih d j pc' lv st' h1 o' ho' E hE p e R s m args below meth c C hw H1 locs1 (cells + dc) (slots + ds) ls hl a1 a2 hd hd2 (by omega) (by omega) mc ms (by omega) (by omega))
        · split at hrun
          · rename_i r hs
            cases hrun
            exact mvFin_ok C hs hdg hat hS hmc hms
          · split at hrun
            · cases d with
              | zero => cases hrun
              | succ d' =>
                simp only at hrun
                split at hrun
                · cases hrun
                · rename_i st' h1 hs
                  refine (mvCp_ok ok hE C hw hl hat hS hd hd2 (by omega) (by omega) hs hdg (fun H1 locs1 a1 a2 => ih (d' + 1) j (pc + 3) lv st' h1 o hrun E hE p e R s m args below meth c C hw H1 locs1 cells slots ls hl a1 a2 hd hd2 hcells hslots mc ms hmc hms)).2
            · rename_i j' as rest hs
              split at hrun
              · rename_i hone
                obtain ⟨hone, hsum⟩ := hone
                cases d with
                | zero => cases hrun
                | succ d' =>
                  simp only at hrun
                  split at hrun
                  · cases hrun
                  · rename_i v h1 dc ds hcall
                    obtain ⟨o', ho', rfl⟩ := mvAdd_inv hrun
                    dsimp only at hcells hslots hmc hms ⊢
                    obtain ⟨rfl, a, hr9⟩ := mvRunCall (d' := d') (locs := locs) (cells := cells) (slots := slots) (oC := (.inl v, h1, dc, ds)) (e := e) (below := below) ok hE C hw hl hat hS hs hdg hsum hd hd2 (by dsimp only; omega) (by dsimp only; omega) (fun E' hE' hj1 hlen => by
                      cases hb9 : mvPb P j' with
                      | none => rw [hb9] at hcall; exact mvMt_of ok ih hE' hj1 hone hlen hcall
                      | some b =>
                        rw [hb9] at hcall
                        simp only at hcall
                        split at hcall
                        · rename_i h8; exact hB j' E' b as h _ d' hE' hb9 hcall h8
                        · cases hcall)
                    refine mvCall hr9 hS (fun ex q ce H1 locs1 hc => by cases hc) (fun w H1 locs1 hc a1 a2 => ?_)
                    cases hc
                    have hst : ((v.map (mvCv N0 xa)).toList ++ rest.map (mvCv N0 xa)) = (v.toList ++ rest).map (mvCv N0 xa) := by cases v <;> simp
                    rw [hst]
                    exact ih (d' + 1) j (pc + 3) lv (v.toList ++ rest) h1 o' ho' E hE p e R s m args below meth c C hw H1 locs1 (cells + dc) (slots + ds) ls hl a1 a2 hd hd2 (by omega) (by omega) mc ms (by omega) (by omega)
                  · rename_i ex h1 dc ds hcall
                    have hM9 : ∀ E', mvPm P j' = some E' → j' ≠ 0 → as.length ≤ E'.2.2.1 → mvMt P N0 xa cA D cl sC sn sd l Ts E' as h (.inr ex, h1, dc, ds) d' := fun E' hE' hj1 hlen => by
                      cases hb9 : mvPb P j' with
                      | none => rw [hb9] at hcall; exact mvMt_of ok ih hE' hj1 hone hlen hcall
                      | some b =>
                        rw [hb9] at hcall
                        simp only at hcall
                        split at hcall
                        · rename_i h8; exact hB j' E' b as h _ d' hE' hb9 hcall h8
                        · cases hcall
                    split at hrun
                    · split at hrun
                      · rename_i hh
                        cases hrun
                        dsimp only at hcells hslots hmc hms ⊢
                        obtain ⟨rfl, a, hr9⟩ := mvRunCall (d' := d') (locs := locs) (cells := cells) (slots := slots) (oC := (.inr ex, h1, dc, ds)) (e := e) (below := below) ok hE C hw hl hat hS hs hdg hsum hd hd2 hcells hslots hM9
                        refine mvCall hr9 hS (fun ex' q ce H1 locs1 hc a1 a2 b1 b2 b3 => ?_) (fun w H1 locs1 hc => by cases hc)
                        cases hc
                        refine vx_out (fun x hx9 => ?_) hlocks b1 b2 b3 (fun t ht _ => ⟨rfl, by rw [ht]; exact a1, a2.F ht⟩) a2.2.2 hmc hms
                        rw [htab, hh] at hx9
                        cases hx9
                      · cases hrun
                    · rename_i hp x pc' hph
                      obtain ⟨o', ho', rfl⟩ := mvAdd_inv hrun
                      dsimp only at hcells hslots hmc hms ⊢
                      obtain ⟨rfl, a, hr9⟩ := mvRunCall (d' := d') (locs := locs) (cells := cells) (slots := slots) (oC := (.inr ex, h1, dc, ds)) (e := e) (below := below) ok hE C hw hl hat hS hs hdg hsum hd hd2 (by dsimp only; omega) (by dsimp only; omega) hM9
                      refine mvCall hr9 hS (fun ex' q ce H1 locs1 hc a1 a2 b1 b2 b3 => ?_) (fun w H1 locs1 hc => by cases hc)
                      cases hc
                      obtain ⟨pre, row, suf, t1, t2, t3, t4, t5, t6, t7, t8, t9⟩ := ok.2.2.2.2.1 j E pc ex hp x pc' hE hph
                      refine mvCatch hown pre row suf (htab.trans t1) (fun z hz => ?_) t3 t4 (hts _ t5) (va_Nw.use rfl (hw.2.2.2.2.2.2.2 _ t6)) b1 b2 b3 ?_
                      · rcases t2 z hz with u | ⟨u1, u2, u3, u4⟩
                        · exact Or.inl u
                        · exact Or.inr ⟨u1, u2, _, hts _ u4, by rw [u3]; exact hw.2.2.2.2.2.2.1⟩
                      · rw [t7]
                        have hst : ∀ ls', lv_has ls' E.2.2.1 ((x, Value.ref q) :: mvCl N0 xa (mvDrop lv x)) → W p l e R s m args below meth c H1 locs1 (cells + dc) (slots + ds) (vx_MQ below (mvQc N0 xa cA D cl o'.1 o'.2.1) (mvXc N0 xa cA D cl o'.1 o'.2.1) args s mc ms (fun q : Nat => N0 ≤ q)) (F0 m pc' ls' []) := fun ls' hl' => by
                          exact ih (d' + 1) j pc' (mvDrop lv x) [] h1 o' ho' E hE p e R s m args below meth c C hw H1 locs1 (cells + dc) (slots + ds) ls' ⟨hl'.1, hl'.2.1, fun q hq => hl'.2.2 q (List.mem_cons_of_mem _ hq)⟩ a1 a2 hd hd2 (by omega) (by omega) mc ms (by omega) (by omega)
                        rcases t9 with ⟨t9, t10⟩ | ⟨k9, t9, t10, t11⟩
                        · subst t10
                          exact lv_astore hx hb t9 hl t8 (by rw [mvCl_drop]) hst
                        · subst t11
                          exact lv_astore_n hx hb t9 t10 hl t8 (by rw [mvCl_drop]) hst
              · cases hrun
end MVM
