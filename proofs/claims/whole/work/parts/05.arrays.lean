/-! The small machine's arrays, what it makes, statics and constants. -/
def mvTys (cA : Nat → ClassId) : List (ClassId × FieldType) := [(cA 0, .int), (cA 1, .boolean), (cA 2, .long)]
/-- the arrays from outside stand as the program says, and the machine's own statics that a throw reads -/
def mvOut (P : mvP) (N0 : Nat) (xa : Nat → Nat) (U : State) (H : Heap) : Prop := (∀ o, o < 2 → ∀ z, mvPx P o = some z → va_T .int (xa o) z.1 (fun j => .int (z.2 j)) (fun q : Nat => N0 ≤ q) U H)
section MVG
variable {p : Program} {l : Launch} {e : Env} {R : Room} {s : State} {m : MethodId} {args : Array Value} {below : List Frame} {meth : Method} {c : Code} {H : Heap} {locs : List Loc} {cells slots : Nat} {Q : State → Prop}
variable {cc : ByteArray} {pc nL len : Nat} {ls : Array Slot} {N0 : Nat} {xa : Nat → Nat} {cA : Nat → ClassId} {D : va_G} {cl : List vw_C} {Ts : List Cond} {P : mvP} {j : Nat} {E : mvE} {lv : mvL} {st : List mvV} {h : mvH} {i : Instr}
theorem mvG2_ok (hx : p.tables.exec = Jvm.exec) (hb : c.code = cc) (hK : va_K D cl (mvTys cA) s) (hO : mvOut P N0 xa s s.heap)
    (hP : va_P D cl (mvWs N0 xa cA N0 h.2) H) (hS : va_S (fun q : Nat => N0 ≤ q) s.heap H locs) (hF : h.1 = true → H.size = N0 + h.2.length)
    {st' : List mvV} {h' : mvH} (hs : mvG2 P i st h = some (st', h')) (hdg : decode cc pc = .ok (i, 1))
    (k : mvKk p l e R s m args below meth c cells slots Q (F0 m (pc + 1) ls (st'.map (mvCv N0 xa))) D cl N0 xa cA h') : W p l e R s m args below meth c H locs cells slots Q (F0 m pc ls (st.map (mvCv N0 xa))) := by
  unfold mvG2 at hs
  split at hs
  · split at hs
    · rename_i x a r
      split at hs
      · rename_i n f hc
        split at hs
        · rename_i hin
          cases hs
          exact va_iald hx hb hK hP a 0 (mvWs_at hc) rfl (mvIn_iff.mp hin) hdg (k H locs hP hS hF)
        · cases hs
      · cases hs
    · rename_i x o r
      split at hs
      · rename_i z hz
        split at hs
        · rename_i hin
          cases hs
          exact va_ti hx hb (hO o hin.2 z hz) hS (mvIn_iff.mp hin.1) rfl hdg (k H locs hP hS hF)
        · cases hs
      · cases hs
    · cases hs
  · split at hs
    · rename_i x a r
      split at hs
      · rename_i n f hc
        split at hs
        · rename_i hin
          cases hs
          exact va_zald hx hb hK hP a 1 (mvWs_at hc) rfl (mvIn_iff.mp hin) hdg (k H locs hP hS hF)
        · cases hs
      · cases hs
    · cases hs
  · split at hs
    · rename_i x a r
      split at hs
      · rename_i n f hc
        split at hs
        · rename_i hin
          cases hs
          exact va_lald hx hb hK hP a 2 (mvWs_at hc) rfl (mvIn_iff.mp hin) hdg (k H locs hP hS hF)
        · cases hs
      · cases hs
    · cases hs
  · split at hs
    · rename_i y x a r
      split at hs
      · rename_i n f hc
        split at hs
        · rename_i hin
          cases hs
          have hin := mvIn_iff.mp hin
          refine W.iast hx hb (hP a _ (mvWs_at hc)) ((hK.2 0 _ rfl).1 n (fun j => .int (mvLk f j))) (fun q => by cases q) (by show ¬ (x < 0 ∨ (arrV _ _ _).slots.size ≤ _); rw [arrV_size]; exact hin) rfl rfl hdg fun H1 e z oq => ?_
          refine k H1 _ (mvWs_put hP hc ?_ oq) (hS.put z oq (Nat.le_add_right _ _)) (fun hh => by rw [List.length_set, z]; exact hF hh)
          show H1[N0 + a]? = some (vp_cell _ _)
          rw [e]
          show some (Cell.setSlot (arrV (cA 0) n (fun j => Value.int (mvLk f j))) _ _) = some (arrV (cA 0) n (fun j => Value.int (mvLk ((x.toNatClampNeg, y) :: f) j)))
          rw [arrV_store]
          congr 2
          funext q
          by_cases hq : q = x.toNatClampNeg
          · subst hq
            simp [updV, mvLk]
          · simp [updV, mvLk, hq]
        · cases hs
      · cases hs
    · cases hs
  · split at hs
    · rename_i y x a r
      split at hs
      · rename_i n f hc
        split at hs
        · rename_i hin
          cases hs
          have hin := mvIn_iff.mp hin
          refine W.zast hx hb (hP a _ (mvWs_at hc)) ((hK.2 1 _ rfl).1 n (fun j => .int (mvLk f j))) (fun q => by cases q) (by show ¬ (x < 0 ∨ (arrV _ _ _).slots.size ≤ _); rw [arrV_size]; exact hin) rfl rfl hdg fun H1 e z oq => ?_
          refine k H1 _ (mvWs_put hP hc ?_ oq) (hS.put z oq (Nat.le_add_right _ _)) (fun hh => by rw [List.length_set, z]; exact hF hh)
          show H1[N0 + a]? = some (vp_cell _ _)
          rw [e]
          show some (Cell.setSlot (arrV (cA 1) n (fun j => Value.int (mvLk f j))) _ _) = some (arrV (cA 1) n (fun j => Value.int (mvLk ((x.toNatClampNeg, vp_nar .boolean y) :: f) j)))
          rw [arrV_store]
          congr 2
          funext q
          by_cases hq : q = x.toNatClampNeg
          · subst hq
            simp [updV, mvLk, vp_nar]
            try rfl
          · simp [updV, mvLk, hq]
        · cases hs
      · cases hs
    · cases hs
  · split at hs
    · rename_i y x a r
      split at hs
      · rename_i n f hc
        split at hs
        · rename_i hin
          cases hs
          have hin := mvIn_iff.mp hin
          refine W.last hx hb (hP a _ (mvWs_at hc)) ((hK.2 2 _ rfl).1 n (fun j => .long (mvLl f j))) (fun q => by cases q) (by show ¬ (x < 0 ∨ (arrV _ _ _).slots.size ≤ _); rw [arrV_size]; exact hin) rfl rfl hdg fun H1 e z oq => ?_
          refine k H1 _ (mvWs_put hP hc ?_ oq) (hS.put z oq (Nat.le_add_right _ _)) (fun hh => by rw [List.length_set, z]; exact hF hh)
          show H1[N0 + a]? = some (vp_cell _ _)
          rw [e]
          show some (Cell.setSlot (arrV (cA 2) n (fun j => Value.long (mvLl f j))) _ _) = some (arrV (cA 2) n (fun j => Value.long (mvLl ((x.toNatClampNeg, y) :: f) j)))
          rw [arrV_store]
          congr 2
          funext q
          by_cases hq : q = x.toNatClampNeg
          · subst hq
            simp [updV, mvLl]
          · simp [updV, mvLl, hq]
        · cases hs
      · cases hs
    · cases hs
  · split at hs
    · rename_i a r
      split at hs
      · rename_i t n f hc
        split at hs
        · rename_i ht
          cases hs
          rcases (show t = 0 ∨ t = 1 by omega) with rfl | rfl
          · exact va_alen hx hb hK hP a 0 (mvWs_at hc) rfl rfl hdg (k H locs hP hS hF)
          · exact va_alen hx hb hK hP a 1 (mvWs_at hc) rfl rfl hdg (k H locs hP hS hF)
        · cases hs
      · cases hs
    · rename_i o r
      split at hs
      · rename_i z hz
        split at hs
        · rename_i ho
          cases hs
          exact va_tlen hx hb (hO o ho z hz) hS rfl hdg (k H locs hP hS hF)
        · cases hs
      · cases hs
    · cases hs
  · cases hs
theorem mvNewa (hx : p.tables.exec = Jvm.exec) (hb : c.code = cc) (hP : va_P D cl (mvWs N0 xa cA N0 h.2) H) (hS : va_S (fun q : Nat => N0 ≤ q) s.heap H locs) (hF : H.size = N0 + h.2.length) {at0 : ArrayType} {c' : mvC} {n : Int32} {r : List Value} {cT : ClassId}
    (hts : (Cond.arrayClass (newarray.typeOf at0)).before args s = true) (hcT : s.vm.findClass ("[" ++ (newarray.typeOf at0).toString) = some cT) (hn : ¬ n < 0) (hN : n.toNatClampNeg ≤ 1000000) (hcb : componentBytes (newarray.typeOf at0) ≤ 8)
    (hc' : ∀ H' : Heap, H'[N0 + h.2.length]? = some (arrV cT n.toNatClampNeg (fun _ => defaultValue (newarray.typeOf at0))) → va_at D cl (N0 + h.2.length, mvCE N0 xa cA c') H')
    (hcells : cells + 1 ≤ R.cells) (hslots : slots + n.toNatClampNeg ≤ R.slots) (hdg : decode cc pc = .ok (.newarray at0, 2))
    (k : mvKk p l e R s m args below meth c (cells + 1) (slots + n.toNatClampNeg) Q (F0 m (pc + 2) ls (.ref (N0 + h.2.length) :: r)) D cl N0 xa cA (true, h.2 ++ [c'])) : W p l e R s m args below meth c H locs cells slots Q (F0 m pc ls (.int n :: r)) := by
  refine va_newaK hx hb hts rfl hdg rfl hn rfl (by
    calc n.toNatClampNeg * componentBytes (newarray.typeOf at0) ≤ 1000000 * 8 := Nat.mul_le_mul hN hcb
      _ ≤ 536870912 := by decide) hcells hslots hF fun H1 cA1 e1 z1 o1 hAr hNm => ?_
  cases Option.some.inj (hcT.symm.trans hNm)
  refine k H1 locs (mvWs_more hP (hc' H1 e1) (fun q hq => o1 q (by omega))) ⟨Nat.le_trans hS.1 (by omega), fun x h1 h2 => (o1 x (by have := hS.1; omega)).trans (hS.2.1 x h1 h2), hS.2.2⟩ (fun _ => ?_)
  rw [z1, List.length_append]
  rfl
theorem mvG3_ok (hx : p.tables.exec = Jvm.exec) (hb : c.code = E.2.1) (hown : s.vm.findClass E.1.cls = some m.cls) (hts : ∀ w ∈ Ts, w.before args s = true) (hK : va_K D cl (mvTys cA) s) (hE : mvPm P j = some E) (on : mvOkn Ts cl P) (oa : ∀ at0 : ArrayType, at0 = .int ∨ at0 = .boolean ∨ at0 = .long → Cond.arrayClass (newarray.typeOf at0) ∈ Ts)
    (hP : va_P D cl (mvWs N0 xa cA N0 h.2) H) (hS : va_S (fun q : Nat => N0 ≤ q) s.heap H locs) (hF : h.1 = true → H.size = N0 + h.2.length)
    {st' : List mvV} {h' : mvH} {ns n : Nat} (hs : mvG3 P j i st h = some (st', h', ns, n)) (hdg : decode E.2.1 pc = .ok (i, n)) (hcells : cells + 1 ≤ R.cells) (hslots : slots + ns ≤ R.slots)
    (k : mvKk p l e R s m args below meth c (cells + 1) (slots + ns) Q (F0 m (pc + n) ls (st'.map (mvCv N0 xa))) D cl N0 xa cA h') : W p l e R s m args below meth c H locs cells slots Q (F0 m pc ls (st.map (mvCv N0 xa))) := by
  unfold mvG3 at hs
  split at hs
  · rename_i t0
    split at hs
    · rename_i x r
      split at hs
      · rename_i hcd
        obtain ⟨hn0, hn1, hh⟩ := hcd
        split at hs
        · cases hs
          exact mvNewa (c' := .inl (0, x.toNatClampNeg, .inl [])) hx hb hP hS (hF hh) (hts _ (oa _ (Or.inl rfl))) (hK.2 0 _ rfl).2 hn0 hn1 (by decide) (fun H' e1 => e1) hcells hslots hdg k
        · cases hs
          exact mvNewa (c' := .inl (1, x.toNatClampNeg, .inl [])) hx hb hP hS (hF hh) (hts _ (oa _ (Or.inr (Or.inl rfl)))) (hK.2 1 _ rfl).2 hn0 hn1 (by decide) (fun H' e1 => e1) hcells hslots hdg k
        · cases hs
          exact mvNewa (c' := .inl (2, x.toNatClampNeg, .inr [])) hx hb hP hS (hF hh) (hts _ (oa _ (Or.inr (Or.inr rfl)))) (hK.2 2 _ rfl).2 hn0 hn1 (by decide) (fun H' e1 => e1) hcells hslots hdg k
        · cases hs
      · cases hs
    · cases hs
  · rename_i idx
    split at hs
    · rename_i ci fs hf
      split at hs
      · rename_i hh
        cases hs
        obtain ⟨⟨C, T, N⟩, hq1, ⟨hq2, ⟨ty0, hty⟩, hnd⟩, hq3, hq4, hq5, hq6, hq7⟩ := on j E idx ci fs hE hf
        have hKn := hK.1 ci _ hq1
        have hq3' : fs.length = N := hq3
        rw [hq3'] at hslots k
        refine W.newcK hx hb hown (hts _ hq4) (hts _ hq5) (hts _ hq6) rfl hdg hcells hslots hKn.2.1 (hF hh) fun H1 kC hkC e1 z1 o1 => ?_
        refine k H1 locs (mvWs_more hP ⟨_, hq1, (u_born ty0 hts hq2 hKn hkC e1 hty).to (fun q hq => hq7 q hq _ (hty q hq) N0 xa)⟩ (fun q hq => o1 q (by rw [← hF hh]; exact hq))) ⟨Nat.le_trans hS.1 (by have := hF hh; omega), fun x h1 h2 => (o1 x (by have := hS.1; have := hF hh; omega)).trans (hS.2.1 x h1 h2), hS.2.2⟩ (fun _ => ?_)
        rw [z1, List.length_append]
        rfl
      · cases hs
    · cases hs
  · cases hs
theorem mvG4_ok (hx : p.tables.exec = Jvm.exec) (hb : c.code = E.2.1) (hown : s.vm.findClass E.1.cls = some m.cls) (hts : ∀ w ∈ Ts, w.before args s = true) (hE : mvPm P j = some E) {sC sn sd : String} (os : mvOks Ts P sC sn sd) (ok : mvOkk Ts P) (hZ : va_Z sC sn sd (.ref (xa 0)) (fun q : Nat => N0 ≤ q) s s.heap) (hNw : ∀ w ∈ mvPw P, va_Nw w s)
    (hS : va_S (fun q : Nat => N0 ≤ q) s.heap H locs) {v : mvV} {n : Nat} (hs : mvG4 P j i = some (v, n)) (hdg : decode E.2.1 pc = .ok (i, n))
    (k : W p l e R s m args below meth c H locs cells slots Q (F0 m (pc + n) ls ((v :: st).map (mvCv N0 xa)))) : W p l e R s m args below meth c H locs cells slots Q (F0 m pc ls (st.map (mvCv N0 xa))) := by
  unfold mvG4 at hs
  split at hs
  · rename_i idx
    obtain ⟨o, ho, hq⟩ := Option.map_eq_some_iff.mp hs
    cases hq
    obtain ⟨rfl, hl⟩ := os j E idx o hE ho
    rcases hl with hl | ⟨host, hl⟩
    · exact va_gets hx hb hZ hS hown (hts _ hl) (fun _ h9 => h9) hdg k
    · exact va_getsN hx hb hZ hS hown (va_Nw.use rfl (hNw _ hl)) (fun _ h9 => h9) hdg k
  · rename_i idx
    obtain ⟨o, ho, hq⟩ := Option.map_eq_some_iff.mp hs
    cases hq
    exact lv_ldc hx hb hown (hts _ (ok j E idx o hE ho)) hdg k
  · rename_i idx
    obtain ⟨o, ho, hq⟩ := Option.map_eq_some_iff.mp hs
    cases hq
    exact lv_ldcw hx hb hown (hts _ (ok j E idx o hE ho)) hdg k
  · cases hs
end MVG
