/-! THE CLAIM OUT OF ONE WALK OF THE LAW'S BODY. Your part is whole_start (and what it stands on); all else here is the same for every law, but numbers. -/
def R_law : String := "DictionaryHouseLaw"
def lw_P (b : Addr) (xs : List Int32) (args : Array Value) (s : State) : Prop := args = #[.ref b] ∧ s.IntsAt b xs ∧ xs.length ≤ 7 ∧ (Jvm.Cond.and given_1 narrow_1).before args s = true
def lw_Q (_ : Array Value) (s : State) (o : Outcome) (t : State) : Prop := o = .returned (some (.int 1)) ∧ Framed s o t [] 600002 7302231
def lw_Z (below : List Frame) (a : Array Value) (s : State) : State → Prop := fun t => ∃ o, t.status = .running ∧ Ended t below o ∧ lw_Q a s o t
/-- what holds at the law's entry: the machine, the code, the tables' words (any of lw_tbl by 'hts w (by decide +kernel)'), the script of L ints xs at the cell b, what the Statement gives of the start (any of its parts by flat_of_before) -/
def lw_At (p : Program) (s : State) (m : MethodId) (meth : Method) (c : Code) (b L : Nat) (xs : Nat → Int32) : Prop :=
  p.tables.exec = Jvm.exec ∧ c.code = code ∧ meth.sig.returnType = ret ∧ c.maxLocals = 7 ∧ s.vm.findClass R_law = some m.cls ∧ (∀ w ∈ lw_tbl, w.before #[Value.ref b] s = true) ∧ va_X b L xs s s.heap ∧ b < s.heap.size ∧ meth.locks = false ∧ (Jvm.Cond.and given_1 narrow_1).before #[Value.ref b] s = true ∧ meth.name = "law" ∧ c.exceptionTable.toList = []
set_option maxRecDepth 100000 in
theorem pgE0_at : pgM[0]? = some (⟨"DictionaryHouseLaw", "law", "([I)Z"⟩, code, 7, some .boolean, []) := by rfl
set_option maxHeartbeats 4000000 in
set_option maxRecDepth 100000 in
/-- a run of the small machine that ends with 1 is the law's -/
theorem pgEnter {p : Program} {e : Env} {s : State} {m : MethodId} {below : List Frame} {meth : Method} {c : Code} (l : Launch) (hl : l.stackTraces = false) {b L : Nat} {xs : Nat → Int32} (hL : L < 2 ^ 31) (C0 : lw_At p s m meth c b L xs) {n d : Nat} {h : mvH} {kc ks : Nat} (hd : d ≤ 1400)
    (hrun : mvRun (pgP L xs) n d 0 0 [(0, .inr (.inr (.inr 1)))] [] (true, []) = some (.inl (some (.inl 1)), h, kc, ks)) (hkc : kc ≤ 600002) (hks : ks ≤ 7302231) :
    W p l e room_1 s m #[Value.ref b] below meth c s.heap [] 0 0 (lw_Z below #[Value.ref b] s) (entryFrame m ([Value.ref b] : List Value).toArray 7) := by
  obtain ⟨hx, hb, hr, hml, hown, hts, hX, hbl, hlocks, hgv, hnm, htab⟩ := C0
  obtain ⟨D, cA, hK⟩ := pgKnown hts
  have hfl := flat_of_before _ hgv
  have hA : ∀ a : Nat, a < s.heap.size → ¬ (fun q : Nat => s.heap.size ≤ q) a := fun a h => Nat.not_le.mpr h
  obtain ⟨t, ht1, ht2⟩ := va_Tof (tm := .static "DictionaryHouse" "ARGUMENTS" "[I") (ty := .int) (N := 8) (f := fun j => .int (pgAa j)) (A := fun q : Nat => s.heap.size ≤ q) (by decide) (hfl (.arrayOf (.static "DictionaryHouse" "ARGUMENTS" "[I") .int) (by decide +kernel)) (va_eqt (hfl (.eq (.length (.static "DictionaryHouse" "ARGUMENTS" "[I")) (.int 8)) (by decide +kernel)))
    (fun j hj => by
      match j, hj with
      | 0, _ => exact va_eqt (hfl (.eq (.elem (.static "DictionaryHouse" "ARGUMENTS" "[I") (.int 0)) (.int 0)) (by decide +kernel))
      | 1, _ => exact va_eqt (hfl (.eq (.elem (.static "DictionaryHouse" "ARGUMENTS" "[I") (.int 1)) (.int 0)) (by decide +kernel))
      | 2, _ => exact va_eqt (hfl (.eq (.elem (.static "DictionaryHouse" "ARGUMENTS" "[I") (.int 2)) (.int 2)) (by decide +kernel))
      | 3, _ => exact va_eqt (hfl (.eq (.elem (.static "DictionaryHouse" "ARGUMENTS" "[I") (.int 3)) (.int 2)) (by decide +kernel))
      | 4, _ => exact va_eqt (hfl (.eq (.elem (.static "DictionaryHouse" "ARGUMENTS" "[I") (.int 4)) (.int 3)) (by decide +kernel))
      | 5, _ => exact va_eqt (hfl (.eq (.elem (.static "DictionaryHouse" "ARGUMENTS" "[I") (.int 5)) (.int 0)) (by decide +kernel))
      | 6, _ => exact va_eqt (hfl (.eq (.elem (.static "DictionaryHouse" "ARGUMENTS" "[I") (.int 6)) (.int 2)) (by decide +kernel))
      | 7, _ => exact va_eqt (hfl (.eq (.elem (.static "DictionaryHouse" "ARGUMENTS" "[I") (.int 7)) (.int 3)) (by decide +kernel))
      | n + 8, h => omega) hA
  have hw : mvWorld (pgP L xs) s.heap.size (fun o => if o = 0 then t else b) cA D pgCl "DictionaryHouse" "ARGUMENTS" "[I" s := by
    refine ⟨hK, fun o ho z hz => ?_, va_Zref (hts (.laysStatic "DictionaryHouse" "ARGUMENTS" "[I") (by decide +kernel)) (hts (.initialized "DictionaryHouse") (by decide +kernel)) ht1 hA, vx_Zqof (hts (.laysStatic Bundle.tN "UNASSIGNED_STACK" Bundle.steD) (by decide +kernel)) (hts (.initialized Bundle.tN) (by decide +kernel)) (hfl (.isRef (.static Bundle.tN "UNASSIGNED_STACK" Bundle.steD)) (by decide +kernel)) hA, vx_Zqof (hts (.laysStatic Bundle.tN "SUPPRESSED_SENTINEL" Bundle.listD) (by decide +kernel)) (hts (.initialized Bundle.tN) (by decide +kernel)) (hfl (.isRef (.static Bundle.tN "SUPPRESSED_SENTINEL" Bundle.listD)) (by decide +kernel)) hA, Nat.le_refl _, va_Nc.of (hfl (.not (.castable "java/lang/IllegalStateException" "java/lang/IllegalArgumentException")) (by decide +kernel)), fun w hw => ?_⟩
    · match o, ho with
      | 0, _ => cases hz; exact ht2
      | 1, _ =>
        cases hz
        obtain ⟨scr, h1, h2, h3, h4, h5⟩ := hX
        exact ⟨scr, h1, h2, h3, Nat.le_of_eq h4.symm, (by rw [h4]), h5, hA b hbl⟩
    · obtain ⟨i, -, hi⟩ := List.mem_filterMap.mp hw
      exact va_Nw.of (mvWarm_on (pgNl_warm w hw)) (hts w (List.mem_of_getElem? hi))
  have hT := mvSound (l := l) (N0 := s.heap.size) (xa := fun o => if o = 0 then t else b) (cA := cA) (D := D) (pg_okall L xs) (pgB_ok hl) n
  have hl9 := lv_entry ([Value.ref b] : List Value) (n := 7) (Nat.le_of_ble_eq_true rfl)
  rw [lg_entry_eq]
  have hW := hT d 0 0 [(0, .inr (.inr (.inr 1)))] [] (true, []) _ hrun _ pgE0_at p e room_1 s m #[Value.ref b] below meth c ⟨hx, hb, hml, hr, hlocks, hown, hnm, fun w hw => hts w (List.mem_filter.mp hw).1, htab⟩ hw s.heap [] 0 0 _ hl9 ⟨(fun k q hk => by cases hk), fun _ => rfl⟩ va_S.rf (by show d ≤ 2048; omega) (by show 60 * d ≤ 84000; omega) (by show 0 + kc ≤ 600002; omega) (by show 0 + ks ≤ 7302231; omega) 600002 7302231 (by show 0 + kc ≤ 600002; omega) (by show 0 + ks ≤ 7302231; omega)
  intro T hT9 X
  obtain ⟨u, a1, o, b1, b2, b3⟩ := hW T hT9 X
  refine ⟨u, a1, o, b1, b2, ?_⟩
  rcases b3 with ⟨⟨⟨v, hv, ho⟩, -, -⟩, Ls, hF, hLs⟩ | ⟨q, -, E9, ce, Ls, ⟨hx9, -⟩, -⟩
  · cases hv
    refine ⟨ho, hF.1, hF.2.1, hF.2.2.weaken (fun y hy hlt => absurd hlt (Nat.not_lt.mpr (hLs y hy))) (Nat.le_refl _) (Nat.le_refl _)⟩
  · cases hx9
