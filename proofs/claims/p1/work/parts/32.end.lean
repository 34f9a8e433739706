/-! Every script of at most 7 ints. -/
theorem pgChm_all : ∀ m : Nat, m < 32 → pgChm m = true := by
  intro m hm
  match m, hm with
  | 0, _ => exact pgChm0
  | 1, _ => exact pgChm1
  | 2, _ => exact pgChm2
  | 3, _ => exact pgChm3
  | 4, _ => exact pgChm4
  | 5, _ => exact pgChm5
  | 6, _ => exact pgChm6
  | 7, _ => exact pgChm7
  | 8, _ => exact pgChm8
  | 9, _ => exact pgChm9
  | 10, _ => exact pgChm10
  | 11, _ => exact pgChm11
  | 12, _ => exact pgChm12
  | 13, _ => exact pgChm13
  | 14, _ => exact pgChm14
  | 15, _ => exact pgChm15
  | 16, _ => exact pgChm16
  | 17, _ => exact pgChm17
  | 18, _ => exact pgChm18
  | 19, _ => exact pgChm19
  | 20, _ => exact pgChm20
  | 21, _ => exact pgChm21
  | 22, _ => exact pgChm22
  | 23, _ => exact pgChm23
  | 24, _ => exact pgChm24
  | 25, _ => exact pgChm25
  | 26, _ => exact pgChm26
  | 27, _ => exact pgChm27
  | 28, _ => exact pgChm28
  | 29, _ => exact pgChm29
  | 30, _ => exact pgChm30
  | 31, _ => exact pgChm31
  | m + 32, h => omega
theorem amOk_0 (x : Int32) : amOk 0 x := ⟨(fun h => by cases h), (fun h => by cases h), (fun h => by omega)⟩
theorem pgCls_ok (x : Int32) : ∃ q ∈ pgCls, amOk q.1 x ∧ ∀ a, q.2 = some a → x = a := by
  have m1 : (-1 : Int32).toInt = -1 := by decide
  have m9 : (9 : Int32).toInt = 9 := by decide
  by_cases h1 : x < -1
  · exact ⟨(1, none), by simp [pgCls], ⟨(fun _ => h1), (fun h => by cases h), (fun h => by omega)⟩, fun a h => by cases h⟩
  · by_cases h2 : 9 < x
    · exact ⟨(2, none), by simp [pgCls], ⟨(fun h => by cases h), (fun _ => h2), (fun h => by omega)⟩, fun a h => by cases h⟩
    · have k1 : -1 ≤ x.toInt := by rw [Int32.lt_iff_toInt_lt] at h1; omega
      have k2 : x.toInt ≤ 9 := by rw [Int32.lt_iff_toInt_lt] at h2; omega
      have key : ∀ c : Int32, x.toInt = c.toInt → (0, some c) ∈ pgCls → ∃ q ∈ pgCls, amOk q.1 x ∧ ∀ a, q.2 = some a → x = a := fun c hc hm => ⟨(0, some c), hm, amOk_0 x, fun a h => by cases h; exact Int32.toInt_inj.mp hc⟩
      have k3 : x.toInt = -1 ∨ x.toInt = 0 ∨ x.toInt = 1 ∨ x.toInt = 2 ∨ x.toInt = 3 ∨ x.toInt = 4 ∨ x.toInt = 5 ∨ x.toInt = 6 ∨ x.toInt = 7 ∨ x.toInt = 8 ∨ x.toInt = 9 := by omega
      rcases k3 with h | h | h | h | h | h | h | h | h | h | h
      · exact key (-1) (by rw [h]; decide) (by simp [pgCls])
      · exact key (0) (by rw [h]; decide) (by simp [pgCls])
      · exact key (1) (by rw [h]; decide) (by simp [pgCls])
      · exact key (2) (by rw [h]; decide) (by simp [pgCls])
      · exact key (3) (by rw [h]; decide) (by simp [pgCls])
      · exact key (4) (by rw [h]; decide) (by simp [pgCls])
      · exact key (5) (by rw [h]; decide) (by simp [pgCls])
      · exact key (6) (by rw [h]; decide) (by simp [pgCls])
      · exact key (7) (by rw [h]; decide) (by simp [pgCls])
      · exact key (8) (by rw [h]; decide) (by simp [pgCls])
      · exact key (9) (by rw [h]; decide) (by simp [pgCls])
theorem pgBits (x : Int32) : ∃ m : Nat, m < 32 ∧ amOk (100 + m) x := by
  refine ⟨(x.toBitVec &&& 31#32).toNat, ?_, (fun h => by omega), (fun h => by omega), fun _ => ?_⟩
  · have : (x.toBitVec &&& 31#32).toNat ≤ 31 := by
      rw [BitVec.toNat_and]
      exact Nat.and_le_right
    omega
  · rw [Nat.add_sub_cancel_left]
    apply Int32.toBitVec_inj.mp
    rw [Int32.toBitVec_and]
    show x.toBitVec &&& 31#32 = BitVec.ofNat 32 (x.toBitVec &&& 31#32).toNat
    simp
theorem pgV_ok {k v : Nat} {q : Option Int32} (h : pgV k q = (Sum.inr v : amI)) : v = k := by
  cases q with
  | none => cases h; rfl
  | some a => cases h
theorem pgV_in {k : Nat} {a : Int32} {q : Option Int32} (h : pgV k q = (Sum.inl a : amI)) : q = some a := by
  cases q with
  | none => cases h
  | some a => cases h; rfl
theorem pgOne (L : Nat) (xs : Nat → Int32) (hL : L ≤ 7) : ∃ h' kc ks, mvRun (pgP L xs) 2000 20 0 0 [(0, .inr (.inr (.inr 1)))] [] (true, []) = some (.inl (some (.inl 1)), h', kc, ks) ∧ kc ≤ 600002 ∧ ks ≤ 7302231 := by
  by_cases h7 : L = 7
  · subst h7
    obtain ⟨m, hm, hm2⟩ := pgBits (xs 0)
    obtain ⟨q, hq, hq1, hq2⟩ := pgCls_ok (xs 1)
    obtain ⟨r, hr, hr1, hr2⟩ := pgCls_ok (xs 2)
    have hc := pgChm_all m hm
    unfold pgChm at hc
    split at hc
    · rename_i h1
      subst h1
      have hc := List.all_eq_true.mp (List.all_eq_true.mp hc q hq) r hr
      refine pgChk_ok ?_ ?_ ?_ hc
      · intro i
        match i with
        | 0 => exact hm2
        | 1 => exact hq1
        | 2 => exact hr1
        | i + 3 => exact amOk_0 _
      · intro k a hk
        match k, hk with
        | 0, hk => simp at hk
        | 1, hk => exact hq2 a (pgV_in (Option.some.inj hk))
        | 2, hk => exact hr2 a (pgV_in (Option.some.inj hk))
        | k + 3, hk => simp at hk
      · intro k v hk
        match k, hk with
        | 0, hk => simp at hk; exact hk.symm
        | 1, hk => exact pgV_ok (Option.some.inj hk)
        | 2, hk => exact pgV_ok (Option.some.inj hk)
        | k + 3, hk => simp at hk
    · split at hc
      · refine pgChk_ok ?_ ?_ ?_ hc
        · intro i
          match i with
          | 0 => exact hm2
          | i + 1 => exact amOk_0 _
        · intro k a hk; simp at hk
        · intro k v hk; simp at hk
      · have hc := List.all_eq_true.mp hc q hq
        refine pgChk_ok ?_ ?_ ?_ hc
        · intro i
          match i with
          | 0 => exact hm2
          | 1 => exact hq1
          | i + 2 => exact amOk_0 _
        · intro k a hk
          match k, hk with
          | 0, hk => simp at hk
          | 1, hk => exact hq2 a (pgV_in (Option.some.inj hk))
          | k + 2, hk => simp at hk
        · intro k v hk
          match k, hk with
          | 0, hk => simp at hk; exact hk.symm
          | 1, hk => exact pgV_ok (Option.some.inj hk)
          | k + 2, hk => simp at hk
  · have hz : ∀ {n : Nat}, pgChk n [] [] = true → ∃ h' kc ks, mvRun (pgP n xs) 2000 20 0 0 [(0, .inr (.inr (.inr 1)))] [] (true, []) = some (.inl (some (.inl 1)), h', kc, ks) ∧ kc ≤ 600002 ∧ ks ≤ 7302231 := fun h => pgChk_ok (ks := []) (sc := []) (fun i => (by rw [List.getD_nil]; exact amOk_0 _ : amOk (([] : List Nat).getD i 0) (xs i))) (fun k a hk => by simp at hk) (fun k v hk => by simp at hk) h
    match L, hL, h7 with
    | 0, _, _ => exact hz pgChl0
    | 1, _, _ => exact hz pgChl1
    | 2, _, _ => exact hz pgChl2
    | 3, _, _ => exact hz pgChl3
    | 4, _, _ => exact hz pgChl4
    | 5, _, _ => exact hz pgChl5
    | 6, _, _ => exact hz pgChl6
    | 7, _, h => exact absurd rfl h
    | n + 8, h, _ => omega
theorem whole_start {p : Program} {e : Env} {s : State} {m : MethodId} {below : List Frame} {meth : Method} {c : Code} (l : Launch) (hl : l.stackTraces = false) {b : Nat} {xs : List Int32} (hbd : xs.length ≤ 7) (C0 : lw_At p s m meth c b xs.length (fun j => xs.getD j 0)) :
    W p l e room_1 s m #[Value.ref b] below meth c s.heap [] 0 0 (lw_Z below #[Value.ref b] s) (entryFrame m ([Value.ref b] : List Value).toArray 7) := by
  obtain ⟨h', kc, ks, h1, h2, h3⟩ := pgOne xs.length (fun j => xs.getD j 0) hbd
  exact pgEnter l hl (by omega) C0 (by decide : 20 ≤ 1400) h1 h2 h3
set_option maxHeartbeats 4000000 in
theorem lw_walk (l : Launch) (hfl : l.stackTraces = false) (b : Addr) (xs : List Int32) : MetFree l x (headSpec (Jvm.Cond.code x code maxLocals ret :: tables_1) room_1) (lw_P b xs) (fun _ _ _ _ _ => True) lw_Q := by
  refine MetFree.of_bodyS (code := code) (maxLocals := maxLocals) (ret := ret) (by decide) ?_ ?_
  · intro args s m h hn
    obtain ⟨meth, c, h1, h2, h3, h4, h5, h6, -, -⟩ := Cond.code_spec hn (atoms_spec (ws := Jvm.Cond.code x code maxLocals ret :: tables_1) h _ List.mem_cons_self)
    exact ⟨meth, c, h1, h2, h3, h4, h5, h6⟩
  · intro p e s m args below meth c s₁ B hml0 hP _
    obtain ⟨rfl, hx, hbd, hgv⟩ := hP
    obtain ⟨scr, harrAt, hlist, hof, hsmall⟩ := hx
    obtain ⟨hcb, hkn, -, -⟩ := State.arrayAt?_spec harrAt
    have hown : s.vm.findClass R_law = some m.cls := findClass_of_methodNamed B.named
    have hts0 : ∀ c ∈ (Jvm.Cond.code x code maxLocals ret :: tables_1), c.before #[Value.ref b] s = true := atoms_spec (ws := Jvm.Cond.code x code maxLocals ret :: tables_1) B.pre
    have hts : ∀ w ∈ lw_tbl, w.before #[Value.ref b] s = true := k2_hts_sels lw_privs (fun w hw => hts0 w (List.mem_cons_of_mem _ hw)) lw_privs_ok
    have hml : c.maxLocals = 7 := B.maxLocals_eq (hts0 _ List.mem_cons_self)
    have hno : c.exceptionTable.toList = [] := by
      have h9 := B.noHandlers (hts0 _ List.mem_cons_self)
      simpa using h9
    have X₀ : Stand p l e room_1 s m #[Value.ref b] below meth c s₁ [] 0 0 := Stand.of_body B
    have hh0 : s₁.heap = s.heap := by rw [B.state]; rfl
    have hsz : scr.slots.size = xs.length := by rw [← Array.length_toList, hlist, List.length_map]
    have hval : ∀ j : Nat, j < xs.length → scr.slots[j]? = some (.int (xs.getD j 0)) := fun j hj => by
      rw [← Array.getElem?_toList, hlist]
      simp [hj]
    have hbl : b < s.heap.size := (Array.getElem?_eq_some_iff.mp hcb).1
    have hX : va_X b xs.length (fun j => xs.getD j 0) s s.heap := ⟨scr, hcb, hof, hkn, hsz, hval⟩
    have K : W p l e room_1 s m #[Value.ref b] below meth c s₁.heap [] 0 0 (lw_Z below #[Value.ref b] s) (entryFrame m ([Value.ref b] : List Value).toArray 7) := by
      rw [hh0]
      exact whole_start l hfl hbd ⟨B.exec, B.bytes, B.returns, hml, hown, hts, hX, hbl, B.notSynchronized, hgv, (name_of_methodNamed B.named B.method).1, hno⟩
    obtain ⟨t, a1, o, b1, b2, b3⟩ := K s₁ rfl X₀
    exact ⟨t, o, a1, b1, b2, b3⟩
theorem lw_pre_spec {args : Array Value} {s : State} (h : (Jvm.Cond.and given_1 narrow_1).before args s = true) (hr : rest_1_c.before args s = true) : ∃ (b : Addr) (xs : List Int32), lw_P b xs args s := by
  have hs := flat_of_before _ h
  have hq := flat_of_before _ hr
  have hc : (Cond.count 1).before args s = true := hs _ (by decide +kernel)
  have harr : (Cond.arrayOf (.arg 0) .int).before args s = true := hs _ (by decide +kernel)
  have hle : (Cond.le (.length (.arg 0)) (.int 7)).before args s = true := hs _ (by decide +kernel)
  have hlen : (Cond.isInt (.length (.arg 0))).before args s = true := hq _ (by decide +kernel)
  have hall : (Cond.all (.arg 0) (.isInt (.elem (.arg 0) (.index 0)))).before args s = true := hq _ (by decide +kernel)
  obtain ⟨b, xs, hb, hx⟩ := State.ints_of_pre rfl harr hlen hall
  have hsm : xs.length < 2 ^ 31 := hx.choose_spec.2.2.2
  have hev : (Term.length (.arg 0)).eval args s none [] s = some (.int xs.length.toInt32) := hx.length_eval hb
  have hv := Cond.le_ints hev (show (Term.int 7).eval args s none [] s = some (.int 7) from rfl)
  have hd : xs.length.toInt32 ≤ 7 := by
    simpa [Cond.before, Cond.holds, hv] using hle
  have hN : xs.length ≤ 7 := (Int32.ofNat_le_ofNat hsm (by decide)).mp (show Int32.ofNat xs.length ≤ Int32.ofNat 7 from hd)
  exact ⟨b, xs, Cond.one_arg hc (show args[0]? = some (.ref b) from hb), hx, hN, h⟩
theorem lw_comes (l : Launch) (hfl : l.stackTraces = false) : Comes l x (Jvm.Cond.code x code maxLocals ret :: tables_1) room_1 (fun tb e args s => Calls_1 tb e args s ∧ rest_1 tb e args s ∧ Pre_1 tb e args s)
    (fun _ _ args s o t => lw_Q args s o t) := by
  intro p e ha hc hk s m args below hf hfit hheap happ hpre
  obtain ⟨b, xs, hP⟩ := lw_pre_spec hpre.2.2 hpre.2.1
  obtain ⟨k, o, h1, h2, h3, hQ⟩ := lw_walk l hfl b xs p e ha hc hk s m args below hf ((Spec.applies_iff_loose hf).mp happ).1 hP trivial
  exact ⟨k, o, h1, h2, h3, hQ⟩
theorem lw_frame {s t : State} {o : Outcome} {args : Array Value} (h : Framed s o t [] 600002 7302231) :
    Framed s o t (fieldLocs frame_1_writes args s ++ arrayLocs frame_1_arrays args s ++ staticLocs frame_1_statics s) 600002 7302231 := h
theorem lw_limb (L : Cond) (hL : ∀ (args : Array Value) (s t : State), L.after args s (.returned (some (.int 1))) t = true) :
    ArmFor flags0 classFile x code maxLocals ret World_1 tables_1 room_1 Calls_1 rest_1 Pre_1
      (fun tb e a s o t => postC L tb e a s o t ∧ Framed s o t (fieldLocs frame_1_writes a s ++ arrayLocs frame_1_arrays a s ++ staticLocs frame_1_statics s) 600002 7302231) := by
  intro l hl0 _ _ p e ha hc hk s m args below hf hfit hheap happ hpre
  have hfl : l.stackTraces = false := by
    unfold Launch.stackTraces
    rw [hl0]
    decide +kernel
  obtain ⟨k, o, h1, h2, h3, rfl, hF⟩ := lw_comes l hfl p e ha hc hk s m args below hf hfit hheap happ hpre
  exact ⟨k, _, h1, h2, h3, hL args s _, lw_frame hF⟩
theorem i_vc : Claimed_1_1 ∧ Claimed_1_2 := ⟨lw_limb limb_1_1 (fun args s t => by simp [limb_1_1, Cond.after, Cond.holds, Cond.value]), lw_limb limb_1_2 (fun args s t => Cond.after_iff.mpr (by
  first | (rw [show limb_1_2 = Cond.eq .result (.int 1) from rfl, Cond.eq_ints (x := 1) (y := 1) rfl rfl]; simp; done) | (simp [limb_1_2, Cond.value, Term.eval]; done)))⟩
