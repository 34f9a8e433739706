/-! The two methods that throw, by hand. -/
def pgNm : List String := ["java/lang/RuntimeException", "java/lang/Exception"]
def pgXs : List (Nat × Nat × String) := [(pgXA.1, pgXA.2, "java/lang/IllegalArgumentException"), (pgXS.1, pgXS.2, "java/lang/IllegalStateException")]
set_option maxRecDepth 100000 in
theorem pgX_good : ∀ q ∈ pgXs, ∀ w ∈ (vx_at0 "DictionaryHouse" q.2.1 q.2.2 pgNm).filter goodWord, w ∈ lw_tbl := by decide +kernel
set_option maxRecDepth 100000 in
theorem pgX_rest : ∀ q ∈ pgXs, ∀ w ∈ (vx_at0 "DictionaryHouse" q.2.1 q.2.2 pgNm).filter (fun w => !goodWord w), w ∈ pgNl := by decide +kernel
set_option maxRecDepth 100000 in
theorem pgX_link : ∀ q ∈ pgXs, Cond.classLink "DictionaryHouse" q.1 q.2.2 ∈ lw_tbl ∧ Cond.initialized q.2.2 ∈ lw_tbl ∧ Bundle.fit q.2.2 = true ∧ ∀ w ∈ Cond.classLink "DictionaryHouse" q.1 q.2.2 :: Cond.initialized q.2.2 :: vx_at0 "DictionaryHouse" q.2.1 q.2.2 pgNm, vx_ot w = true := by decide +kernel
set_option maxRecDepth 100000 in
theorem pgX_names : ∀ n ∈ pgNm, Bundle.fit n = true := by decide +kernel
section PGX
variable {l : Launch} {N0 : Nat} {xa : Nat → Nat} {cA : Nat → ClassId} {D : va_G} {L : Nat} {xs : Nat → Int32}
set_option maxRecDepth 100000 in
theorem pgReq_ok (hl : l.stackTraces = false) {E : mvE} {q : Nat × Nat × String} (hq : q ∈ pgXs) (hEc : E.1.cls = "DictionaryHouse") (hE1 : E.2.2.1 = 1) (hE2 : E.2.2.2.1 = none) (hE3 : E.2.2.2.2 = []) (hpl : plainName E.1.cls = true)
    (d0 : decode E.2.1 0 = .ok (.iload_n 0, 1)) (d1 : decode E.2.1 1 = .ok (.ifCond .ne 11, 3)) (d4 : decode E.2.1 4 = .ok (.new q.1, 3)) (d7 : decode E.2.1 7 = .ok (.dup, 1)) (d8 : decode E.2.1 8 = .ok (.invokespecial q.2.1, 3)) (d11 : decode E.2.1 11 = .ok (.athrow, 1)) (d12 : decode E.2.1 12 = .ok (.return_, 1))
    {as : List mvV} {h : mvH} {o : mvO} {d : Nat} (hr : pgRq q.2.2 as h = some o) (hd : 8 ≤ d) : mvMt (pgP L xs) N0 xa cA D pgCl "DictionaryHouse" "ARGUMENTS" "[I" l pgT E as h o d := by
  unfold pgRq at hr
  split at hr
  · rename_i x
    refine vx_ofW (ws' := pgT) (cc := E.2.1) (maxL := 1) (ret := none) hpl (by simp only [mvCd, hE3, hE1, hE2]) ?_
    intro p e s m args below meth c s₁ B hml ht hv
    obtain ⟨rfl, hw, hat⟩ := hv
    have hts0 := atoms_spec (ws := mvCd E :: pgT) B.pre
    have hts : ∀ w ∈ pgT, w.before ([mvCv N0 xa (.inl x)] : List Value).toArray s = true := fun w hw => hts0 w (List.mem_cons_of_mem _ hw)
    have hx := B.exec
    have hb := B.bytes
    have hrt := B.returns
    have hlocks := B.notSynchronized
    have hown : s.vm.findClass "DictionaryHouse" = some m.cls := by rw [← hEc]; exact findClass_of_methodNamed B.named
    have hS : va_S (fun q : Nat => N0 ≤ q) s.heap s.heap [] := va_S.rf
    show W p l e (mvRm d o.2.2.1 o.2.2.2) s m ([Value.int x] : List Value).toArray below meth c s.heap [] 0 0 _ (entryFrame m ([Value.int x] : List Value).toArray 1)
    have hl9 := lv_entry ([Value.int x] : List Value) (n := 1) (Nat.le_of_ble_eq_true rfl)
    rw [lg_entry_eq]
    generalize (lg_sl ([Value.int x] : List Value) ++ List.replicate (1 - (lg_sl ([Value.int x] : List Value)).length) Slot.unset).toArray = ls at hl9 ⊢
    have hl9 : lv_has ls 1 [(0, .int x)] := hl9
    refine lv_iload_n hx hb d0 rfl (lv_at hl9 0 rfl) ?_
    refine lv_if_ne (tgt := 12) hx hb d1 (by decide) (fun hne => ?_) (fun he => ?_)
    · rw [if_neg hne] at hr
      cases hr
      exact vx_ret (W.vret hx hb hrt (fun t ht9 _ => ⟨⟨none, rfl, rfl⟩, by rw [ht9]; exact hat, hS.F ht9⟩) hS.2.2 d12 hlocks)
    · rw [if_pos he] at hr
      cases hr
      obtain ⟨k1, k2, k3, k4⟩ := pgX_link q hq
      have hin : ∀ w ∈ lw_tbl, goodWord w = true → w.before ([mvCv N0 xa (.inl x)] : List Value).toArray s = true := fun w hw hg => hts w (List.mem_filter.mpr ⟨hw, hg⟩)
      refine vx_throw0 (names := pgNm) hx hb hl hown k3 pgX_names (hin _ k1 rfl) (hin _ k2 rfl) (vx_hat (fun w hw => hin w (pgX_good q hq w hw) (List.mem_filter.mp hw).2) (pgX_rest q hq) ?_) k4 hw.2.2.2.1 hw.2.2.2.2.1 hS (hl9.1.trans hml.symm) d4 d7 d8 d11 (fun x9 hx9 => (ht x9 hx9).elim) (by show 2 + 3 < d; omega) (by show 0 + (13 * (2 + 1) + 42) ≤ 60 * d; omega) (Nat.le_refl _) (Nat.le_refl _) hlocks (fun t ht1 ht2 ht3 => ⟨rfl, ⟨hat.1.kept (fun k q hk => ht3 q.1 (hat.1 k q hk).lt), fun z => by cases z⟩, ht2, fun q h1 _ => ht3 q h1⟩) hS.2.2 (Nat.le_refl _) (Nat.le_refl _)
      intro w hw9
      exact va_Nw.use (mvWarm_on (pgNl_warm w hw9)) (hw.2.2.2.2.2.2.2 w hw9)
  · cases hr
end PGX
