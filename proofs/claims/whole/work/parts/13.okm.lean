/-! methods' words -/
set_option maxRecDepth 100000 in
theorem pgCode_0 : ((pgM.drop 1).take 15).map (fun E => some (mvCd E)) = ((pgWs.drop 1).take 15).map (fun w => lw_tbl[w.1]?) := by rfl
set_option maxRecDepth 100000 in
theorem pgCode_16 : ((pgM.drop 16).take 16).map (fun E => some (mvCd E)) = ((pgWs.drop 16).take 16).map (fun w => lw_tbl[w.1]?) := by rfl
set_option maxRecDepth 100000 in
theorem pgCode_32 : ((pgM.drop 32).take 16).map (fun E => some (mvCd E)) = ((pgWs.drop 32).take 16).map (fun w => lw_tbl[w.1]?) := by rfl
set_option maxRecDepth 100000 in
theorem pgCode_48 : ((pgM.drop 48).take 16).map (fun E => some (mvCd E)) = ((pgWs.drop 48).take 16).map (fun w => lw_tbl[w.1]?) := by rfl
set_option maxRecDepth 100000 in
theorem pgCode_64 : ((pgM.drop 64).take 16).map (fun E => some (mvCd E)) = ((pgWs.drop 64).take 16).map (fun w => lw_tbl[w.1]?) := by rfl
set_option maxRecDepth 100000 in
theorem pgCode_80 : ((pgM.drop 80).take 16).map (fun E => some (mvCd E)) = ((pgWs.drop 80).take 16).map (fun w => lw_tbl[w.1]?) := by rfl
set_option maxRecDepth 100000 in
theorem pgCode_96 : ((pgM.drop 96).take 16).map (fun E => some (mvCd E)) = ((pgWs.drop 96).take 16).map (fun w => lw_tbl[w.1]?) := by rfl
set_option maxRecDepth 100000 in
theorem pgCode_112 : ((pgM.drop 112).take 16).map (fun E => some (mvCd E)) = ((pgWs.drop 112).take 16).map (fun w => lw_tbl[w.1]?) := by rfl
set_option maxRecDepth 100000 in
theorem pgCode_128 : ((pgM.drop 128).take 16).map (fun E => some (mvCd E)) = ((pgWs.drop 128).take 16).map (fun w => lw_tbl[w.1]?) := by rfl
set_option maxRecDepth 100000 in
theorem pgCode_144 : ((pgM.drop 144).take 16).map (fun E => some (mvCd E)) = ((pgWs.drop 144).take 16).map (fun w => lw_tbl[w.1]?) := by rfl
set_option maxRecDepth 100000 in
theorem pgCode_160 : ((pgM.drop 160).take 16).map (fun E => some (mvCd E)) = ((pgWs.drop 160).take 16).map (fun w => lw_tbl[w.1]?) := by rfl
set_option maxRecDepth 100000 in
theorem pgCode_176 : ((pgM.drop 176).take 16).map (fun E => some (mvCd E)) = ((pgWs.drop 176).take 16).map (fun w => lw_tbl[w.1]?) := by rfl
set_option maxRecDepth 100000 in
theorem pgCode_192 : ((pgM.drop 192).take 16).map (fun E => some (mvCd E)) = ((pgWs.drop 192).take 16).map (fun w => lw_tbl[w.1]?) := by rfl
set_option maxRecDepth 100000 in
theorem pgCode_208 : ((pgM.drop 208).take 16).map (fun E => some (mvCd E)) = ((pgWs.drop 208).take 16).map (fun w => lw_tbl[w.1]?) := by rfl
set_option maxRecDepth 100000 in
theorem pgCode_224 : ((pgM.drop 224).take 16).map (fun E => some (mvCd E)) = ((pgWs.drop 224).take 16).map (fun w => lw_tbl[w.1]?) := by rfl
set_option maxRecDepth 100000 in
theorem pgCode_240 : ((pgM.drop 240).take 14).map (fun E => some (mvCd E)) = ((pgWs.drop 240).take 14).map (fun w => lw_tbl[w.1]?) := by rfl
theorem pgMapAt {α β : Type} {l1 : List α} {l2 : List β} {γ : Type} {f : α → γ} {g : β → γ} {a m : Nat} (h : ((l1.drop a).take m).map f = ((l2.drop a).take m).map g) {j : Nat} (h1 : a ≤ j) (h2 : j < a + m) {x : α} (hx : l1[j]? = some x) : ∃ y, l2[j]? = some y ∧ f x = g y := by
  have e1 : ((l1.drop a).take m)[j - a]? = some x := by
    rw [List.getElem?_take_of_lt (by omega), List.getElem?_drop, show a + (j - a) = j by omega]
    exact hx
  have e2 : (((l1.drop a).take m).map f)[j - a]? = some (f x) := by rw [List.getElem?_map, e1]; rfl
  rw [h, List.getElem?_map] at e2
  obtain ⟨y, hy, he⟩ := Option.map_eq_some_iff.mp e2
  rw [List.getElem?_take_of_lt (by omega), List.getElem?_drop, show a + (j - a) = j by omega] at hy
  exact ⟨y, hy, he.symm⟩
def pgCh2 (j : Nat) : Bool := match pgM[j]?, pgWs[j]?, pgPc[j]? with
  | some E, some w, some n => decide (j = 0) || (goodWord (mvCd E) && plainName E.1.cls && decide (E.2.2.1 ≤ 41) && decide (E.1.cls ≠ "java/lang/invoke/MethodHandle") && decide (E.1.cls ≠ "java/lang/invoke/VarHandle") && decide (lw_tbl[w.2.1]? = some (.initialized E.1.cls)) && decide ((parseMethodDescriptor E.1.desc).map (fun d => d.parameters.length) = some n))
  | _, _, _ => false
set_option maxRecDepth 100000 in
theorem pgCh2_0 : (List.range' 0 32).all pgCh2 = true := by decide +kernel
set_option maxRecDepth 100000 in
theorem pgCh2_32 : (List.range' 32 32).all pgCh2 = true := by decide +kernel
set_option maxRecDepth 100000 in
theorem pgCh2_64 : (List.range' 64 32).all pgCh2 = true := by decide +kernel
set_option maxRecDepth 100000 in
theorem pgCh2_96 : (List.range' 96 32).all pgCh2 = true := by decide +kernel
set_option maxRecDepth 100000 in
theorem pgCh2_128 : (List.range' 128 32).all pgCh2 = true := by decide +kernel
set_option maxRecDepth 100000 in
theorem pgCh2_160 : (List.range' 160 32).all pgCh2 = true := by decide +kernel
set_option maxRecDepth 100000 in
theorem pgCh2_192 : (List.range' 192 32).all pgCh2 = true := by decide +kernel
set_option maxRecDepth 100000 in
theorem pgCh2_224 : (List.range' 224 30).all pgCh2 = true := by decide +kernel
theorem pgChunk {chk : Nat → Bool} {a m : Nat} (h : (List.range' a m).all chk = true) {j : Nat} (h1 : a ≤ j) (h2 : j < a + m) : chk j = true := List.all_eq_true.mp h j (List.mem_range'_1.mpr ⟨h1, h2⟩)
set_option maxRecDepth 100000 in
theorem pgM_len : pgM.length = 254 := by decide +kernel
theorem pgCh2_ok {j : Nat} (hj : j < 254) : pgCh2 j = true := by
  by_cases h0 : j < 32
  · exact pgChunk pgCh2_0 (by omega) (by omega)
  by_cases h32 : j < 64
  · exact pgChunk pgCh2_32 (by omega) (by omega)
  by_cases h64 : j < 96
  · exact pgChunk pgCh2_64 (by omega) (by omega)
  by_cases h96 : j < 128
  · exact pgChunk pgCh2_96 (by omega) (by omega)
  by_cases h128 : j < 160
  · exact pgChunk pgCh2_128 (by omega) (by omega)
  by_cases h160 : j < 192
  · exact pgChunk pgCh2_160 (by omega) (by omega)
  by_cases h192 : j < 224
  · exact pgChunk pgCh2_192 (by omega) (by omega)
  exact pgChunk pgCh2_224 (by omega) (by omega)
theorem pgCode_ok {j : Nat} {E : mvE} (hj0 : j ≠ 0) (hj : j < 254) (hE : pgM[j]? = some E) : ∃ w, pgWs[j]? = some w ∧ some (mvCd E) = lw_tbl[w.1]? := by
  by_cases h0 : j < 16
  · exact pgMapAt (f := fun (E : mvE) => some (mvCd E)) (g := fun (w : Nat × Nat × Nat × Nat) => lw_tbl[w.1]?) pgCode_0 (by omega) (by omega) hE
  by_cases h16 : j < 32
  · exact pgMapAt (f := fun (E : mvE) => some (mvCd E)) (g := fun (w : Nat × Nat × Nat × Nat) => lw_tbl[w.1]?) pgCode_16 (by omega) (by omega) hE
  by_cases h32 : j < 48
  · exact pgMapAt (f := fun (E : mvE) => some (mvCd E)) (g := fun (w : Nat × Nat × Nat × Nat) => lw_tbl[w.1]?) pgCode_32 (by omega) (by omega) hE
  by_cases h48 : j < 64
  · exact pgMapAt (f := fun (E : mvE) => some (mvCd E)) (g := fun (w : Nat × Nat × Nat × Nat) => lw_tbl[w.1]?) pgCode_48 (by omega) (by omega) hE
  by_cases h64 : j < 80
  · exact pgMapAt (f := fun (E : mvE) => some (mvCd E)) (g := fun (w : Nat × Nat × Nat × Nat) => lw_tbl[w.1]?) pgCode_64 (by omega) (by omega) hE
  by_cases h80 : j < 96
  · exact pgMapAt (f := fun (E : mvE) => some (mvCd E)) (g := fun (w : Nat × Nat × Nat × Nat) => lw_tbl[w.1]?) pgCode_80 (by omega) (by omega) hE
  by_cases h96 : j < 112
  · exact pgMapAt (f := fun (E : mvE) => some (mvCd E)) (g := fun (w : Nat × Nat × Nat × Nat) => lw_tbl[w.1]?) pgCode_96 (by omega) (by omega) hE
  by_cases h112 : j < 128
  · exact pgMapAt (f := fun (E : mvE) => some (mvCd E)) (g := fun (w : Nat × Nat × Nat × Nat) => lw_tbl[w.1]?) pgCode_112 (by omega) (by omega) hE
  by_cases h128 : j < 144
  · exact pgMapAt (f := fun (E : mvE) => some (mvCd E)) (g := fun (w : Nat × Nat × Nat × Nat) => lw_tbl[w.1]?) pgCode_128 (by omega) (by omega) hE
  by_cases h144 : j < 160
  · exact pgMapAt (f := fun (E : mvE) => some (mvCd E)) (g := fun (w : Nat × Nat × Nat × Nat) => lw_tbl[w.1]?) pgCode_144 (by omega) (by omega) hE
  by_cases h160 : j < 176
  · exact pgMapAt (f := fun (E : mvE) => some (mvCd E)) (g := fun (w : Nat × Nat × Nat × Nat) => lw_tbl[w.1]?) pgCode_160 (by omega) (by omega) hE
  by_cases h176 : j < 192
  · exact pgMapAt (f := fun (E : mvE) => some (mvCd E)) (g := fun (w : Nat × Nat × Nat × Nat) => lw_tbl[w.1]?) pgCode_176 (by omega) (by omega) hE
  by_cases h192 : j < 208
  · exact pgMapAt (f := fun (E : mvE) => some (mvCd E)) (g := fun (w : Nat × Nat × Nat × Nat) => lw_tbl[w.1]?) pgCode_192 (by omega) (by omega) hE
  by_cases h208 : j < 224
  · exact pgMapAt (f := fun (E : mvE) => some (mvCd E)) (g := fun (w : Nat × Nat × Nat × Nat) => lw_tbl[w.1]?) pgCode_208 (by omega) (by omega) hE
  by_cases h224 : j < 240
  · exact pgMapAt (f := fun (E : mvE) => some (mvCd E)) (g := fun (w : Nat × Nat × Nat × Nat) => lw_tbl[w.1]?) pgCode_224 (by omega) (by omega) hE
  exact pgMapAt (f := fun (E : mvE) => some (mvCd E)) (g := fun (w : Nat × Nat × Nat × Nat) => lw_tbl[w.1]?) pgCode_240 (by omega) (by omega) hE
theorem pgCh2_in {j : Nat} {E : mvE} (h1 : pgM[j]? = some E) (hj : j ≠ 0) : ∃ w n, pgWs[j]? = some w ∧ pgPc[j]? = some n ∧ mvCd E ∈ pgT ∧ plainName E.1.cls = true ∧ E.2.2.1 ≤ 41 ∧ E.1.cls ≠ "java/lang/invoke/MethodHandle" ∧ E.1.cls ≠ "java/lang/invoke/VarHandle" ∧ Cond.initialized E.1.cls ∈ pgT ∧ (parseMethodDescriptor E.1.desc).map (fun d => d.parameters.length) = some n := by
  have hlt : j < 254 := by have := (List.getElem?_eq_some_iff.mp h1).1; rw [pgM_len] at this; exact this
  have h2 := pgCh2_ok hlt
  obtain ⟨w', hw', hc⟩ := pgCode_ok hj hlt h1
  unfold pgCh2 at h2
  rw [h1, hw'] at h2
  cases hn : pgPc[j]? with
  | none => rw [hn] at h2; cases h2
  | some n =>
    rw [hn] at h2
    simp only [Bool.and_eq_true, decide_eq_true_eq, Bool.or_eq_true] at h2
    rcases h2 with h2 | ⟨⟨⟨⟨⟨⟨h3, h4⟩, h5⟩, h6⟩, h7⟩, h8⟩, h9⟩
    · exact absurd h2 hj
    · exact ⟨w', n, hw', rfl, pgIn hc.symm h3, h4, h5, h6, h7, pgIn h8 rfl, h9⟩
theorem pg_okm (L : Nat) (xs : Nat → Int32) : mvOkm pgT (pgP L xs) := by
  intro j E hE hj
  obtain ⟨w, n, -, -, h1, h2, h3, h4, h5, -⟩ := pgCh2_in hE hj
  exact ⟨h1, h2, h3, h4, h5⟩
