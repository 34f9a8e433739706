/-! The program as the small machine takes it, and what the words say of it. -/
def pgT : List Cond := lw_tbl.filter goodWord
def pgAt {α : Type} (T : List (List α)) (j : Nat) : List α := match pgK[j]? with
  | some k => T.getD k.1 []
  | none => []
def pgMm (j : Nat) : Option mvE := pgM[j]?
def pgFf (j idx : Nat) : Option (Nat × Nat × Nat) := ((pgAt pgFs j).find? (fun q => q.1 == idx)).map (fun q => (q.2.1, q.2.2.1, match q.2.2.2.1, pgK[j]? with
  | 2, some (_, true) => 2
  | 2, _ => 3
  | kd, _ => kd))
def pgIi (j idx : Nat) : Option (Nat × Nat × Nat) := ((pgAt pgIs j).find? (fun q => q.1 == idx)).map (fun q => (q.2.1, q.2.2.1, q.2.2.2.1))
def pgDf (r : vw_C) : List mvV := (List.range r.2.2).map (fun k => match parseFieldDescriptor (r.2.1 k).2.2.1 with
  | some .int => .inl 0
  | some .boolean => .inl 0
  | _ => .inr (.inr (.inl none)))
def pgNn (j idx : Nat) : Option (Nat × List mvV) := ((pgAt pgNs j).find? (fun q => q.1 == idx)).map (fun q => (q.2.1, match pgCl[q.2.1]? with
  | some r => pgDf r
  | none => []))
def pgSf (j idx : Nat) : Option Nat := ((pgAt pgSs j).find? (fun q => q.1 == idx)).map (fun _ => 0)
def pgKf (j idx : Nat) : Option Int32 := ((pgAt pgKs j).find? (fun q => q.1 == idx)).map (fun q => q.2.1)
def pgOo (j idx : Nat) : Bool := if j < 100000 then (pgAt pgOs j).any (fun q => q.1 == idx) else if j < 200000 then (pgAt pgYs (j - 100000)).any (fun q => q.1 == idx) else if j < 300000 then (pgAt pgY2 (j - 200000)).any (fun q => q.1 == idx) else (pgAt pgY3 (j - 300000)).any (fun q => q.1 == idx)
def pgRq (ex : String) (as : List mvV) (h : mvH) : Option mvO := match as with
  | [.inl x] => if x = 0 then some (.inr ex, (false, h.2), 1, 6) else some (.inl none, h, 0, 0)
  | _ => none
def pgHf (j pc : Nat) (ex : String) : Option (Nat × Nat × Nat) := match pgM[j]?, (pgHs.getD j []).find? (fun q => q.1 == ex) with
  | some E, some q => match E.2.2.2.2[q.2.1]? with
    | some r => if r.1 ≤ pc ∧ pc < r.2.1 then some (q.2.2.1, q.2.2.2.1, q.2.2.2.2.1) else none
    | none => none
  | _, _ => none
def pgAa (j : Nat) : Int32 := [0, 0, 2, 2, 3, 0, 2, 3].getD j 0
def pgX (L : Nat) (xs : Nat → Int32) (o : Nat) : Option (Nat × (Nat → Int32)) := match o with
  | 0 => some (8, pgAa)
  | 1 => some (L, xs)
  | _ => none
/-- without the script -/
def pgX0 (o : Nat) : Option (Nat × (Nat → Int32)) := match o with
  | 0 => some (8, pgAa)
  | _ => none
def pgNl : List Cond := pgNi.filterMap (fun i => lw_tbl[i]?)
theorem pgNl_in {i : Nat} {w : Cond} (h : lw_tbl[i]? = some w) (hi : i ∈ pgNi) : w ∈ pgNl := List.mem_filterMap.mpr ⟨i, hi, h⟩
theorem pgIn {i : Nat} {w : Cond} (h : lw_tbl[i]? = some w) (hg : goodWord w = true) : w ∈ pgT := List.mem_filter.mpr ⟨List.mem_of_getElem? h, hg⟩
theorem pgAll {α : Type} {T : List (List α)} {chk : Nat → α → Bool} (h : (List.range T.length).all (fun c => (T.getD c []).all (chk c)) = true) {c : Nat} {q : α} (hq : q ∈ T.getD c []) : chk c q = true := by
  by_cases hc : c < T.length
  · exact List.all_eq_true.mp (List.all_eq_true.mp h c (List.mem_range.mpr hc)) q hq
  · rw [List.getD_eq_getElem?_getD, List.getElem?_eq_none (by omega)] at hq
    cases hq
theorem pgAt_in {α : Type} {T : List (List α)} {j : Nat} {q : α} (h : q ∈ pgAt T j) : ∃ k, pgK[j]? = some k ∧ q ∈ T.getD k.1 [] := by
  unfold pgAt at h
  split at h
  · rename_i k hk
    exact ⟨k, hk, h⟩
  · cases h
theorem pgFnd {α : Type} {l : List α} {f : α → Bool} {q : α} (h : l.find? f = some q) : q ∈ l ∧ f q = true := ⟨List.mem_of_find?_eq_some h, List.find?_some h⟩
/-- methods: of what, and which make objects -/
def pgChM (j : Nat) : Bool := match pgM[j]?, pgK[j]? with
  | some E, some k => decide (E.1.cls = pgN.getD k.1 "") && (!k.2 || decide (E.1.name = "<init>"))
  | _, _ => false
set_option maxRecDepth 100000 in
theorem pgChM_ok : (List.range pgM.length).all pgChM = true := by decide +kernel
theorem pgM_in {j : Nat} {E : mvE} (h : pgMm j = some E) : ∃ k, pgK[j]? = some k ∧ E.1.cls = pgN.getD k.1 "" ∧ (k.2 = true → E.1.name = "<init>") := by
  have h1 : pgM[j]? = some E := h
  have h2 := List.all_eq_true.mp pgChM_ok j (List.mem_range.mpr (List.getElem?_eq_some_iff.mp h1).1)
  unfold pgChM at h2
  rw [h1] at h2
  cases hk : pgK[j]? with
  | none => rw [hk] at h2; cases h2
  | some k =>
    rw [hk] at h2
    simp only [Bool.and_eq_true, decide_eq_true_eq, Bool.or_eq_true, Bool.not_eq_true'] at h2
    exact ⟨k, rfl, h2.1, fun q => by rcases h2.2 with z | z; rw [q] at z; cases z; exact z⟩
/-- the world's: the words of their fields -/
def pgChC (i : Nat) : Bool := match pgCl[i]? with
  | some r => decide ((List.range r.2.2).map (fun k => some (u_lay r.1 r.2.1 k)) = (pgLs.getD i []).map (fun w => lw_tbl[w]?)) && (List.range r.2.2).all (fun k => goodWord (u_lay r.1 r.2.1 k) && (parseFieldDescriptor (r.2.1 k).2.2.1).isSome) && (List.range r.2.2).all (fun a => (List.range r.2.2).all (fun b => decide (a = b) || decide ((r.2.1 a).2.1 ≠ (r.2.1 b).2.1)))
  | none => false
set_option maxRecDepth 100000 in
theorem pgChC_ok : (List.range pgCl.length).all pgChC = true := by decide +kernel
theorem pgOf {i : Nat} {r : vw_C} (h : pgCl[i]? = some r) : mvOf pgT r := by
  have h2 := List.all_eq_true.mp pgChC_ok i (List.mem_range.mpr (List.getElem?_eq_some_iff.mp h).1)
  unfold pgChC at h2
  rw [h] at h2
  simp only [Bool.and_eq_true, decide_eq_true_eq, List.all_eq_true, List.mem_range, Bool.or_eq_true] at h2
  obtain ⟨⟨h3, h4⟩, h5⟩ := h2
  refine ⟨fun w hw => ?_, ⟨fun k => (parseFieldDescriptor (r.2.1 k).2.2.1).getD .int, fun k hk => ?_⟩, fun a ha b hb hne => ?_⟩
  · obtain ⟨k, hk, rfl⟩ := List.mem_map.mp hw
    have hk := List.mem_range.mp hk
    have h6 : some (u_lay r.1 r.2.1 k) ∈ (pgLs.getD i []).map (fun w => lw_tbl[w]?) := by
      rw [← h3]
      exact List.mem_map.mpr ⟨k, List.mem_range.mpr hk, rfl⟩
    obtain ⟨w, -, h7⟩ := List.mem_map.mp h6
    exact pgIn h7 (h4 k hk).1
  · have h8 := (h4 k hk).2
    cases hp : parseFieldDescriptor (r.2.1 k).2.2.1 with
    | none => rw [hp] at h8; cases h8
    | some t => simp [hp]
  · rcases h5 a ha b hb with z | z
    · exact absurd z hne
    · exact z
