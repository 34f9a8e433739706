/-! The loop's head: what the cells hold there. -/
def izI (a : amI) : Int := match a with
  | .inl x => x.toInt
  | .inr _ => 0
def hdM0 : Mm := fun a k => match pgH0[a]? with
  | some (.inl (_, _, .inl w)) => izI (amLk w k)
  | some (.inl (_, _, .inr _)) => 0
  | some (.inr (_, fs)) => (match fs[k]? with
    | some (.inl y) => izI y
    | _ => 0)
  | none => 0
def cst (c : amC) : Bool := match c with
  | .inl (_, _, .inl w) => w.all (fun q => match q.2 with
    | .inl _ => true
    | .inr _ => false)
  | .inl (_, _, .inr f) => f.isEmpty
  | .inr (_, fs) => fs.all (fun v => match v with
    | .inl (.inr _) => false
    | _ => true)
theorem pgH0_cst : pgH0.all cst = true := by decide +kernel
theorem amLk_cst : ∀ (w : List (Nat × amI)) (i : Nat), w.all (fun q => match q.2 with
    | .inl _ => true
    | .inr _ => false) = true → ∃ x : Int32, amLk w i = .inl x
  | [], _, _ => ⟨0, rfl⟩
  | (a, .inl x) :: t, i, h => by
    have h := (List.all_cons ..).symm.trans h
    by_cases e : i = a
    · exact ⟨x, by rw [amLk]; exact if_pos e⟩
    · obtain ⟨y, hy⟩ := amLk_cst t i (Bool.and_eq_true_iff.mp h).2
      exact ⟨y, by rw [amLk]; exact (if_neg e).trans hy⟩
  | (a, .inr x) :: t, i, h => by
    have h := (List.all_cons ..).symm.trans h
    exact absurd (Bool.and_eq_true_iff.mp h).1 Bool.false_ne_true
theorem pg0_rg (a k : Nat) : rg (hdM0 a k) := by
  have z : ∀ y : amI, rg (izI y) := fun y => by
    cases y with
    | inl x => exact iz_rg x
    | inr _ => show rg 0; unfold rg; omega
  unfold hdM0
  split
  · exact z _
  · show rg 0; unfold rg; omega
  · split
    · exact z _
    · show rg 0; unfold rg; omega
  · show rg 0; unfold rg; omega
theorem pg0_rp (xs : Nat → Int32) : rp (amGh xs (true, pgH0)) hdM0 := by
  refine ⟨pg0_rg, fun a c hc => ⟨amGc xs c, amHat (h := (true, pgH0)) hc, ?_⟩⟩
  have hcst : cst c = true := List.all_eq_true.mp pgH0_cst c (List.mem_of_getElem? hc)
  match c, hc, hcst with
  | .inl (t, n, .inl w), hc, hcst =>
    refine ⟨rfl, rfl, fun i _ => ?_⟩
    rw [amLk_eq]
    obtain ⟨x, hx⟩ := amLk_cst w i hcst
    have e : hdM0 a i = izI (amLk w i) := by unfold hdM0; rw [hc]
    rw [e, hx]
    exact (iz_back x).symm
  | .inl (t, n, .inr f), hc, hcst =>
    refine ⟨rfl, rfl, fun i _ => ?_⟩
    have e : hdM0 a i = 0 := by unfold hdM0; rw [hc]
    obtain rfl : f = [] := List.isEmpty_iff.mp hcst
    rw [e]
    rfl
  | .inr (ci, fs), hc, hcst =>
    refine ⟨rfl, List.length_map .., fun k v hv => ?_⟩
    rw [List.getElem?_map, hv]
    have hv2 := List.all_eq_true.mp hcst v (List.mem_of_getElem? hv)
    match v, hv, hv2 with
    | .inl (.inl x), hv, _ =>
      have e : hdM0 a k = x.toInt := by unfold hdM0; rw [hc]; simp only [hv]; rfl
      rw [e]
      show some (Sum.inl x) = some (Sum.inl (iz x.toInt))
      rw [iz_back]
    | .inl (.inr y), hv, hv2 => exact absurd hv2 Bool.false_ne_true
    | .inr y, hv, _ => rfl
theorem pg0_rel : Rel hdM0 hdM0 := by
  have e13 : hdM0 1 3 = 10 := by decide +kernel
  have e56 : hdM0 5 6 = 0 := by decide +kernel
  have e12 : hdM0 12 4 = 0 := by decide +kernel
  have e17 : hdM0 17 4 = 0 := by decide +kernel
  have f1 : hdM0 53 1 = 10 := by decide +kernel
  have f5 : hdM0 53 5 = 0 := by decide +kernel
  have f12 : hdM0 53 12 = 0 := by decide +kernel
  have f17 : hdM0 53 17 = 0 := by decide +kernel
  have f24 : hdM0 53 24 = 0 := by decide +kernel
  have f54 : hdM0 53 54 = 0 := by decide +kernel
  have g16 : hdM0 47 16 = -1 := by decide +kernel
  have t54 : ∀ t : Nat, t < 10 → hdM0 54 t = if t < 2 then (t : Int) else 2 := by decide +kernel
  have t4 : ∀ t : Nat, t < 10 → hdM0 4 t = if t < 2 then 0 else ((2 ^ (t - 2) : Nat) : Int) := by decide +kernel
  have t9 : ∀ i : Nat, i < 18 → hdM0 9 i = 0 ∧ hdM0 10 i = -1 ∧ hdM0 60 i = 0 := by decide +kernel
  have t7 : ∀ c : Nat, c < 6 → hdM0 7 c = 0 ∧ hdM0 58 c = 0 := by decide +kernel
  refine ⟨0, 0, ⟨⟨by omega, fun t h1 h2 => by omega⟩, ⟨by omega, t54, fun t h1 h2 => by omega⟩, ⟨t4, fun t h1 h2 => by omega⟩, ⟨by omega, fun e he => by omega⟩, ⟨by omega, fun e he => by omega⟩, ⟨by omega, fun c hc => by omega⟩, ⟨by omega, fun g hg => by omega⟩⟩, ⟨⟨e56, f5, by omega⟩, fun c hc => by omega, fun i hi => ?_⟩, fun c s u hc => by omega, ⟨f24, fun t ht => by omega, Nat.zero_le _, by omega, fun c _ hc => t7 c hc⟩, fun g hg => by omega, fun c s m hc => by omega, Or.inl ⟨f54, g16⟩⟩
  obtain ⟨a, b, c⟩ := t9 i hi
  exact ⟨by omega, Or.inl ⟨a, b⟩⟩
theorem pg0_lv (xs : Nat → Int32) : lvLe [(0, .inr (.inr (.inr 1))), (1, .inr (.inr (.inl (some 0)))), (2, .inr (.inr (.inl (some 53)))), (3, .inr (.inr (.inl (some 109)))), (4, .inl (iz 0))] (amGl xs pgL0) := by
  refine ⟨fun q hq => ?_, fun q hq => ?_, fun k v h => ?_⟩
  · simp only [List.mem_cons, List.not_mem_nil, or_false] at hq
    rcases hq with rfl | rfl | rfl | rfl | rfl <;> rfl
  · have hq : q ∈ ([(4, .inl 0), (3, .inr (.inr (.inl (some 109)))), (2, .inr (.inr (.inl (some 53)))), (1, .inr (.inr (.inl (some 0)))), (0, .inr (.inr (.inr 1)))] : mvL) := hq
    simp only [List.mem_cons, List.not_mem_nil, or_false] at hq
    rcases hq with rfl | rfl | rfl | rfl | rfl <;> rfl
  · match k, h with
    | 0, h => exact h
    | 1, h => exact h
    | 2, h => exact h
    | 3, h => exact h
    | 4, h => exact h
    | k + 5, h =>
      have z : mvLd [(0, .inr (.inr (.inr 1))), (1, .inr (.inr (.inl (some 0)))), (2, .inr (.inr (.inl (some 53)))), (3, .inr (.inr (.inl (some 109)))), (4, .inl (iz 0))] (k + 5) = none := by
        unfold mvLd
        rw [List.find?_eq_none.mpr (fun q hq => by
          simp only [List.mem_cons, List.not_mem_nil, or_false] at hq
          rcases hq with rfl | rfl | rfl | rfl | rfl <;> simp)]
        rfl
      rw [z] at h
      cases h
theorem whole_run (L : Nat) (xs : Nat → Int32) (hL : L ≤ 3584) : ∃ (n : Nat) (h : mvH) (kc ks : Nat), mvRun (pgP L xs) n 47 0 0 [(0, .inr (.inr (.inr 1)))] [] (true, []) = some (.inl (some (.inl 1)), h, kc, ks) ∧ kc ≤ 601024 ∧ ks ≤ 7293034 := by
  obtain ⟨n, M', h1, h2⟩ := law_loop (L := L) (xs := xs) hL 513 2000 hdM0 0 (by omega) (by omega) (by omega) (by omega) pg0_rel
  have ex := (d0 (L := L) (xs := xs) 2000).1 hdM0 0 (amGh xs (true, pgH0)) 1 n M' (by unfold rg; omega) h1 (pg0_rp xs) (by unfold rg; omega)
  obtain ⟨h', _, n0, hn⟩ := evx_lv (pg0_lv xs) ex
  have r := hn (1987 + n0) (by omega) 47 (by omega)
  refine ⟨2000 + n0, h', 110 + n, 819039 + 6 * n, ?_, by omega, by omega⟩
  rw [pgHeadN, r]
  rfl
theorem whole_start {p : Program} {e : Env} {s : State} {m : MethodId} {below : List Frame} {meth : Method} {c : Code} (l : Launch) (hl : l.stackTraces = false) {b : Addr} {xs : List Int32} (hbd : xs.length ≤ 3584) (C0 : lw_At p s m meth c b xs.length (fun j => xs.getD j 0)) : W p l e room_1 s m #[Value.ref b] below meth c s.heap [] 0 0 (lw_Z below #[Value.ref b] s) (entryFrame m ([Value.ref b] : List Value).toArray 7) := by
  obtain ⟨n, h, kc, ks, h1, h2, h3⟩ := whole_run xs.length (fun j => xs.getD j 0) hbd
  exact pgEnter l hl (by omega) C0 (by omega) h1 h2 h3
