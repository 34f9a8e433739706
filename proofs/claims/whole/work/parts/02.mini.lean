/-! A SMALL MACHINE. Its values: an int, a long, a place of the world (or none), an array from outside (the script, a table). Its cells: arrays of ints (0), of truth values (1), of longs (2); objects by the number of what they are of, and their fields. The cells made since the start stand in the order in which they were made: the k-th lies at the address N0 + k. -/
abbrev mvV : Type := Int32 ⊕ (Int64 ⊕ (Option Nat ⊕ Nat))
/-- what an array holds: what was written, the latest first; 0 elsewhere -/
def mvLk : List (Nat × Int32) → Nat → Int32
  | [], _ => 0
  | q :: t, i => if i = q.1 then q.2 else mvLk t i
def mvLl : List (Nat × Int64) → Nat → Int64
  | [], _ => 0
  | q :: t, i => if i = q.1 then q.2 else mvLl t i
abbrev mvC : Type := (Nat × Nat × (List (Nat × Int32) ⊕ List (Nat × Int64))) ⊕ (Nat × List mvV)
/-- true while nothing but these cells has been made -/
abbrev mvH : Type := Bool × List mvC
abbrev mvL : Type := List (Nat × mvV)
abbrev mvR : Type := Option mvV ⊕ String
abbrev mvO : Type := mvR × mvH × Nat × Nat
/-- a method: its name, its bytes, its locals, what it answers, its handlers -/
abbrev mvE : Type := MethodName × ByteArray × Nat × Option FieldType × List (Nat × Nat × Nat × Nat)
def mvCat (v : mvV) : Nat := match v with
  | .inr (.inl _) => 2
  | _ => 1
def mvLd (lv : mvL) (i : Nat) : Option mvV := (lv.find? (fun q => q.1 == i)).map (fun q => q.2)
def mvSv (lv : mvL) (i : Nat) (v : mvV) : mvL := (i, v) :: lv.filter (fun q => !(q.1 == i) && !(q.1 + 1 == i && mvCat q.2 == 2))
def mvIsA (v : mvV) : Bool := match v with
  | .inr (.inr (.inl (some _))) => true
  | .inr (.inr (.inr _)) => true
  | _ => false
def mvT (pc : Nat) (off : Int) : Option Nat := if 0 ≤ (pc : Int) + off then some ((pc : Int) + off).toNat else none
def mvC1 (c : Jvm.ClassFile.Cond) (x : Int32) : Bool := match c with
  | .eq => decide (x = 0)
  | .ne => decide (¬ x = 0)
  | .lt => decide (x < 0)
  | .ge => decide (0 ≤ x)
  | .gt => decide (0 < x)
  | .le => decide (x ≤ 0)
def mvC2 (c : Jvm.ClassFile.Cond) (x y : Int32) : Bool := match c with
  | .eq => decide (x = y)
  | .ne => decide (¬ x = y)
  | .lt => decide (x < y)
  | .ge => decide (y ≤ x)
  | .gt => decide (y < x)
  | .le => decide (x ≤ y)
def mvA2 (i : Instr) : Option (Int32 → Int32 → Int32) := match i with
  | .iadd => some (fun x y => x + y)
  | .isub => some (fun x y => x - y)
  | .imul => some (fun x y => x * y)
  | .iand => some (fun x y => x &&& y)
  | .ior => some (fun x y => x ||| y)
  | .ixor => some (fun x y => x ^^^ y)
  | .ishl => some (fun x y => x <<< (y &&& 31))
  | .ishr => some (fun x y => x >>> (y &&& 31))
  | .iushr => some (fun x y => (x.toUInt32 >>> (y.toUInt32 &&& Int32.toUInt32 31)).toInt32)
  | _ => none
/-- loads and constants: what comes onto the stack, the length -/
def mvF1 (i : Instr) (lv : mvL) : Option (mvV × Nat) := match i with
  | .iconst k => some (.inl (Int32.ofInt k), 1)
  | .bipush k => some (.inl (Int8.ofInt k).toInt32, 2)
  | .sipush k => some (.inl (Int16.ofInt k).toInt32, 3)
  | .lconst k => some (.inr (.inl (Int64.ofNat (k : Nat))), 1)
  | .iload_n k => match mvLd lv k with
    | some (.inl x) => some (.inl x, 1)
    | _ => none
  | .iload k => match mvLd lv k with
    | some (.inl x) => some (.inl x, 2)
    | _ => none
  | .aload_n k => match mvLd lv k with
    | some v => if mvIsA v = true then some (v, 1) else none
    | none => none
  | .aload k => match mvLd lv k with
    | some v => if mvIsA v = true then some (v, 2) else none
    | none => none
  | _ => none
/-- stores and iinc: which local, its new value, the rest of the stack, the length -/
def mvF2 (i : Instr) (lv : mvL) (st : List mvV) : Option (Nat × mvV × List mvV × Nat) := match i with
  | .istore_n k => match st with
    | .inl x :: r => some (k, .inl x, r, 1)
    | _ => none
  | .istore k => match st with
    | .inl x :: r => some (k, .inl x, r, 2)
    | _ => none
  | .astore_n k => match st with
    | v :: r => if mvIsA v = true then some (k, v, r, 1) else none
    | _ => none
  | .astore k => match st with
    | v :: r => if mvIsA v = true then some (k, v, r, 2) else none
    | _ => none
  | .iinc k n => match mvLd lv k with
    | some (.inl x) => some (k, .inl (x + Int32.ofInt n), st, 3)
    | _ => none
  | _ => none
/-- the stack alone; all of one byte -/
def mvF3 (i : Instr) (st : List mvV) : Option (List mvV) := match i with
  | .idiv => match st with
    | .inl y :: .inl x :: r => if y = 0 then none else some (.inl (x / y) :: r)
    | _ => none
  | .irem => match st with
    | .inl y :: .inl x :: r => if y = 0 then none else some (.inl (x - x / y * y) :: r)
    | _ => none
  | .i2l => match st with
    | .inl x :: r => some (.inr (.inl x.toInt64) :: r)
    | _ => none
  | .lcmp => match st with
    | .inr (.inl y) :: .inr (.inl x) :: r => some (.inl (lg_cmp x y) :: r)
    | _ => none
  | .dup => match st with
    | v :: r => if mvCat v = 1 then some (v :: v :: r) else none
    | _ => none
  | .pop => match st with
    | v :: r => if mvCat v = 1 then some r else none
    | _ => none
  | .dup_x1 => match st with
    | v :: w :: r => if mvCat v = 1 ∧ mvCat w = 1 then some (v :: w :: v :: r) else none
    | _ => none
  | .dup_x2 => match st with
    | v :: w :: z :: r => if mvCat v = 1 ∧ mvCat w = 1 ∧ mvCat z = 1 then some (v :: w :: z :: v :: r) else none
    | _ => none
  | .dup2 => match st with
    | v :: w :: r => if mvCat v = 1 ∧ mvCat w = 1 then some (v :: w :: v :: w :: r) else none
    | _ => none
  | _ => none
/-- branches: where to, the rest of the stack -/
def mvF4 (i : Instr) (pc : Nat) (st : List mvV) : Option (Nat × List mvV) := match i with
  | .ifCond c off => match st with
    | .inl x :: r => match mvT pc off with
      | some t => some (if mvC1 c x = true then t else pc + 3, r)
      | none => none
    | _ => none
  | .if_icmp c off => match st with
    | .inl y :: .inl x :: r => match mvT pc off with
      | some t => some (if mvC2 c x y = true then t else pc + 3, r)
      | none => none
    | _ => none
  | .goto off => (mvT pc off).map (fun t => (t, st))
  | _ => none
def mvF5 (i : Instr) (pc : Nat) (st : List mvV) : Option (Nat × List mvV) := match i with
  | .tableswitch dflt lo hi offs => match st with
    | .inl x :: r => if x.toInt < lo ∨ hi < x.toInt then (mvT pc dflt).map (fun t => (t, r)) else match offs[(x.toInt - lo).toNat]? with
      | some off => (mvT pc off).map (fun t => (t, r))
      | none => none
    | _ => none
  | _ => none
/-- a step that leaves the cells alone -/
def mvF (i : Instr) (len pc nL : Nat) (lv : mvL) (st : List mvV) : Option (Nat × mvL × List mvV) :=
  match mvF1 i lv with
  | some (v, n) => if len = n then some (pc + n, lv, v :: st) else none
  | none => match mvF2 i lv st with
    | some (k, v, r, n) => if len = n ∧ k < nL then some (pc + n, mvSv lv k v, r) else none
    | none => match mvA2 i with
      | some f => match st with
        | .inl y :: .inl x :: r => if len = 1 then some (pc + 1, lv, .inl (f x y) :: r) else none
        | _ => none
      | none => match mvF3 i st with
        | some st' => if len = 1 then some (pc + 1, lv, st') else none
        | none => match mvF4 i pc st with
          | some (pc', r) => if len = 3 then some (pc', lv, r) else none
          | none => (mvF5 i pc st).map (fun q => (q.1, lv, q.2))
/-- what they stand for -/
def mvCv (N0 : Nat) (xa : Nat → Nat) (v : mvV) : Value := match v with
  | .inl x => .int x
  | .inr (.inl x) => .long x
  | .inr (.inr (.inl none)) => .null
  | .inr (.inr (.inl (some k))) => .ref (N0 + k)
  | .inr (.inr (.inr i)) => .ref (xa i)
def mvCE (N0 : Nat) (xa : Nat → Nat) (cA : Nat → ClassId) (c : mvC) : va_E := match c with
  | .inl (t, n, .inl f) => .inl (cA t, n, .inl (mvLk f))
  | .inl (t, n, .inr f) => .inl (cA t, n, .inr (.inl (mvLl f)))
  | .inr (ci, fs) => .inr (ci, fs.map (mvCv N0 xa))
def mvWs (N0 : Nat) (xa : Nat → Nat) (cA : Nat → ClassId) : Nat → List mvC → va_W
  | _, [] => []
  | a, c :: t => (a, mvCE N0 xa cA c) :: mvWs N0 xa cA (a + 1) t
def mvCl (N0 : Nat) (xa : Nat → Nat) (lv : mvL) : List (Nat × Value) := lv.map (fun q => (q.1, mvCv N0 xa q.2))
theorem mvCv_cat (N0 : Nat) (xa : Nat → Nat) (v : mvV) : (mvCv N0 xa v).category = mvCat v := by
  rcases v with x | x | (_ | k) | i <;> rfl
theorem mvCv_A {N0 : Nat} {xa : Nat → Nat} {v : mvV} (h : mvIsA v = true) : ∃ a, mvCv N0 xa v = .ref a := by
  rcases v with x | x | (_ | k) | i
  · cases h
  · cases h
  · cases h
  · exact ⟨_, rfl⟩
  · exact ⟨_, rfl⟩
theorem mvCl_ld {N0 : Nat} {xa : Nat → Nat} {lv : mvL} {i : Nat} {v : mvV} (h : mvLd lv i = some v) : (i, mvCv N0 xa v) ∈ mvCl N0 xa lv := by
  unfold mvLd at h
  cases hf : lv.find? (fun q => q.1 == i) with
  | none => rw [hf] at h; cases h
  | some q =>
    rw [hf] at h
    cases h
    have h1 := List.mem_of_find?_eq_some hf
    have h2 := List.find?_some hf
    have h3 : q.1 = i := by simpa using h2
    rw [← h3]
    exact List.mem_map.mpr ⟨q, h1, rfl⟩
theorem mvCl_sv (N0 : Nat) (xa : Nat → Nat) (lv : mvL) (i : Nat) (v : mvV) : (i, mvCv N0 xa v) :: (mvCl N0 xa lv).filter (fun q => !(q.1 == i) && !(q.1 + 1 == i && q.2.category == 2)) = mvCl N0 xa (mvSv lv i v) := by
  unfold mvSv mvCl
  rw [List.map_cons, List.filter_map]
  congr 2
  apply List.filter_congr
  intro q _
  simp [Function.comp, mvCv_cat]
theorem mvHas {ls : Array Slot} {nL : Nat} {l : List (Nat × Value)} (h : lv_has ls nL l) {i : Nat} {v : Value} (hm : (i, v) ∈ l) : ls[i]? = some (.val v) := h.2.2 (i, v) hm
theorem mvT_eq {pc t : Nat} {off : Int} (h : mvT pc off = some t) : (pc : Int) + off = (t : Int) := by
  unfold mvT at h
  split at h
  · cases h
    omega
  · cases h
section MV
variable {p : Program} {l : Launch} {e : Env} {R : Room} {s : State} {m : MethodId} {args : Array Value} {below : List Frame} {meth : Method} {c : Code} {H : Heap} {locs : List Loc} {cells slots : Nat} {Q : State → Prop}
variable {cc : ByteArray} {pc nL len : Nat} {ls : Array Slot} {N0 : Nat} {xa : Nat → Nat} {lv : mvL} {st : List mvV} {i : Instr}
theorem mvF1_ok (hx : p.tables.exec = Jvm.exec) (hb : c.code = cc) (hl : lv_has ls nL (mvCl N0 xa lv)) {v : mvV} {n : Nat} (hs : mvF1 i lv = some (v, n)) (hdg : decode cc pc = .ok (i, n))
    (k : W p l e R s m args below meth c H locs cells slots Q (F0 m (pc + n) ls ((v :: st).map (mvCv N0 xa)))) : W p l e R s m args below meth c H locs cells slots Q (F0 m pc ls (st.map (mvCv N0 xa))) := by
  unfold mvF1 at hs
  split at hs
  · cases hs; exact lv_iconst hx hb hdg rfl k
  · cases hs; exact lv_bipush hx hb hdg rfl k
  · cases hs; exact lv_sipush hx hb hdg rfl k
  · cases hs; exact lv_lconst hx hb hdg rfl k
  · split at hs
    · rename_i h; cases hs; exact lv_iload_n hx hb hdg rfl (mvHas hl (mvCl_ld h)) k
    · cases hs
  · split at hs
    · rename_i h; cases hs; exact lv_iload hx hb hdg (mvHas hl (mvCl_ld h)) k
    · cases hs
  · split at hs
    · rename_i w h
      split at hs
      · rename_i hA
        cases hs
        obtain ⟨a, ha⟩ := mvCv_A (N0 := N0) (xa := xa) hA
        have h1 := mvHas hl (mvCl_ld h)
        rw [ha] at h1
        rw [List.map_cons, ha] at k
        exact lv_aload_n hx hb hdg rfl h1 k
      · cases hs
    · cases hs
  · split at hs
    · rename_i w h
      split at hs
      · rename_i hA
        cases hs
        obtain ⟨a, ha⟩ := mvCv_A (N0 := N0) (xa := xa) hA
        have h1 := mvHas hl (mvCl_ld h)
        rw [ha] at h1
        rw [List.map_cons, ha] at k
        exact lv_aload hx hb hdg h1 k
      · cases hs
    · cases hs
  · cases hs
theorem mvF2_ok (hx : p.tables.exec = Jvm.exec) (hb : c.code = cc) (hl : lv_has ls nL (mvCl N0 xa lv)) {q n : Nat} {v : mvV} {r : List mvV} (hs : mvF2 i lv st = some (q, v, r, n)) (hq : q < nL) (hdg : decode cc pc = .ok (i, n))
    (k : ∀ ls', lv_has ls' nL (mvCl N0 xa (mvSv lv q v)) → W p l e R s m args below meth c H locs cells slots Q (F0 m (pc + n) ls' (r.map (mvCv N0 xa)))) : W p l e R s m args below meth c H locs cells slots Q (F0 m pc ls (st.map (mvCv N0 xa))) := by
  have e1 := mvCl_sv N0 xa lv q v
  unfold mvF2 at hs
  split at hs
  · split at hs
    · cases hs; exact lv_istore_n hx hb hdg rfl hl hq e1 k
    · cases hs
  · split at hs
    · cases hs; exact lv_istore hx hb hdg hl hq e1 k
    · cases hs
  · split at hs
    · split at hs
      · rename_i hA
        cases hs
        obtain ⟨a, ha⟩ := mvCv_A (N0 := N0) (xa := xa) hA
        rw [ha] at e1
        rw [List.map_cons, ha]
        exact lv_astore_n hx hb hdg rfl hl hq e1 k
      · cases hs
    · cases hs
  · split at hs
    · split at hs
      · rename_i hA
        cases hs
        obtain ⟨a, ha⟩ := mvCv_A (N0 := N0) (xa := xa) hA
        rw [ha] at e1
        rw [List.map_cons, ha]
        exact lv_astore hx hb hdg hl hq e1 k
      · cases hs
    · cases hs
  · split at hs
    · rename_i h
      cases hs
      obtain ⟨j, hj⟩ := List.getElem?_of_mem (mvCl_ld (N0 := N0) (xa := xa) h)
      exact lv_iinc hx hb hdg hl (k := j) hj rfl hq e1 k
    · cases hs
  · cases hs
theorem mvA2_ok (hx : p.tables.exec = Jvm.exec) (hb : c.code = cc) {f : Int32 → Int32 → Int32} {x y : Int32} {r : List Value} (hs : mvA2 i = some f) (hdg : decode cc pc = .ok (i, 1))
    (k : W p l e R s m args below meth c H locs cells slots Q (F0 m (pc + 1) ls (.int (f x y) :: r))) : W p l e R s m args below meth c H locs cells slots Q (F0 m pc ls (.int y :: .int x :: r)) := by
  unfold mvA2 at hs
  split at hs
  · cases hs; exact lv_iadd hx hb hdg k
  · cases hs; exact lv_isub hx hb hdg k
  · cases hs; exact lv_imul hx hb hdg k
  · cases hs; exact lv_iand hx hb hdg k
  · cases hs; exact lv_ior hx hb hdg k
  · cases hs; exact lv_ixor hx hb hdg k
  · cases hs; exact lv_ishl hx hb hdg k
  · cases hs; exact lv_ishr hx hb hdg k
  · cases hs; exact lv_iushr hx hb hdg rfl k
  · cases hs
theorem mvF3_ok (hx : p.tables.exec = Jvm.exec) (hb : c.code = cc) {st' : List mvV} (hs : mvF3 i st = some st') (hdg : decode cc pc = .ok (i, 1))
    (k : W p l e R s m args below meth c H locs cells slots Q (F0 m (pc + 1) ls (st'.map (mvCv N0 xa)))) : W p l e R s m args below meth c H locs cells slots Q (F0 m pc ls (st.map (mvCv N0 xa))) := by
  unfold mvF3 at hs
  split at hs
  · split at hs
    · split at hs
      · cases hs
      · rename_i hne; cases hs; exact lv_idiv hx hb hdg hne k
    · cases hs
  · split at hs
    · split at hs
      · cases hs
      · rename_i hne; cases hs; exact lv_irem hx hb hdg hne k
    · cases hs
  · split at hs
    · cases hs; exact lv_i2l hx hb hdg rfl k
    · cases hs
  · split at hs
    · cases hs; exact W.lcmp hx hb hdg k
    · cases hs
  · split at hs
    · split at hs
      · rename_i h1; cases hs; exact lv_dup hx hb hdg ((mvCv_cat N0 xa _).trans h1) k
      · cases hs
    · cases hs
  · split at hs
    · split at hs
      · rename_i h1; cases hs; exact lv_pop hx hb hdg ((mvCv_cat N0 xa _).trans h1) k
      · cases hs
    · cases hs
  · split at hs
    · split at hs
      · rename_i h1; cases hs; exact lv_dup_x1 hx hb hdg ((mvCv_cat N0 xa _).trans h1.1) ((mvCv_cat N0 xa _).trans h1.2) k
      · cases hs
    · cases hs
  · split at hs
    · split at hs
      · rename_i h1; cases hs; exact lv_dup_x2 hx hb hdg ((mvCv_cat N0 xa _).trans h1.1) ((mvCv_cat N0 xa _).trans h1.2.1) ((mvCv_cat N0 xa _).trans h1.2.2) k
      · cases hs
    · cases hs
  · split at hs
    · split at hs
      · rename_i h1; cases hs; exact lv_dup2_11 hx hb hdg ((mvCv_cat N0 xa _).trans h1.1) ((mvCv_cat N0 xa _).trans h1.2) k
      · cases hs
    · cases hs
  · cases hs
theorem mvIf {b : Bool} {P : Prop} {t t3 : Nat} {st' : List Value} (hb : b = true ↔ P) (k : W p l e R s m args below meth c H locs cells slots Q (F0 m (if b = true then t else t3) ls st')) :
    (P → W p l e R s m args below meth c H locs cells slots Q (F0 m t ls st')) ∧ (¬ P → W p l e R s m args below meth c H locs cells slots Q (F0 m t3 ls st')) := by
  refine ⟨fun h => ?_, fun h => ?_⟩
  · rw [if_pos (hb.mpr h)] at k; exact k
  · rw [if_neg (fun q => h (hb.mp q))] at k; exact k
theorem mvF4_ok (hx : p.tables.exec = Jvm.exec) (hb : c.code = cc) {pc' : Nat} {r : List mvV} (hs : mvF4 i pc st = some (pc', r)) (hdg : decode cc pc = .ok (i, 3))
    (k : W p l e R s m args below meth c H locs cells slots Q (F0 m pc' ls (r.map (mvCv N0 xa)))) : W p l e R s m args below meth c H locs cells slots Q (F0 m pc ls (st.map (mvCv N0 xa))) := by
  unfold mvF4 at hs
  split at hs
  · rename_i c0 off
    split at hs
    · split at hs
      · rename_i t ht
        have h9 := mvT_eq ht
        cases hs
        rcases c0
        · obtain ⟨k1, k2⟩ := mvIf decide_eq_true_iff k; exact lv_if_eq hx hb hdg h9 k1 k2
        · obtain ⟨k1, k2⟩ := mvIf decide_eq_true_iff k; exact lv_if_ne hx hb hdg h9 k1 (fun q => k2 (fun z => z q))
        · obtain ⟨k1, k2⟩ := mvIf decide_eq_true_iff k; exact lv_if_lt hx hb hdg h9 k1 k2
        · obtain ⟨k1, k2⟩ := mvIf decide_eq_true_iff k; exact lv_if_ge hx hb hdg h9 k1 k2
        · obtain ⟨k1, k2⟩ := mvIf decide_eq_true_iff k; exact lv_if_gt hx hb hdg h9 k1 k2
        · obtain ⟨k1, k2⟩ := mvIf decide_eq_true_iff k; exact lv_if_le hx hb hdg h9 k1 k2
      · cases hs
    · cases hs
  · rename_i c0 off
    split at hs
    · split at hs
      · rename_i t ht
        have h9 := mvT_eq ht
        cases hs
        rcases c0
        · obtain ⟨k1, k2⟩ := mvIf decide_eq_true_iff k; exact lv_icmp_eq hx hb hdg h9 k1 k2
        · obtain ⟨k1, k2⟩ := mvIf decide_eq_true_iff k; exact lv_icmp_ne hx hb hdg h9 k1 (fun q => k2 (fun z => z q))
        · obtain ⟨k1, k2⟩ := mvIf decide_eq_true_iff k; exact lv_icmp_lt hx hb hdg h9 k1 k2
        · obtain ⟨k1, k2⟩ := mvIf decide_eq_true_iff k; exact lv_icmp_ge hx hb hdg h9 k1 k2
        · obtain ⟨k1, k2⟩ := mvIf decide_eq_true_iff k; exact lv_icmp_gt hx hb hdg h9 k1 k2
        · obtain ⟨k1, k2⟩ := mvIf decide_eq_true_iff k; exact lv_icmp_le hx hb hdg h9 k1 k2
      · cases hs
    · cases hs
  · rename_i off
    cases ht : mvT pc off with
    | none => rw [ht] at hs; cases hs
    | some t => rw [ht] at hs; cases hs; exact lv_goto hx hb hdg (mvT_eq ht) k
  · cases hs
theorem mvF5_ok (hx : p.tables.exec = Jvm.exec) (hb : c.code = cc) {pc' : Nat} {r : List mvV} (hs : mvF5 i pc st = some (pc', r)) (hdg : decode cc pc = .ok (i, len))
    (k : W p l e R s m args below meth c H locs cells slots Q (F0 m pc' ls (r.map (mvCv N0 xa)))) : W p l e R s m args below meth c H locs cells slots Q (F0 m pc ls (st.map (mvCv N0 xa))) := by
  unfold mvF5 at hs
  split at hs
  · split at hs
    · split at hs
      · rename_i h
        cases ht : mvT pc _ with
        | none => rw [ht] at hs; cases hs
        | some t => rw [ht] at hs; cases hs; exact lv_tableOut hx hb hdg h (mvT_eq ht) k
      · rename_i h
        split at hs
        · rename_i off ho
          cases ht : mvT pc off with
          | none => rw [ht] at hs; cases hs
          | some t => rw [ht] at hs; cases hs; exact lv_tableIn hx hb hdg (fun q => h (Or.inl q)) (fun q => h (Or.inr q)) ho (mvT_eq ht) k
        · cases hs
    · cases hs
  · cases hs
theorem mvF_ok (hx : p.tables.exec = Jvm.exec) (hb : c.code = cc) (hl : lv_has ls nL (mvCl N0 xa lv)) {pc' : Nat} {lv' : mvL} {st' : List mvV} (hs : mvF i len pc nL lv st = some (pc', lv', st')) (hdg : decode cc pc = .ok (i, len))
    (k : ∀ ls', lv_has ls' nL (mvCl N0 xa lv') → W p l e R s m args below meth c H locs cells slots Q (F0 m pc' ls' (st'.map (mvCv N0 xa)))) : W p l e R s m args below meth c H locs cells slots Q (F0 m pc ls (st.map (mvCv N0 xa))) := by
  unfold mvF at hs
  split at hs
  · rename_i v n h
    split at hs
    · rename_i hn
      cases hs
      rw [hn] at hdg
      exact mvF1_ok hx hb hl h hdg (k ls hl)
    · cases hs
  · split at hs
    · rename_i q v r n h
      split at hs
      · rename_i hn
        cases hs
        rw [hn.1] at hdg
        exact mvF2_ok hx hb hl h hn.2 hdg k
      · cases hs
    · split at hs
      · rename_i f h
        split at hs
        · split at hs
          · rename_i hn
            cases hs
            rw [hn] at hdg
            exact mvA2_ok hx hb h hdg (k ls hl)
          · cases hs
        · cases hs
      · split at hs
        · rename_i st1 h
          split at hs
          · rename_i hn
            cases hs
            rw [hn] at hdg
            exact mvF3_ok hx hb h hdg (k ls hl)
          · cases hs
        · split at hs
          · rename_i pc1 r h
            split at hs
            · rename_i hn
              cases hs
              rw [hn] at hdg
              exact mvF4_ok hx hb h hdg (k ls hl)
            · cases hs
          · cases h : mvF5 i pc st with
            | none => rw [h] at hs; cases hs
            | some q =>
              rw [h] at hs
              cases hs
              exact mvF5_ok hx hb h hdg (k ls hl)
end MV
