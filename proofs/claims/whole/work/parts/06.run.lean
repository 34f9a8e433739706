/-! The small machine runs. n: how many turns; d: how many calls deep it may go. -/
def mvArgs : Nat → List mvV → mvL
  | _, [] => []
  | i, v :: t => (i, v) :: mvArgs (i + 1) t
def mvAdd (dc ds : Nat) (o : Option mvO) : Option mvO := o.map (fun q => (q.1, q.2.1, dc + q.2.2.1, ds + q.2.2.2))
def mvSum (st : List mvV) : Nat := (st.map mvCat).sum
/-- a step over the cells: where to, the stack, the cells, how many cells and slots are new -/
def mvG (P : mvP) (j d : Nat) (i : Instr) (len pc : Nat) (st : List mvV) (h : mvH) : Option (Nat × List mvV × mvH × Nat × Nat) :=
  match mvG1 P j i st h with
  | some (st', h') => if len = 3 then some (pc + 3, st', h', 0, 0) else none
  | none => match mvG2 P i st h with
    | some (st', h') => if len = 1 then some (pc + 1, st', h', 0, 0) else none
    | none => match mvG3 P j i st h with
      | some (st', h', ns, n) => if len = n then some (pc + n, st', h', 1, ns) else none
      | none => match mvG4 P j i with
        | some (v, n) => if len = n then some (pc + n, v :: st, h, 0, 0) else none
        | none => match i with
          | .invokespecial idx => match st with
            | .inr (.inr (.inl (some _))) :: r => if mvPo P j idx = true ∧ len = 3 ∧ mvSum r ≤ 8 ∧ 1 ≤ d then some (pc + 3, r, h, 0, 0) else none
            | _ => none
          | _ => none
/-- an end: the answer -/
def mvFin (E : mvE) (i : Instr) (len : Nat) (st : List mvV) : Option (Option mvV) := if len = 1 then (match i with
  | .return_ => match st, E.2.2.2.1 with
    | [], none => some none
    | _, _ => none
  | .ireturn => match st, E.2.2.2.1 with
    | [.inl x], some .int => some (some (.inl x))
    | [.inl x], some .boolean => if x = 0 ∨ x = 1 then some (some (.inl x)) else none
    | _, _ => none
  | .areturn => match st, E.2.2.2.1 with
    | [.inr (.inr (.inl (some a)))], some (.object _) => some (some (.inr (.inr (.inl (some a)))))
    | [.inr (.inr (.inl (some a)))], some (.array _) => some (some (.inr (.inr (.inl (some a)))))
    | _, _ => none
  | _ => none) else none
/-- a call: which method, with what, what is left on the stack -/
def mvInv (P : mvP) (j : Nat) (i : Instr) (len : Nat) (st : List mvV) (h : mvH) : Option (Nat × List mvV × List mvV) := match i with
  | .invokestatic idx => match mvPi P j idx with
    | some (j', n, 100) => if n ≤ st.length ∧ len = 3 then some (j', (st.take n).reverse, st.drop n) else none
    | _ => none
  | .invokevirtual idx => match mvPi P j idx with
    | some (j', n, ci) => match st.drop n with
      | .inr (.inr (.inl (some a))) :: r => match h.2[a]? with
        | some (.inr (ci', _)) => if n ≤ st.length ∧ len = 3 ∧ ci' = ci ∧ ci < 100 then some (j', .inr (.inr (.inl (some a))) :: (st.take n).reverse, r) else none
        | _ => none
      | _ => none
    | _ => none
  | .invokespecial idx => match mvPi P j idx with
    | some (j', n, ci) => match st.drop n with
      | .inr (.inr (.inl (some a))) :: r => if n ≤ st.length ∧ len = 3 ∧ (ci = 101 ∨ ci = 102) then some (j', .inr (.inr (.inl (some a))) :: (st.take n).reverse, r) else none
      | _ => none
    | _ => none
  | _ => none
def mvCpl (f g : List (Nat × Int32)) (sp dp : Nat) : Nat → List (Nat × Int32)
  | 0 => g
  | n + 1 => (dp + n, mvLk f (sp + n)) :: mvCpl f g sp dp n
/-- System.arraycopy over arrays of ints: what is left on the stack, the cells -/
def mvCq (P : mvP) (j : Nat) (i : Instr) (len : Nat) (st : List mvV) (h : mvH) : Option (List mvV × mvH) := match i with
  | .invokestatic idx => match st with
    | .inl n :: .inl dp :: .inr (.inr (.inl (some a))) :: .inl sp :: .inr (.inr (.inl (some a0))) :: r => match h.2[a0]?, h.2[a]? with
      | some (.inl (0, n0, .inl f)), some (.inl (0, n1, .inl g)) => if mvPo P (j + 100000) idx = true ∧ len = 3 ∧ mvSum r ≤ 8 ∧ ¬ sp < 0 ∧ ¬ dp < 0 ∧ ¬ n < 0 ∧ sp.toNatClampNeg + n.toNatClampNeg ≤ n0 ∧ dp.toNatClampNeg + n.toNatClampNeg ≤ n1 then some (r, (false, h.2.set a (.inl (0, n1, .inl (mvCpl f g sp.toNatClampNeg dp.toNatClampNeg n.toNatClampNeg))))) else none
      | _, _ => none
    | _ => none
  | _ => none
/-- Math.max, Math.min -/
def mvMx (P : mvP) (j : Nat) (i : Instr) (len : Nat) (st : List mvV) : Option (List mvV) := match i with
  | .invokestatic idx => match st with
    | .inl y :: .inl x :: r => if mvPo P (j + 200000) idx = true ∧ len = 3 ∧ mvSum r ≤ 8 then some (.inl (if x < y then y else x) :: r) else if mvPo P (j + 300000) idx = true ∧ len = 3 ∧ mvSum r ≤ 8 then some (.inl (if y < x then y else x) :: r) else none
    | _ => none
  | _ => none
def mvCp (P : mvP) (j : Nat) (i : Instr) (len : Nat) (st : List mvV) (h : mvH) : Option (List mvV × mvH) := match mvMx P j i len st with
  | some st' => some (st', h)
  | none => mvCq P j i len st h
def mvDrop (lv : mvL) (x : Nat) : mvL := lv.filter (fun q => !(q.1 == x) && !(q.1 + 1 == x && mvCat q.2 == 2))
def mvOne (as : List mvV) : Bool := as.all (fun v => decide (mvCat v = 1))
def mvRun (P : mvP) : Nat → Nat → Nat → Nat → mvL → List mvV → mvH → Option mvO
  | 0, _, _, _, _, _, _ => none
  | n + 1, d, j, pc, lv, st, h => match mvPm P j with
    | none => none
    | some E => match decode E.2.1 pc with
      | .error _ => none
      | .ok (i, len) => match mvF i len pc E.2.2.1 lv st with
        | some (pc', lv', st') => mvRun P n d j pc' lv' st' h
        | none => match mvG P j d i len pc st h with
          | some (pc', st', h', dc, ds) => mvAdd dc ds (mvRun P n d j pc' lv st' h')
          | none => match mvFin E i len st with
            | some r => some (.inl r, h, 0, 0)
            | none => match mvInv P j i len st h with
              | none => (match d with
                | 0 => none
                | d' + 1 => match mvCp P j i len st h with
                  | none => none
                  | some (st', h') => mvRun P n (d' + 1) j (pc + 3) lv st' h')
              | some (j', as, rest) => if mvOne as = true ∧ mvSum rest ≤ 8 then (match d with
                | 0 => none
                | d' + 1 => match (match mvPb P j' with
                    | some b => if 8 ≤ d' then b as h else none
                    | none => mvRun P n d' j' 0 (mvArgs 0 as) [] h) with
                  | none => none
                  | some (.inl r, h', dc, ds) => mvAdd dc ds (mvRun P n (d' + 1) j (pc + 3) lv (r.toList ++ rest) h')
                  | some (.inr ex, h', dc, ds) => match mvPh P j pc ex with
                    | none => if E.2.2.2.2 = [] then some (.inr ex, h', dc, ds) else none
                    | some (_, x, pc') => mvAdd dc ds (mvRun P n (d' + 1) j pc' (mvDrop lv x) [] h')) else none
/-! What it stands for. -/
def mvCd (E : mvE) : Cond := match E.2.2.2.2 with
  | [] => .code E.1 E.2.1 E.2.2.1 E.2.2.2.1
  | hh => .codeWith E.1 E.2.1 E.2.2.1 E.2.2.2.1 hh
def mvRm (d dc ds : Nat) : Room := { frames := d, cells := dc, slots := ds, locals := 60 * d }
section MVW
variable (P : mvP) (N0 : Nat) (xa : Nat → Nat) (cA : Nat → ClassId) (D : va_G) (cl : List vw_C) (sC sn sd : String)
/-- what stands at a method's entry beside its cells -/
def mvWorld (U : State) : Prop := va_K D cl (mvTys cA) U ∧ mvOut P N0 xa U U.heap ∧ va_Z sC sn sd (.ref (xa 0)) (fun q : Nat => N0 ≤ q) U U.heap ∧ vx_Zq Bundle.tN "UNASSIGNED_STACK" Bundle.steD (fun q : Nat => N0 ≤ q) U U.heap ∧ vx_Zq Bundle.tN "SUPPRESSED_SENTINEL" Bundle.listD (fun q : Nat => N0 ≤ q) U U.heap ∧ N0 ≤ U.heap.size ∧ va_Nc "java/lang/IllegalStateException" "java/lang/IllegalArgumentException" U ∧ ∀ w ∈ mvPw P, va_Nw w U
/-- the cells at a state -/
def mvAt (h : mvH) (H : Heap) : Prop := va_P D cl (mvWs N0 xa cA N0 h.2) H ∧ (h.1 = true → H.size = N0 + h.2.length)
def mvPre (as : List mvV) (h : mvH) : Array Value → State → Prop := va_Pc (as.map (mvCv N0 xa)) (fun U => mvWorld P N0 xa cA D cl sC sn sd U ∧ mvAt N0 xa cA D cl h U.heap)
def mvQc (r : mvR) (h : mvH) : Array Value → State → Outcome → State → Prop := fun _ st o t => (∃ v, r = .inl v ∧ o = .returned (v.map (mvCv N0 xa))) ∧ mvAt N0 xa cA D cl h t.heap ∧ va_F (fun q : Nat => N0 ≤ q) st t
def mvXc (r : mvR) (h : mvH) : String → State → State → Prop := fun ex st t => r = .inr ex ∧ mvAt N0 xa cA D cl h t.heap ∧ va_F (fun q : Nat => N0 ≤ q) st t
/-- the contract of a method at these arguments and cells -/
def mvMt (l : Launch) (Ts : List Cond) (E : mvE) (as : List mvV) (h : mvH) (o : mvO) (d : Nat) : Prop :=
  vx_Met l E.1 (mvCd E :: Ts) (mvRm d o.2.2.1 o.2.2.2) (mvPre P N0 xa cA D cl sC sn sd as h) (mvQc N0 xa cA D cl o.1 o.2.1) (mvXc N0 xa cA D cl o.1 o.2.1) o.2.2.1 o.2.2.2 (fun q : Nat => N0 ≤ q)
end MVW
section MVW2
variable {P : mvP} {N0 : Nat} {xa : Nat → Nat} {cA : Nat → ClassId} {D : va_G} {cl : List vw_C} {sC sn sd : String}
theorem mvWorld_go (hp : ∀ w ∈ mvPw P, mvWarm w = true) {s U : State} {H : Heap} {locs : List Loc} (h : mvWorld P N0 xa cA D cl sC sn sd s) (hW : s.WarmedH U.vm) (hS : va_S (fun q : Nat => N0 ≤ q) s.heap H locs) (hU : U.heap = H) : mvWorld P N0 xa cA D cl sC sn sd U := by
  subst hU
  obtain ⟨h1, h2, h3, h4, h5, h6, h7, h8⟩ := h
  have hvm := hW.alike
  have hq : ∀ a : Nat, a < s.heap.size → ¬ (fun q : Nat => N0 ≤ q) a → U.heap[a]? = s.heap[a]? := fun a h1 h2 => hS.2.1 a h1 h2
  exact ⟨va_K.moved hvm h1, fun o ho z hz => ((h2 o ho z hz).moved hvm).kept hq, (h3.moved hvm).kept hq, (h4.moved hvm).kept hq, (h5.moved hvm).kept hq, Nat.le_trans h6 hS.1, h7.moved hvm, fun w hw => mvWarm_go (hp w hw) hW (h8 w hw)⟩
theorem mvPre_blind (hp : ∀ w ∈ mvPw P, mvWarm w = true) (as : List mvV) (h : mvH) : FrameBlind (mvPre P N0 xa cA D cl sC sn sd as h) := by
  intro a U g mk hq
  obtain ⟨q0, q1, q2⟩ := hq
  refine ⟨q0, ?_, q2⟩
  exact mvWorld_go hp (U := U.calling g mk a) (locs := []) q1 (State.WarmedH.refl U) va_S.rf rfl
end MVW2
