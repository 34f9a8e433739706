/-! The classes of scripts, one by one: function. -/
def pgChf (i : Nat) : Bool := match pgCls[i]? with
  | some q => pgCls.all (fun r => pgChk 7 [101, q.1, r.1] [.inr 0, pgV 1 q.2, pgV 2 r.2])
  | none => true
set_option maxRecDepth 100000 in
theorem pgChf0 : pgChf 0 = true := by decide +kernel
set_option maxRecDepth 100000 in
theorem pgChf1 : pgChf 1 = true := by decide +kernel
set_option maxRecDepth 100000 in
theorem pgChf2 : pgChf 2 = true := by decide +kernel
set_option maxRecDepth 100000 in
theorem pgChf3 : pgChf 3 = true := by decide +kernel
set_option maxRecDepth 100000 in
theorem pgChf4 : pgChf 4 = true := by decide +kernel
