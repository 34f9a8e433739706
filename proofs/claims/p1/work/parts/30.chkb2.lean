/-! The classes of scripts, one by one: function. -/
set_option maxRecDepth 100000 in
theorem pgChf9 : pgChf 9 = true := by decide +kernel
set_option maxRecDepth 100000 in
theorem pgChf10 : pgChf 10 = true := by decide +kernel
set_option maxRecDepth 100000 in
theorem pgChf11 : pgChf 11 = true := by decide +kernel
set_option maxRecDepth 100000 in
theorem pgChf12 : pgChf 12 = true := by decide +kernel
theorem pgChm1 : pgChm 1 = true := by
  show pgCls.all (fun q => pgCls.all (fun r => pgChk 7 [101, q.1, r.1] [.inr 0, pgV 1 q.2, pgV 2 r.2])) = true
  refine List.all_eq_true.mpr (fun q hq => ?_)
  obtain ⟨i, hi, he⟩ := List.getElem_of_mem hq
  have h : pgChf i = true := by
    match i, hi with
    | 0, _ => exact pgChf0
    | 1, _ => exact pgChf1
    | 2, _ => exact pgChf2
    | 3, _ => exact pgChf3
    | 4, _ => exact pgChf4
    | 5, _ => exact pgChf5
    | 6, _ => exact pgChf6
    | 7, _ => exact pgChf7
    | 8, _ => exact pgChf8
    | 9, _ => exact pgChf9
    | 10, _ => exact pgChf10
    | 11, _ => exact pgChf11
    | 12, _ => exact pgChf12
    | i + 13, h => exact absurd h (by show ¬ i + 13 < 13; omega)
  unfold pgChf at h
  rw [List.getElem?_eq_getElem hi, he] at h
  exact h
