/-! All instructions together: what decode says. -/
theorem pgCut {α : Type} {l : List α} {f : α → Bool} {a b : Nat} (hab : a + 60 = b) (h1 : ((l.drop a).take 60).all f = true) (h2 : (l.drop b).all f = true) : (l.drop a).all f = true := by
  subst hab
  rw [← List.take_append_drop 60 (l.drop a), List.all_append, h1, List.drop_drop]
  exact h2
theorem pgCut0 {l : List (Nat × Instr × Nat)} {cc : ByteArray} (h : (l.drop 0).all (fun q => decide (decode cc q.1 = .ok q.2)) = true) : ∀ q ∈ l, decode cc q.1 = .ok q.2 := fun q hq => of_decide_eq_true (List.all_eq_true.mp h q hq)
set_option maxRecDepth 100000 in
theorem pgDa0 : ∀ q ∈ pgD0, decode code q.1 = .ok q.2 := pgCut0 (pgCut (b := 60) rfl pgDk0_0 (pgCut (b := 120) rfl pgDk0_60 (pgCut (b := 180) rfl pgDk0_120 (pgCut (b := 240) rfl pgDk0_180 (pgCut (b := 300) rfl pgDk0_240 (pgCut (b := 360) rfl pgDk0_300 (pgCut (b := 420) rfl pgDk0_360 (pgCut (b := 480) rfl pgDk0_420 (pgCut (b := 540) rfl pgDk0_480 (pgCut (b := 600) rfl pgDk0_540 (pgCut (b := 660) rfl pgDk0_600 (pgCut (b := 720) rfl pgDk0_660 (pgCut (b := 780) rfl pgDk0_720 rfl)))))))))))))
set_option maxRecDepth 100000 in
theorem pgDa1 : ∀ q ∈ pgD1, decode prog_1_method_1_code q.1 = .ok q.2 := pgCut0 (pgCut (b := 60) rfl pgDk1_0 (pgCut (b := 120) rfl pgDk1_60 rfl))
set_option maxRecDepth 100000 in
theorem pgDa2 : ∀ q ∈ pgD2, decode prog_11_method_1_code q.1 = .ok q.2 := pgCut0 (pgCut (b := 60) rfl pgDk2_0 rfl)
set_option maxRecDepth 100000 in
theorem pgDa3 : ∀ q ∈ pgD3, decode prog_3_method_1_code q.1 = .ok q.2 := pgCut0 (pgCut (b := 60) rfl pgDk3_0 rfl)
set_option maxRecDepth 100000 in
theorem pgDa4 : ∀ q ∈ pgD4, decode prog_29_method_103_code q.1 = .ok q.2 := pgCut0 (pgCut (b := 60) rfl pgDk4_0 rfl)
set_option maxRecDepth 100000 in
theorem pgDa5 : ∀ q ∈ pgD5, decode prog_6_method_1_code q.1 = .ok q.2 := pgCut0 (pgCut (b := 60) rfl pgDk5_0 rfl)
set_option maxRecDepth 100000 in
theorem pgDa6 : ∀ q ∈ pgD6, decode prog_5_method_1_code q.1 = .ok q.2 := pgCut0 (pgCut (b := 60) rfl pgDk6_0 rfl)
set_option maxRecDepth 100000 in
theorem pgDa7 : ∀ q ∈ pgD7, decode prog_10_method_1_code q.1 = .ok q.2 := pgCut0 (pgCut (b := 60) rfl pgDk7_0 rfl)
set_option maxRecDepth 100000 in
theorem pgDa8 : ∀ q ∈ pgD8, decode prog_12_method_1_code q.1 = .ok q.2 := pgCut0 (pgCut (b := 60) rfl pgDk8_0 rfl)
set_option maxRecDepth 100000 in
theorem pgDa9 : ∀ q ∈ pgD9, decode prog_7_method_1_code q.1 = .ok q.2 := pgCut0 (pgCut (b := 60) rfl pgDk9_0 rfl)
set_option maxRecDepth 100000 in
theorem pgDa10 : ∀ q ∈ pgD10, decode prog_2_method_1_code q.1 = .ok q.2 := pgCut0 (pgCut (b := 60) rfl pgDk10_0 rfl)
set_option maxRecDepth 100000 in
theorem pgDa11 : ∀ q ∈ pgD11, decode prog_12_method_2_code q.1 = .ok q.2 := pgCut0 (pgCut (b := 60) rfl pgDk11_0 rfl)
set_option maxRecDepth 100000 in
theorem pgDa12 : ∀ q ∈ pgD12, decode prog_4_method_1_code q.1 = .ok q.2 := pgCut0 (pgCut (b := 60) rfl pgDk12_0 rfl)
set_option maxRecDepth 100000 in
theorem pgDa13 : ∀ q ∈ pgD13, decode prog_9_method_1_code q.1 = .ok q.2 := pgCut0 (pgCut (b := 60) rfl pgDk13_0 rfl)
set_option maxRecDepth 100000 in
theorem pgDa14 : ∀ q ∈ pgD14, decode prog_8_method_1_code q.1 = .ok q.2 := pgCut0 (pgCut (b := 60) rfl pgDk14_0 rfl)
set_option maxRecDepth 100000 in
theorem pgDa15 : ∀ q ∈ pgD15, decode method_3_code q.1 = .ok q.2 := pgCut0 (pgCut (b := 60) rfl pgDk15_0 rfl)
set_option maxRecDepth 100000 in
theorem pgDa16 : ∀ q ∈ pgD16, decode prog_1_method_2_code q.1 = .ok q.2 := pgCut0 (pgCut (b := 60) rfl pgDk16_0 rfl)
set_option maxRecDepth 100000 in
theorem pgDa17 : ∀ q ∈ pgD17, decode prog_11_method_2_code q.1 = .ok q.2 := pgCut0 (pgCut (b := 60) rfl pgDk17_0 rfl)
set_option maxRecDepth 100000 in
theorem pgDa18 : ∀ q ∈ pgD18, decode prog_1_method_19_code q.1 = .ok q.2 := pgCut0 (pgCut (b := 60) rfl pgDk18_0 rfl)
set_option maxRecDepth 100000 in
theorem pgDa19 : ∀ q ∈ pgD19, decode prog_11_method_9_code q.1 = .ok q.2 := pgCut0 (pgCut (b := 60) rfl pgDk19_0 (pgCut (b := 120) rfl pgDk19_60 rfl))
set_option maxRecDepth 100000 in
theorem pgDa20 : ∀ q ∈ pgD20, decode prog_1_method_21_code q.1 = .ok q.2 := pgCut0 (pgCut (b := 60) rfl pgDk20_0 rfl)
set_option maxRecDepth 100000 in
theorem pgDa21 : ∀ q ∈ pgD21, decode prog_1_method_20_code q.1 = .ok q.2 := pgCut0 (pgCut (b := 60) rfl pgDk21_0 rfl)
set_option maxRecDepth 100000 in
theorem pgDa22 : ∀ q ∈ pgD22, decode method_4_code q.1 = .ok q.2 := pgCut0 (pgCut (b := 60) rfl pgDk22_0 rfl)
set_option maxRecDepth 100000 in
theorem pgDa23 : ∀ q ∈ pgD23, decode prog_1_method_3_code q.1 = .ok q.2 := pgCut0 (pgCut (b := 60) rfl pgDk23_0 rfl)
set_option maxRecDepth 100000 in
theorem pgDa24 : ∀ q ∈ pgD24, decode method_5_code q.1 = .ok q.2 := pgCut0 (pgCut (b := 60) rfl pgDk24_0 rfl)
set_option maxRecDepth 100000 in
theorem pgDa25 : ∀ q ∈ pgD25, decode prog_1_method_4_code q.1 = .ok q.2 := pgCut0 (pgCut (b := 60) rfl pgDk25_0 rfl)
set_option maxRecDepth 100000 in
theorem pgDa26 : ∀ q ∈ pgD26, decode prog_3_method_3_code q.1 = .ok q.2 := pgCut0 (pgCut (b := 60) rfl pgDk26_0 rfl)
set_option maxRecDepth 100000 in
theorem pgDa27 : ∀ q ∈ pgD27, decode prog_3_method_2_code q.1 = .ok q.2 := pgCut0 (pgCut (b := 60) rfl pgDk27_0 rfl)
set_option maxRecDepth 100000 in
theorem pgDa28 : ∀ q ∈ pgD28, decode prog_3_method_7_code q.1 = .ok q.2 := pgCut0 (pgCut (b := 60) rfl pgDk28_0 rfl)
set_option maxRecDepth 100000 in
theorem pgDa29 : ∀ q ∈ pgD29, decode method_6_code q.1 = .ok q.2 := pgCut0 (pgCut (b := 60) rfl pgDk29_0 rfl)
set_option maxRecDepth 100000 in
theorem pgDa30 : ∀ q ∈ pgD30, decode prog_1_method_5_code q.1 = .ok q.2 := pgCut0 (pgCut (b := 60) rfl pgDk30_0 rfl)
set_option maxRecDepth 100000 in
theorem pgDa31 : ∀ q ∈ pgD31, decode prog_11_method_8_code q.1 = .ok q.2 := pgCut0 (pgCut (b := 60) rfl pgDk31_0 rfl)
set_option maxRecDepth 100000 in
theorem pgDa32 : ∀ q ∈ pgD32, decode prog_3_method_5_code q.1 = .ok q.2 := pgCut0 (pgCut (b := 60) rfl pgDk32_0 rfl)
set_option maxRecDepth 100000 in
theorem pgDa33 : ∀ q ∈ pgD33, decode prog_3_method_10_code q.1 = .ok q.2 := pgCut0 (pgCut (b := 60) rfl pgDk33_0 rfl)
set_option maxRecDepth 100000 in
theorem pgDa34 : ∀ q ∈ pgD34, decode prog_3_method_9_code q.1 = .ok q.2 := pgCut0 (pgCut (b := 60) rfl pgDk34_0 rfl)
set_option maxRecDepth 100000 in
theorem pgDa35 : ∀ q ∈ pgD35, decode prog_3_method_8_code q.1 = .ok q.2 := pgCut0 (pgCut (b := 60) rfl pgDk35_0 rfl)
set_option maxRecDepth 100000 in
theorem pgDa36 : ∀ q ∈ pgD36, decode method_7_code q.1 = .ok q.2 := pgCut0 (pgCut (b := 60) rfl pgDk36_0 rfl)
set_option maxRecDepth 100000 in
theorem pgDa37 : ∀ q ∈ pgD37, decode prog_1_method_6_code q.1 = .ok q.2 := pgCut0 (pgCut (b := 60) rfl pgDk37_0 rfl)
set_option maxRecDepth 100000 in
theorem pgDa38 : ∀ q ∈ pgD38, decode prog_1_method_22_code q.1 = .ok q.2 := pgCut0 (pgCut (b := 60) rfl pgDk38_0 rfl)
set_option maxRecDepth 100000 in
theorem pgDa39 : ∀ q ∈ pgD39, decode prog_6_method_7_code q.1 = .ok q.2 := pgCut0 (pgCut (b := 60) rfl pgDk39_0 rfl)
set_option maxRecDepth 100000 in
theorem pgDa40 : ∀ q ∈ pgD40, decode prog_6_method_9_code q.1 = .ok q.2 := pgCut0 (pgCut (b := 60) rfl pgDk40_0 rfl)
set_option maxRecDepth 100000 in
theorem pgDa41 : ∀ q ∈ pgD41, decode prog_6_method_8_code q.1 = .ok q.2 := pgCut0 (pgCut (b := 60) rfl pgDk41_0 rfl)
set_option maxRecDepth 100000 in
theorem pgDa42 : ∀ q ∈ pgD42, decode method_8_code q.1 = .ok q.2 := pgCut0 (pgCut (b := 60) rfl pgDk42_0 rfl)
set_option maxRecDepth 100000 in
theorem pgDa43 : ∀ q ∈ pgD43, decode prog_1_method_7_code q.1 = .ok q.2 := pgCut0 (pgCut (b := 60) rfl pgDk43_0 rfl)
set_option maxRecDepth 100000 in
theorem pgDa44 : ∀ q ∈ pgD44, decode method_9_code q.1 = .ok q.2 := pgCut0 (pgCut (b := 60) rfl pgDk44_0 rfl)
set_option maxRecDepth 100000 in
theorem pgDa45 : ∀ q ∈ pgD45, decode prog_1_method_8_code q.1 = .ok q.2 := pgCut0 (pgCut (b := 60) rfl pgDk45_0 rfl)
set_option maxRecDepth 100000 in
theorem pgDa46 : ∀ q ∈ pgD46, decode method_10_code q.1 = .ok q.2 := pgCut0 (pgCut (b := 60) rfl pgDk46_0 rfl)
set_option maxRecDepth 100000 in
theorem pgDa47 : ∀ q ∈ pgD47, decode prog_1_method_9_code q.1 = .ok q.2 := pgCut0 (pgCut (b := 60) rfl pgDk47_0 rfl)
set_option maxRecDepth 100000 in
theorem pgDa48 : ∀ q ∈ pgD48, decode prog_6_method_2_code q.1 = .ok q.2 := pgCut0 (pgCut (b := 60) rfl pgDk48_0 rfl)
set_option maxRecDepth 100000 in
theorem pgDa49 : ∀ q ∈ pgD49, decode method_11_code q.1 = .ok q.2 := pgCut0 (pgCut (b := 60) rfl pgDk49_0 rfl)
set_option maxRecDepth 100000 in
theorem pgDa50 : ∀ q ∈ pgD50, decode prog_1_method_10_code q.1 = .ok q.2 := pgCut0 (pgCut (b := 60) rfl pgDk50_0 rfl)
set_option maxRecDepth 100000 in
theorem pgDa51 : ∀ q ∈ pgD51, decode method_12_code q.1 = .ok q.2 := pgCut0 (pgCut (b := 60) rfl pgDk51_0 rfl)
set_option maxRecDepth 100000 in
theorem pgDa52 : ∀ q ∈ pgD52, decode prog_1_method_11_code q.1 = .ok q.2 := pgCut0 (pgCut (b := 60) rfl pgDk52_0 rfl)
set_option maxRecDepth 100000 in
theorem pgDa53 : ∀ q ∈ pgD53, decode prog_3_method_4_code q.1 = .ok q.2 := pgCut0 (pgCut (b := 60) rfl pgDk53_0 rfl)
set_option maxRecDepth 100000 in
theorem pgDa54 : ∀ q ∈ pgD54, decode method_13_code q.1 = .ok q.2 := pgCut0 (pgCut (b := 60) rfl pgDk54_0 rfl)
set_option maxRecDepth 100000 in
theorem pgDa55 : ∀ q ∈ pgD55, decode prog_1_method_12_code q.1 = .ok q.2 := pgCut0 (pgCut (b := 60) rfl pgDk55_0 rfl)
set_option maxRecDepth 100000 in
theorem pgDa56 : ∀ q ∈ pgD56, decode prog_5_method_3_code q.1 = .ok q.2 := pgCut0 (pgCut (b := 60) rfl pgDk56_0 rfl)
set_option maxRecDepth 100000 in
theorem pgDa57 : ∀ q ∈ pgD57, decode method_14_code q.1 = .ok q.2 := pgCut0 (pgCut (b := 60) rfl pgDk57_0 rfl)
set_option maxRecDepth 100000 in
theorem pgDa58 : ∀ q ∈ pgD58, decode prog_1_method_13_code q.1 = .ok q.2 := pgCut0 (pgCut (b := 60) rfl pgDk58_0 (pgCut (b := 120) rfl pgDk58_60 (pgCut (b := 180) rfl pgDk58_120 rfl)))
set_option maxRecDepth 100000 in
theorem pgDa59 : ∀ q ∈ pgD59, decode prog_3_method_14_code q.1 = .ok q.2 := pgCut0 (pgCut (b := 60) rfl pgDk59_0 rfl)
set_option maxRecDepth 100000 in
theorem pgDa60 : ∀ q ∈ pgD60, decode prog_3_method_13_code q.1 = .ok q.2 := pgCut0 (pgCut (b := 60) rfl pgDk60_0 rfl)
set_option maxRecDepth 100000 in
theorem pgDa61 : ∀ q ∈ pgD61, decode prog_3_method_15_code q.1 = .ok q.2 := pgCut0 (pgCut (b := 60) rfl pgDk61_0 rfl)
set_option maxRecDepth 100000 in
theorem pgDa62 : ∀ q ∈ pgD62, decode prog_3_method_16_code q.1 = .ok q.2 := pgCut0 (pgCut (b := 60) rfl pgDk62_0 rfl)
set_option maxRecDepth 100000 in
theorem pgDa63 : ∀ q ∈ pgD63, decode prog_2_method_3_code q.1 = .ok q.2 := pgCut0 (pgCut (b := 60) rfl pgDk63_0 rfl)
set_option maxRecDepth 100000 in
theorem pgDa64 : ∀ q ∈ pgD64, decode prog_3_method_12_code q.1 = .ok q.2 := pgCut0 (pgCut (b := 60) rfl pgDk64_0 rfl)
set_option maxRecDepth 100000 in
theorem pgDa65 : ∀ q ∈ pgD65, decode prog_12_method_9_code q.1 = .ok q.2 := pgCut0 (pgCut (b := 60) rfl pgDk65_0 rfl)
set_option maxRecDepth 100000 in
theorem pgDa66 : ∀ q ∈ pgD66, decode prog_12_method_11_code q.1 = .ok q.2 := pgCut0 (pgCut (b := 60) rfl pgDk66_0 (pgCut (b := 120) rfl pgDk66_60 rfl))
set_option maxRecDepth 100000 in
theorem pgDa67 : ∀ q ∈ pgD67, decode prog_6_method_6_code q.1 = .ok q.2 := pgCut0 (pgCut (b := 60) rfl pgDk67_0 rfl)
set_option maxRecDepth 100000 in
theorem pgDa68 : ∀ q ∈ pgD68, decode prog_12_method_12_code q.1 = .ok q.2 := pgCut0 (pgCut (b := 60) rfl pgDk68_0 rfl)
set_option maxRecDepth 100000 in
theorem pgDa69 : ∀ q ∈ pgD69, decode prog_6_method_3_code q.1 = .ok q.2 := pgCut0 (pgCut (b := 60) rfl pgDk69_0 rfl)
set_option maxRecDepth 100000 in
theorem pgDa70 : ∀ q ∈ pgD70, decode prog_6_method_4_code q.1 = .ok q.2 := pgCut0 (pgCut (b := 60) rfl pgDk70_0 rfl)
set_option maxRecDepth 100000 in
theorem pgDa71 : ∀ q ∈ pgD71, decode prog_12_method_13_code q.1 = .ok q.2 := pgCut0 (pgCut (b := 60) rfl pgDk71_0 rfl)
set_option maxRecDepth 100000 in
theorem pgDa72 : ∀ q ∈ pgD72, decode prog_6_method_5_code q.1 = .ok q.2 := pgCut0 (pgCut (b := 60) rfl pgDk72_0 rfl)
set_option maxRecDepth 100000 in
theorem pgDa73 : ∀ q ∈ pgD73, decode prog_7_method_2_code q.1 = .ok q.2 := pgCut0 (pgCut (b := 60) rfl pgDk73_0 rfl)
set_option maxRecDepth 100000 in
theorem pgDa74 : ∀ q ∈ pgD74, decode prog_7_method_4_code q.1 = .ok q.2 := pgCut0 (pgCut (b := 60) rfl pgDk74_0 rfl)
set_option maxRecDepth 100000 in
theorem pgDa75 : ∀ q ∈ pgD75, decode prog_7_method_3_code q.1 = .ok q.2 := pgCut0 (pgCut (b := 60) rfl pgDk75_0 rfl)
set_option maxRecDepth 100000 in
theorem pgDa76 : ∀ q ∈ pgD76, decode prog_12_method_14_code q.1 = .ok q.2 := pgCut0 (pgCut (b := 60) rfl pgDk76_0 (pgCut (b := 120) rfl pgDk76_60 rfl))
set_option maxRecDepth 100000 in
theorem pgDa77 : ∀ q ∈ pgD77, decode prog_12_method_5_code q.1 = .ok q.2 := pgCut0 (pgCut (b := 60) rfl pgDk77_0 rfl)
set_option maxRecDepth 100000 in
theorem pgDa78 : ∀ q ∈ pgD78, decode prog_12_method_4_code q.1 = .ok q.2 := pgCut0 (pgCut (b := 60) rfl pgDk78_0 rfl)
set_option maxRecDepth 100000 in
theorem pgDa79 : ∀ q ∈ pgD79, decode prog_7_method_10_code q.1 = .ok q.2 := pgCut0 (pgCut (b := 60) rfl pgDk79_0 (pgCut (b := 120) rfl pgDk79_60 rfl))
set_option maxRecDepth 100000 in
theorem pgDa80 : ∀ q ∈ pgD80, decode prog_7_method_6_code q.1 = .ok q.2 := pgCut0 (pgCut (b := 60) rfl pgDk80_0 rfl)
set_option maxRecDepth 100000 in
theorem pgDa81 : ∀ q ∈ pgD81, decode prog_7_method_11_code q.1 = .ok q.2 := pgCut0 (pgCut (b := 60) rfl pgDk81_0 (pgCut (b := 120) rfl pgDk81_60 rfl))
set_option maxRecDepth 100000 in
theorem pgDa82 : ∀ q ∈ pgD82, decode prog_12_method_19_code q.1 = .ok q.2 := pgCut0 (pgCut (b := 60) rfl pgDk82_0 (pgCut (b := 120) rfl pgDk82_60 rfl))
set_option maxRecDepth 100000 in
theorem pgDa83 : ∀ q ∈ pgD83, decode prog_12_method_20_code q.1 = .ok q.2 := pgCut0 (pgCut (b := 60) rfl pgDk83_0 rfl)
set_option maxRecDepth 100000 in
theorem pgDa84 : ∀ q ∈ pgD84, decode prog_12_method_15_code q.1 = .ok q.2 := pgCut0 (pgCut (b := 60) rfl pgDk84_0 rfl)
set_option maxRecDepth 100000 in
theorem pgDa85 : ∀ q ∈ pgD85, decode prog_3_method_6_code q.1 = .ok q.2 := pgCut0 (pgCut (b := 60) rfl pgDk85_0 rfl)
set_option maxRecDepth 100000 in
theorem pgDa86 : ∀ q ∈ pgD86, decode prog_12_method_16_code q.1 = .ok q.2 := pgCut0 (pgCut (b := 60) rfl pgDk86_0 rfl)
set_option maxRecDepth 100000 in
theorem pgDa87 : ∀ q ∈ pgD87, decode prog_11_method_7_code q.1 = .ok q.2 := pgCut0 (pgCut (b := 60) rfl pgDk87_0 rfl)
set_option maxRecDepth 100000 in
theorem pgDa88 : ∀ q ∈ pgD88, decode prog_20_method_49_code q.1 = .ok q.2 := pgCut0 (pgCut (b := 60) rfl pgDk88_0 rfl)
set_option maxRecDepth 100000 in
theorem pgDa89 : ∀ q ∈ pgD89, decode prog_12_method_17_code q.1 = .ok q.2 := pgCut0 (pgCut (b := 60) rfl pgDk89_0 (pgCut (b := 120) rfl pgDk89_60 rfl))
set_option maxRecDepth 100000 in
theorem pgDa90 : ∀ q ∈ pgD90, decode prog_12_method_18_code q.1 = .ok q.2 := pgCut0 (pgCut (b := 60) rfl pgDk90_0 rfl)
set_option maxRecDepth 100000 in
theorem pgDa91 : ∀ q ∈ pgD91, decode prog_11_method_4_code q.1 = .ok q.2 := pgCut0 (pgCut (b := 60) rfl pgDk91_0 rfl)
set_option maxRecDepth 100000 in
theorem pgDa92 : ∀ q ∈ pgD92, decode prog_11_method_3_code q.1 = .ok q.2 := pgCut0 (pgCut (b := 60) rfl pgDk92_0 rfl)
set_option maxRecDepth 100000 in
theorem pgDa93 : ∀ q ∈ pgD93, decode prog_11_method_5_code q.1 = .ok q.2 := pgCut0 (pgCut (b := 60) rfl pgDk93_0 rfl)
set_option maxRecDepth 100000 in
theorem pgDa94 : ∀ q ∈ pgD94, decode prog_5_method_5_code q.1 = .ok q.2 := pgCut0 (pgCut (b := 60) rfl pgDk94_0 rfl)
set_option maxRecDepth 100000 in
theorem pgDa95 : ∀ q ∈ pgD95, decode prog_2_method_4_code q.1 = .ok q.2 := pgCut0 (pgCut (b := 60) rfl pgDk95_0 rfl)
set_option maxRecDepth 100000 in
theorem pgDa96 : ∀ q ∈ pgD96, decode prog_12_method_10_code q.1 = .ok q.2 := pgCut0 (pgCut (b := 60) rfl pgDk96_0 rfl)
set_option maxRecDepth 100000 in
theorem pgDa97 : ∀ q ∈ pgD97, decode prog_7_method_12_code q.1 = .ok q.2 := pgCut0 (pgCut (b := 60) rfl pgDk97_0 (pgCut (b := 120) rfl pgDk97_60 rfl))
set_option maxRecDepth 100000 in
theorem pgDa98 : ∀ q ∈ pgD98, decode prog_7_method_13_code q.1 = .ok q.2 := pgCut0 (pgCut (b := 60) rfl pgDk98_0 rfl)
set_option maxRecDepth 100000 in
theorem pgDa99 : ∀ q ∈ pgD99, decode prog_29_method_104_code q.1 = .ok q.2 := pgCut0 (pgCut (b := 60) rfl pgDk99_0 rfl)
set_option maxRecDepth 100000 in
theorem pgDa100 : ∀ q ∈ pgD100, decode prog_29_method_30_code q.1 = .ok q.2 := pgCut0 (pgCut (b := 60) rfl pgDk100_0 rfl)
set_option maxRecDepth 100000 in
theorem pgDa101 : ∀ q ∈ pgD101, decode prog_7_method_14_code q.1 = .ok q.2 := pgCut0 (pgCut (b := 60) rfl pgDk101_0 rfl)
set_option maxRecDepth 100000 in
theorem pgDa102 : ∀ q ∈ pgD102, decode prog_7_method_15_code q.1 = .ok q.2 := pgCut0 (pgCut (b := 60) rfl pgDk102_0 rfl)
set_option maxRecDepth 100000 in
theorem pgDa103 : ∀ q ∈ pgD103, decode prog_7_method_19_code q.1 = .ok q.2 := pgCut0 (pgCut (b := 60) rfl pgDk103_0 rfl)
set_option maxRecDepth 100000 in
theorem pgDa104 : ∀ q ∈ pgD104, decode prog_3_method_11_code q.1 = .ok q.2 := pgCut0 (pgCut (b := 60) rfl pgDk104_0 rfl)
set_option maxRecDepth 100000 in
theorem pgDa105 : ∀ q ∈ pgD105, decode prog_4_method_2_code q.1 = .ok q.2 := pgCut0 (pgCut (b := 60) rfl pgDk105_0 rfl)
set_option maxRecDepth 100000 in
theorem pgDa106 : ∀ q ∈ pgD106, decode prog_7_method_5_code q.1 = .ok q.2 := pgCut0 (pgCut (b := 60) rfl pgDk106_0 rfl)
set_option maxRecDepth 100000 in
theorem pgDa107 : ∀ q ∈ pgD107, decode prog_12_method_3_code q.1 = .ok q.2 := pgCut0 (pgCut (b := 60) rfl pgDk107_0 rfl)
set_option maxRecDepth 100000 in
theorem pgDa108 : ∀ q ∈ pgD108, decode prog_4_method_4_code q.1 = .ok q.2 := pgCut0 (pgCut (b := 60) rfl pgDk108_0 rfl)
set_option maxRecDepth 100000 in
theorem pgDa109 : ∀ q ∈ pgD109, decode prog_12_method_6_code q.1 = .ok q.2 := pgCut0 (pgCut (b := 60) rfl pgDk109_0 rfl)
set_option maxRecDepth 100000 in
theorem pgDa110 : ∀ q ∈ pgD110, decode prog_4_method_5_code q.1 = .ok q.2 := pgCut0 (pgCut (b := 60) rfl pgDk110_0 rfl)
set_option maxRecDepth 100000 in
theorem pgDa111 : ∀ q ∈ pgD111, decode prog_7_method_7_code q.1 = .ok q.2 := pgCut0 (pgCut (b := 60) rfl pgDk111_0 rfl)
set_option maxRecDepth 100000 in
theorem pgDa112 : ∀ q ∈ pgD112, decode prog_7_method_8_code q.1 = .ok q.2 := pgCut0 (pgCut (b := 60) rfl pgDk112_0 rfl)
set_option maxRecDepth 100000 in
theorem pgDa113 : ∀ q ∈ pgD113, decode prog_4_method_6_code q.1 = .ok q.2 := pgCut0 (pgCut (b := 60) rfl pgDk113_0 (pgCut (b := 120) rfl pgDk113_60 rfl))
set_option maxRecDepth 100000 in
theorem pgDa114 : ∀ q ∈ pgD114, decode prog_7_method_18_code q.1 = .ok q.2 := pgCut0 (pgCut (b := 60) rfl pgDk114_0 rfl)
set_option maxRecDepth 100000 in
theorem pgDa115 : ∀ q ∈ pgD115, decode prog_5_method_6_code q.1 = .ok q.2 := pgCut0 (pgCut (b := 60) rfl pgDk115_0 rfl)
set_option maxRecDepth 100000 in
theorem pgDa116 : ∀ q ∈ pgD116, decode prog_5_method_9_code q.1 = .ok q.2 := pgCut0 (pgCut (b := 60) rfl pgDk116_0 rfl)
set_option maxRecDepth 100000 in
theorem pgDa117 : ∀ q ∈ pgD117, decode prog_5_method_7_code q.1 = .ok q.2 := pgCut0 (pgCut (b := 60) rfl pgDk117_0 rfl)
set_option maxRecDepth 100000 in
theorem pgDa118 : ∀ q ∈ pgD118, decode prog_5_method_8_code q.1 = .ok q.2 := pgCut0 (pgCut (b := 60) rfl pgDk118_0 rfl)
set_option maxRecDepth 100000 in
theorem pgDa119 : ∀ q ∈ pgD119, decode prog_10_method_3_code q.1 = .ok q.2 := pgCut0 (pgCut (b := 60) rfl pgDk119_0 rfl)
set_option maxRecDepth 100000 in
theorem pgDa120 : ∀ q ∈ pgD120, decode prog_10_method_6_code q.1 = .ok q.2 := pgCut0 (pgCut (b := 60) rfl pgDk120_0 rfl)
set_option maxRecDepth 100000 in
theorem pgDa121 : ∀ q ∈ pgD121, decode prog_12_method_7_code q.1 = .ok q.2 := pgCut0 (pgCut (b := 60) rfl pgDk121_0 rfl)
set_option maxRecDepth 100000 in
theorem pgDa122 : ∀ q ∈ pgD122, decode prog_10_method_8_code q.1 = .ok q.2 := pgCut0 (pgCut (b := 60) rfl pgDk122_0 rfl)
set_option maxRecDepth 100000 in
theorem pgDa123 : ∀ q ∈ pgD123, decode prog_10_method_9_code q.1 = .ok q.2 := pgCut0 (pgCut (b := 60) rfl pgDk123_0 rfl)
set_option maxRecDepth 100000 in
theorem pgDa124 : ∀ q ∈ pgD124, decode prog_3_method_17_code q.1 = .ok q.2 := pgCut0 (pgCut (b := 60) rfl pgDk124_0 rfl)
set_option maxRecDepth 100000 in
theorem pgDa125 : ∀ q ∈ pgD125, decode method_15_code q.1 = .ok q.2 := pgCut0 (pgCut (b := 60) rfl pgDk125_0 rfl)
set_option maxRecDepth 100000 in
theorem pgDa126 : ∀ q ∈ pgD126, decode prog_1_method_14_code q.1 = .ok q.2 := pgCut0 (pgCut (b := 60) rfl pgDk126_0 rfl)
set_option maxRecDepth 100000 in
theorem pgDa127 : ∀ q ∈ pgD127, decode prog_5_method_2_code q.1 = .ok q.2 := pgCut0 (pgCut (b := 60) rfl pgDk127_0 rfl)
set_option maxRecDepth 100000 in
theorem pgDa128 : ∀ q ∈ pgD128, decode prog_2_method_2_code q.1 = .ok q.2 := pgCut0 (pgCut (b := 60) rfl pgDk128_0 (pgCut (b := 120) rfl pgDk128_60 rfl))
set_option maxRecDepth 100000 in
theorem pgDa129 : ∀ q ∈ pgD129, decode prog_12_method_8_code q.1 = .ok q.2 := pgCut0 (pgCut (b := 60) rfl pgDk129_0 rfl)
set_option maxRecDepth 100000 in
theorem pgDa130 : ∀ q ∈ pgD130, decode prog_7_method_20_code q.1 = .ok q.2 := pgCut0 (pgCut (b := 60) rfl pgDk130_0 rfl)
set_option maxRecDepth 100000 in
theorem pgDa131 : ∀ q ∈ pgD131, decode prog_7_method_21_code q.1 = .ok q.2 := pgCut0 (pgCut (b := 60) rfl pgDk131_0 (pgCut (b := 120) rfl pgDk131_60 rfl))
set_option maxRecDepth 100000 in
theorem pgDa132 : ∀ q ∈ pgD132, decode prog_2_method_5_code q.1 = .ok q.2 := pgCut0 (pgCut (b := 60) rfl pgDk132_0 rfl)
set_option maxRecDepth 100000 in
theorem pgDa133 : ∀ q ∈ pgD133, decode prog_7_method_16_code q.1 = .ok q.2 := pgCut0 (pgCut (b := 60) rfl pgDk133_0 rfl)
set_option maxRecDepth 100000 in
theorem pgDa134 : ∀ q ∈ pgD134, decode prog_7_method_17_code q.1 = .ok q.2 := pgCut0 (pgCut (b := 60) rfl pgDk134_0 rfl)
set_option maxRecDepth 100000 in
theorem pgDa135 : ∀ q ∈ pgD135, decode prog_4_method_3_code q.1 = .ok q.2 := pgCut0 (pgCut (b := 60) rfl pgDk135_0 rfl)
set_option maxRecDepth 100000 in
theorem pgDa136 : ∀ q ∈ pgD136, decode prog_2_method_6_code q.1 = .ok q.2 := pgCut0 (pgCut (b := 60) rfl pgDk136_0 rfl)
set_option maxRecDepth 100000 in
theorem pgDa137 : ∀ q ∈ pgD137, decode prog_11_method_6_code q.1 = .ok q.2 := pgCut0 (pgCut (b := 60) rfl pgDk137_0 rfl)
set_option maxRecDepth 100000 in
theorem pgDa138 : ∀ q ∈ pgD138, decode prog_2_method_7_code q.1 = .ok q.2 := pgCut0 (pgCut (b := 60) rfl pgDk138_0 (pgCut (b := 120) rfl pgDk138_60 rfl))
set_option maxRecDepth 100000 in
theorem pgDa139 : ∀ q ∈ pgD139, decode prog_7_method_9_code q.1 = .ok q.2 := pgCut0 (pgCut (b := 60) rfl pgDk139_0 rfl)
set_option maxRecDepth 100000 in
theorem pgDa140 : ∀ q ∈ pgD140, decode prog_11_method_10_code q.1 = .ok q.2 := pgCut0 (pgCut (b := 60) rfl pgDk140_0 rfl)
set_option maxRecDepth 100000 in
theorem pgDa141 : ∀ q ∈ pgD141, decode prog_5_method_10_code q.1 = .ok q.2 := pgCut0 (pgCut (b := 60) rfl pgDk141_0 rfl)
set_option maxRecDepth 100000 in
theorem pgDa142 : ∀ q ∈ pgD142, decode prog_10_method_2_code q.1 = .ok q.2 := pgCut0 (pgCut (b := 60) rfl pgDk142_0 rfl)
set_option maxRecDepth 100000 in
theorem pgDa143 : ∀ q ∈ pgD143, decode method_16_code q.1 = .ok q.2 := pgCut0 (pgCut (b := 60) rfl pgDk143_0 rfl)
set_option maxRecDepth 100000 in
theorem pgDa144 : ∀ q ∈ pgD144, decode prog_1_method_15_code q.1 = .ok q.2 := pgCut0 (pgCut (b := 60) rfl pgDk144_0 rfl)
set_option maxRecDepth 100000 in
theorem pgDa145 : ∀ q ∈ pgD145, decode method_17_code q.1 = .ok q.2 := pgCut0 (pgCut (b := 60) rfl pgDk145_0 rfl)
set_option maxRecDepth 100000 in
theorem pgDa146 : ∀ q ∈ pgD146, decode prog_1_method_16_code q.1 = .ok q.2 := pgCut0 (pgCut (b := 60) rfl pgDk146_0 rfl)
set_option maxRecDepth 100000 in
theorem pgDa147 : ∀ q ∈ pgD147, decode prog_1_method_23_code q.1 = .ok q.2 := pgCut0 (pgCut (b := 60) rfl pgDk147_0 rfl)
set_option maxRecDepth 100000 in
theorem pgDa148 : ∀ q ∈ pgD148, decode method_18_code q.1 = .ok q.2 := pgCut0 (pgCut (b := 60) rfl pgDk148_0 rfl)
set_option maxRecDepth 100000 in
theorem pgDa149 : ∀ q ∈ pgD149, decode prog_1_method_17_code q.1 = .ok q.2 := pgCut0 (pgCut (b := 60) rfl pgDk149_0 rfl)
set_option maxRecDepth 100000 in
theorem pgDa150 : ∀ q ∈ pgD150, decode prog_1_method_24_code q.1 = .ok q.2 := pgCut0 (pgCut (b := 60) rfl pgDk150_0 rfl)
set_option maxRecDepth 100000 in
theorem pgDa151 : ∀ q ∈ pgD151, decode prog_9_method_4_code q.1 = .ok q.2 := pgCut0 (pgCut (b := 60) rfl pgDk151_0 (pgCut (b := 120) rfl pgDk151_60 rfl))
set_option maxRecDepth 100000 in
theorem pgDa152 : ∀ q ∈ pgD152, decode prog_8_method_2_code q.1 = .ok q.2 := pgCut0 (pgCut (b := 60) rfl pgDk152_0 rfl)
set_option maxRecDepth 100000 in
theorem pgDa153 : ∀ q ∈ pgD153, decode prog_5_method_4_code q.1 = .ok q.2 := pgCut0 (pgCut (b := 60) rfl pgDk153_0 rfl)
set_option maxRecDepth 100000 in
theorem pgDa154 : ∀ q ∈ pgD154, decode prog_8_method_5_code q.1 = .ok q.2 := pgCut0 (pgCut (b := 60) rfl pgDk154_0 rfl)
set_option maxRecDepth 100000 in
theorem pgDa155 : ∀ q ∈ pgD155, decode prog_9_method_8_code q.1 = .ok q.2 := pgCut0 (pgCut (b := 60) rfl pgDk155_0 rfl)
set_option maxRecDepth 100000 in
theorem pgDa156 : ∀ q ∈ pgD156, decode prog_9_method_5_code q.1 = .ok q.2 := pgCut0 (pgCut (b := 60) rfl pgDk156_0 rfl)
set_option maxRecDepth 100000 in
theorem pgDa157 : ∀ q ∈ pgD157, decode prog_8_method_3_code q.1 = .ok q.2 := pgCut0 (pgCut (b := 60) rfl pgDk157_0 rfl)
set_option maxRecDepth 100000 in
theorem pgDa158 : ∀ q ∈ pgD158, decode prog_9_method_11_code q.1 = .ok q.2 := pgCut0 (pgCut (b := 60) rfl pgDk158_0 (pgCut (b := 120) rfl pgDk158_60 rfl))
set_option maxRecDepth 100000 in
theorem pgDa159 : ∀ q ∈ pgD159, decode prog_9_method_7_code q.1 = .ok q.2 := pgCut0 (pgCut (b := 60) rfl pgDk159_0 rfl)
set_option maxRecDepth 100000 in
theorem pgDa160 : ∀ q ∈ pgD160, decode prog_8_method_8_code q.1 = .ok q.2 := pgCut0 (pgCut (b := 60) rfl pgDk160_0 rfl)
set_option maxRecDepth 100000 in
theorem pgDa161 : ∀ q ∈ pgD161, decode prog_8_method_7_code q.1 = .ok q.2 := pgCut0 (pgCut (b := 60) rfl pgDk161_0 rfl)
set_option maxRecDepth 100000 in
theorem pgDa162 : ∀ q ∈ pgD162, decode prog_9_method_9_code q.1 = .ok q.2 := pgCut0 (pgCut (b := 60) rfl pgDk162_0 rfl)
set_option maxRecDepth 100000 in
theorem pgDa163 : ∀ q ∈ pgD163, decode prog_9_method_12_code q.1 = .ok q.2 := pgCut0 (pgCut (b := 60) rfl pgDk163_0 rfl)
set_option maxRecDepth 100000 in
theorem pgDa164 : ∀ q ∈ pgD164, decode prog_8_method_14_code q.1 = .ok q.2 := pgCut0 (pgCut (b := 60) rfl pgDk164_0 rfl)
set_option maxRecDepth 100000 in
theorem pgDa165 : ∀ q ∈ pgD165, decode prog_8_method_11_code q.1 = .ok q.2 := pgCut0 (pgCut (b := 60) rfl pgDk165_0 rfl)
set_option maxRecDepth 100000 in
theorem pgDa166 : ∀ q ∈ pgD166, decode prog_9_method_10_code q.1 = .ok q.2 := pgCut0 (pgCut (b := 60) rfl pgDk166_0 rfl)
set_option maxRecDepth 100000 in
theorem pgDa167 : ∀ q ∈ pgD167, decode prog_9_method_13_code q.1 = .ok q.2 := pgCut0 (pgCut (b := 60) rfl pgDk167_0 rfl)
set_option maxRecDepth 100000 in
theorem pgDa168 : ∀ q ∈ pgD168, decode prog_8_method_4_code q.1 = .ok q.2 := pgCut0 (pgCut (b := 60) rfl pgDk168_0 rfl)
set_option maxRecDepth 100000 in
theorem pgDa169 : ∀ q ∈ pgD169, decode prog_10_method_7_code q.1 = .ok q.2 := pgCut0 (pgCut (b := 60) rfl pgDk169_0 rfl)
set_option maxRecDepth 100000 in
theorem pgDa170 : ∀ q ∈ pgD170, decode prog_10_method_4_code q.1 = .ok q.2 := pgCut0 (pgCut (b := 60) rfl pgDk170_0 rfl)
set_option maxRecDepth 100000 in
theorem pgDa171 : ∀ q ∈ pgD171, decode prog_10_method_5_code q.1 = .ok q.2 := pgCut0 (pgCut (b := 60) rfl pgDk171_0 rfl)
set_option maxRecDepth 100000 in
theorem pgDa172 : ∀ q ∈ pgD172, decode prog_8_method_6_code q.1 = .ok q.2 := pgCut0 (pgCut (b := 60) rfl pgDk172_0 rfl)
set_option maxRecDepth 100000 in
theorem pgDa173 : ∀ q ∈ pgD173, decode prog_9_method_14_code q.1 = .ok q.2 := pgCut0 (pgCut (b := 60) rfl pgDk173_0 rfl)
set_option maxRecDepth 100000 in
theorem pgDa174 : ∀ q ∈ pgD174, decode prog_9_method_15_code q.1 = .ok q.2 := pgCut0 (pgCut (b := 60) rfl pgDk174_0 (pgCut (b := 120) rfl pgDk174_60 rfl))
set_option maxRecDepth 100000 in
theorem pgDa175 : ∀ q ∈ pgD175, decode prog_9_method_16_code q.1 = .ok q.2 := pgCut0 (pgCut (b := 60) rfl pgDk175_0 (pgCut (b := 120) rfl pgDk175_60 rfl))
set_option maxRecDepth 100000 in
theorem pgDa176 : ∀ q ∈ pgD176, decode prog_8_method_10_code q.1 = .ok q.2 := pgCut0 (pgCut (b := 60) rfl pgDk176_0 rfl)
set_option maxRecDepth 100000 in
theorem pgDa177 : ∀ q ∈ pgD177, decode prog_9_method_17_code q.1 = .ok q.2 := pgCut0 (pgCut (b := 60) rfl pgDk177_0 (pgCut (b := 120) rfl pgDk177_60 rfl))
set_option maxRecDepth 100000 in
theorem pgDa178 : ∀ q ∈ pgD178, decode prog_8_method_12_code q.1 = .ok q.2 := pgCut0 (pgCut (b := 60) rfl pgDk178_0 rfl)
set_option maxRecDepth 100000 in
theorem pgDa179 : ∀ q ∈ pgD179, decode prog_8_method_9_code q.1 = .ok q.2 := pgCut0 (pgCut (b := 60) rfl pgDk179_0 rfl)
set_option maxRecDepth 100000 in
theorem pgDa180 : ∀ q ∈ pgD180, decode prog_8_method_13_code q.1 = .ok q.2 := pgCut0 (pgCut (b := 60) rfl pgDk180_0 rfl)
set_option maxRecDepth 100000 in
theorem pgDa181 : ∀ q ∈ pgD181, decode prog_9_method_18_code q.1 = .ok q.2 := pgCut0 (pgCut (b := 60) rfl pgDk181_0 rfl)
set_option maxRecDepth 100000 in
theorem pgDa182 : ∀ q ∈ pgD182, decode prog_9_method_6_code q.1 = .ok q.2 := pgCut0 (pgCut (b := 60) rfl pgDk182_0 rfl)
set_option maxRecDepth 100000 in
theorem pgDa183 : ∀ q ∈ pgD183, decode method_19_code q.1 = .ok q.2 := pgCut0 (pgCut (b := 60) rfl pgDk183_0 rfl)
set_option maxRecDepth 100000 in
theorem pgDa184 : ∀ q ∈ pgD184, decode prog_1_method_18_code q.1 = .ok q.2 := pgCut0 (pgCut (b := 60) rfl pgDk184_0 rfl)
set_option maxRecDepth 100000 in
theorem pgDa185 : ∀ q ∈ pgD185, decode prog_9_method_2_code q.1 = .ok q.2 := pgCut0 (pgCut (b := 60) rfl pgDk185_0 rfl)
set_option maxRecDepth 100000 in
theorem pgDa186 : ∀ q ∈ pgD186, decode prog_9_method_3_code q.1 = .ok q.2 := pgCut0 (pgCut (b := 60) rfl pgDk186_0 rfl)
set_option maxRecDepth 100000 in
theorem pgDa187 : ∀ q ∈ pgD187, decode prog_14_method_1_code q.1 = .ok q.2 := pgCut0 (pgCut (b := 60) rfl pgDk187_0 (pgCut (b := 120) rfl pgDk187_60 (pgCut (b := 180) rfl pgDk187_120 (pgCut (b := 240) rfl pgDk187_180 (pgCut (b := 300) rfl pgDk187_240 rfl)))))
set_option maxRecDepth 100000 in
theorem pgDa188 : ∀ q ∈ pgD188, decode prog_14_method_2_code q.1 = .ok q.2 := pgCut0 (pgCut (b := 60) rfl pgDk188_0 rfl)
set_option maxRecDepth 100000 in
theorem pgDa189 : ∀ q ∈ pgD189, decode prog_14_method_6_code q.1 = .ok q.2 := pgCut0 (pgCut (b := 60) rfl pgDk189_0 rfl)
set_option maxRecDepth 100000 in
theorem pgDa190 : ∀ q ∈ pgD190, decode prog_14_method_3_code q.1 = .ok q.2 := pgCut0 (pgCut (b := 60) rfl pgDk190_0 rfl)
set_option maxRecDepth 100000 in
theorem pgDa191 : ∀ q ∈ pgD191, decode prog_14_method_5_code q.1 = .ok q.2 := pgCut0 (pgCut (b := 60) rfl pgDk191_0 rfl)
set_option maxRecDepth 100000 in
theorem pgDa192 : ∀ q ∈ pgD192, decode prog_14_method_4_code q.1 = .ok q.2 := pgCut0 (pgCut (b := 60) rfl pgDk192_0 rfl)
set_option maxRecDepth 100000 in
theorem pgDa193 : ∀ q ∈ pgD193, decode prog_14_method_7_code q.1 = .ok q.2 := pgCut0 (pgCut (b := 60) rfl pgDk193_0 rfl)
set_option maxRecDepth 100000 in
theorem pgDa194 : ∀ q ∈ pgD194, decode prog_14_method_9_code q.1 = .ok q.2 := pgCut0 (pgCut (b := 60) rfl pgDk194_0 rfl)
set_option maxRecDepth 100000 in
theorem pgDa195 : ∀ q ∈ pgD195, decode prog_14_method_8_code q.1 = .ok q.2 := pgCut0 (pgCut (b := 60) rfl pgDk195_0 rfl)
set_option maxRecDepth 100000 in
theorem pgDa196 : ∀ q ∈ pgD196, decode prog_14_method_12_code q.1 = .ok q.2 := pgCut0 (pgCut (b := 60) rfl pgDk196_0 (pgCut (b := 120) rfl pgDk196_60 rfl))
set_option maxRecDepth 100000 in
theorem pgDa197 : ∀ q ∈ pgD197, decode prog_14_method_10_code q.1 = .ok q.2 := pgCut0 (pgCut (b := 60) rfl pgDk197_0 (pgCut (b := 120) rfl pgDk197_60 rfl))
set_option maxRecDepth 100000 in
theorem pgDa198 : ∀ q ∈ pgD198, decode prog_14_method_11_code q.1 = .ok q.2 := pgCut0 (pgCut (b := 60) rfl pgDk198_0 rfl)
set_option maxRecDepth 100000 in
theorem pgDa199 : ∀ q ∈ pgD199, decode prog_14_method_14_code q.1 = .ok q.2 := pgCut0 (pgCut (b := 60) rfl pgDk199_0 (pgCut (b := 120) rfl pgDk199_60 rfl))
set_option maxRecDepth 100000 in
theorem pgDa200 : ∀ q ∈ pgD200, decode prog_14_method_18_code q.1 = .ok q.2 := pgCut0 (pgCut (b := 60) rfl pgDk200_0 rfl)
set_option maxRecDepth 100000 in
theorem pgDa201 : ∀ q ∈ pgD201, decode prog_14_method_16_code q.1 = .ok q.2 := pgCut0 (pgCut (b := 60) rfl pgDk201_0 rfl)
set_option maxRecDepth 100000 in
theorem pgDa202 : ∀ q ∈ pgD202, decode prog_14_method_19_code q.1 = .ok q.2 := pgCut0 (pgCut (b := 60) rfl pgDk202_0 rfl)
set_option maxRecDepth 100000 in
theorem pgDa203 : ∀ q ∈ pgD203, decode prog_14_method_17_code q.1 = .ok q.2 := pgCut0 (pgCut (b := 60) rfl pgDk203_0 rfl)
set_option maxRecDepth 100000 in
theorem pgDa204 : ∀ q ∈ pgD204, decode prog_14_method_20_code q.1 = .ok q.2 := pgCut0 (pgCut (b := 60) rfl pgDk204_0 rfl)
set_option maxRecDepth 100000 in
theorem pgDa205 : ∀ q ∈ pgD205, decode prog_14_method_21_code q.1 = .ok q.2 := pgCut0 (pgCut (b := 60) rfl pgDk205_0 rfl)
set_option maxRecDepth 100000 in
theorem pgDa206 : ∀ q ∈ pgD206, decode prog_14_method_15_code q.1 = .ok q.2 := pgCut0 (pgCut (b := 60) rfl pgDk206_0 rfl)
set_option maxRecDepth 100000 in
theorem pgDa207 : ∀ q ∈ pgD207, decode prog_14_method_22_code q.1 = .ok q.2 := pgCut0 (pgCut (b := 60) rfl pgDk207_0 rfl)
set_option maxRecDepth 100000 in
theorem pgDa208 : ∀ q ∈ pgD208, decode prog_14_method_23_code q.1 = .ok q.2 := pgCut0 (pgCut (b := 60) rfl pgDk208_0 rfl)
set_option maxRecDepth 100000 in
theorem pgDa209 : ∀ q ∈ pgD209, decode prog_14_method_24_code q.1 = .ok q.2 := pgCut0 (pgCut (b := 60) rfl pgDk209_0 rfl)
set_option maxRecDepth 100000 in
theorem pgDa210 : ∀ q ∈ pgD210, decode prog_14_method_49_code q.1 = .ok q.2 := pgCut0 (pgCut (b := 60) rfl pgDk210_0 (pgCut (b := 120) rfl pgDk210_60 (pgCut (b := 180) rfl pgDk210_120 (pgCut (b := 240) rfl pgDk210_180 rfl))))
set_option maxRecDepth 100000 in
theorem pgDa211 : ∀ q ∈ pgD211, decode prog_14_method_39_code q.1 = .ok q.2 := pgCut0 (pgCut (b := 60) rfl pgDk211_0 rfl)
set_option maxRecDepth 100000 in
theorem pgDa212 : ∀ q ∈ pgD212, decode prog_14_method_33_code q.1 = .ok q.2 := pgCut0 (pgCut (b := 60) rfl pgDk212_0 (pgCut (b := 120) rfl pgDk212_60 (pgCut (b := 180) rfl pgDk212_120 rfl)))
set_option maxRecDepth 100000 in
theorem pgDa213 : ∀ q ∈ pgD213, decode prog_14_method_26_code q.1 = .ok q.2 := pgCut0 (pgCut (b := 60) rfl pgDk213_0 rfl)
set_option maxRecDepth 100000 in
theorem pgDa214 : ∀ q ∈ pgD214, decode prog_14_method_25_code q.1 = .ok q.2 := pgCut0 (pgCut (b := 60) rfl pgDk214_0 rfl)
set_option maxRecDepth 100000 in
theorem pgDa215 : ∀ q ∈ pgD215, decode prog_14_method_38_code q.1 = .ok q.2 := pgCut0 (pgCut (b := 60) rfl pgDk215_0 (pgCut (b := 120) rfl pgDk215_60 (pgCut (b := 180) rfl pgDk215_120 rfl)))
set_option maxRecDepth 100000 in
theorem pgDa216 : ∀ q ∈ pgD216, decode prog_14_method_31_code q.1 = .ok q.2 := pgCut0 (pgCut (b := 60) rfl pgDk216_0 (pgCut (b := 120) rfl pgDk216_60 (pgCut (b := 180) rfl pgDk216_120 rfl)))
set_option maxRecDepth 100000 in
theorem pgDa217 : ∀ q ∈ pgD217, decode prog_14_method_28_code q.1 = .ok q.2 := pgCut0 (pgCut (b := 60) rfl pgDk217_0 rfl)
set_option maxRecDepth 100000 in
theorem pgDa218 : ∀ q ∈ pgD218, decode prog_14_method_30_code q.1 = .ok q.2 := pgCut0 (pgCut (b := 60) rfl pgDk218_0 (pgCut (b := 120) rfl pgDk218_60 rfl))
set_option maxRecDepth 100000 in
theorem pgDa219 : ∀ q ∈ pgD219, decode prog_14_method_27_code q.1 = .ok q.2 := pgCut0 (pgCut (b := 60) rfl pgDk219_0 rfl)
set_option maxRecDepth 100000 in
theorem pgDa220 : ∀ q ∈ pgD220, decode prog_14_method_37_code q.1 = .ok q.2 := pgCut0 (pgCut (b := 60) rfl pgDk220_0 rfl)
set_option maxRecDepth 100000 in
theorem pgDa221 : ∀ q ∈ pgD221, decode prog_14_method_35_code q.1 = .ok q.2 := pgCut0 (pgCut (b := 60) rfl pgDk221_0 rfl)
set_option maxRecDepth 100000 in
theorem pgDa222 : ∀ q ∈ pgD222, decode prog_14_method_34_code q.1 = .ok q.2 := pgCut0 (pgCut (b := 60) rfl pgDk222_0 rfl)
set_option maxRecDepth 100000 in
theorem pgDa223 : ∀ q ∈ pgD223, decode prog_14_method_29_code q.1 = .ok q.2 := pgCut0 (pgCut (b := 60) rfl pgDk223_0 (pgCut (b := 120) rfl pgDk223_60 (pgCut (b := 180) rfl pgDk223_120 rfl)))
set_option maxRecDepth 100000 in
theorem pgDa224 : ∀ q ∈ pgD224, decode prog_14_method_36_code q.1 = .ok q.2 := pgCut0 (pgCut (b := 60) rfl pgDk224_0 (pgCut (b := 120) rfl pgDk224_60 rfl))
set_option maxRecDepth 100000 in
theorem pgDa225 : ∀ q ∈ pgD225, decode prog_14_method_32_code q.1 = .ok q.2 := pgCut0 (pgCut (b := 60) rfl pgDk225_0 (pgCut (b := 120) rfl pgDk225_60 (pgCut (b := 180) rfl pgDk225_120 rfl)))
set_option maxRecDepth 100000 in
theorem pgDa226 : ∀ q ∈ pgD226, decode prog_14_method_40_code q.1 = .ok q.2 := pgCut0 (pgCut (b := 60) rfl pgDk226_0 (pgCut (b := 120) rfl pgDk226_60 rfl))
set_option maxRecDepth 100000 in
theorem pgDa227 : ∀ q ∈ pgD227, decode prog_14_method_43_code q.1 = .ok q.2 := pgCut0 (pgCut (b := 60) rfl pgDk227_0 rfl)
set_option maxRecDepth 100000 in
theorem pgDa228 : ∀ q ∈ pgD228, decode prog_14_method_42_code q.1 = .ok q.2 := pgCut0 (pgCut (b := 60) rfl pgDk228_0 (pgCut (b := 120) rfl pgDk228_60 (pgCut (b := 180) rfl pgDk228_120 rfl)))
set_option maxRecDepth 100000 in
theorem pgDa229 : ∀ q ∈ pgD229, decode prog_14_method_13_code q.1 = .ok q.2 := pgCut0 (pgCut (b := 60) rfl pgDk229_0 rfl)
set_option maxRecDepth 100000 in
theorem pgDa230 : ∀ q ∈ pgD230, decode prog_14_method_41_code q.1 = .ok q.2 := pgCut0 (pgCut (b := 60) rfl pgDk230_0 rfl)
set_option maxRecDepth 100000 in
theorem pgDa231 : ∀ q ∈ pgD231, decode prog_14_method_44_code q.1 = .ok q.2 := pgCut0 (pgCut (b := 60) rfl pgDk231_0 rfl)
set_option maxRecDepth 100000 in
theorem pgDa232 : ∀ q ∈ pgD232, decode prog_14_method_45_code q.1 = .ok q.2 := pgCut0 (pgCut (b := 60) rfl pgDk232_0 rfl)
set_option maxRecDepth 100000 in
theorem pgDa233 : ∀ q ∈ pgD233, decode prog_14_method_46_code q.1 = .ok q.2 := pgCut0 (pgCut (b := 60) rfl pgDk233_0 (pgCut (b := 120) rfl pgDk233_60 (pgCut (b := 180) rfl pgDk233_120 rfl)))
set_option maxRecDepth 100000 in
theorem pgDa234 : ∀ q ∈ pgD234, decode prog_14_method_48_code q.1 = .ok q.2 := pgCut0 (pgCut (b := 60) rfl pgDk234_0 rfl)
set_option maxRecDepth 100000 in
theorem pgDa235 : ∀ q ∈ pgD235, decode prog_14_method_47_code q.1 = .ok q.2 := pgCut0 (pgCut (b := 60) rfl pgDk235_0 (pgCut (b := 120) rfl pgDk235_60 (pgCut (b := 180) rfl pgDk235_120 rfl)))
set_option maxRecDepth 100000 in
theorem pgDa236 : ∀ q ∈ pgD236, decode prog_14_method_50_code q.1 = .ok q.2 := pgCut0 (pgCut (b := 60) rfl pgDk236_0 rfl)
set_option maxRecDepth 100000 in
theorem pgDa237 : ∀ q ∈ pgD237, decode prog_14_method_54_code q.1 = .ok q.2 := pgCut0 (pgCut (b := 60) rfl pgDk237_0 (pgCut (b := 120) rfl pgDk237_60 (pgCut (b := 180) rfl pgDk237_120 rfl)))
set_option maxRecDepth 100000 in
theorem pgDa238 : ∀ q ∈ pgD238, decode prog_14_method_52_code q.1 = .ok q.2 := pgCut0 (pgCut (b := 60) rfl pgDk238_0 rfl)
set_option maxRecDepth 100000 in
theorem pgDa239 : ∀ q ∈ pgD239, decode prog_14_method_53_code q.1 = .ok q.2 := pgCut0 (pgCut (b := 60) rfl pgDk239_0 (pgCut (b := 120) rfl pgDk239_60 rfl))
set_option maxRecDepth 100000 in
theorem pgDa240 : ∀ q ∈ pgD240, decode prog_14_method_51_code q.1 = .ok q.2 := pgCut0 (pgCut (b := 60) rfl pgDk240_0 rfl)
set_option maxRecDepth 100000 in
theorem pgDa241 : ∀ q ∈ pgD241, decode prog_14_method_66_code q.1 = .ok q.2 := pgCut0 (pgCut (b := 60) rfl pgDk241_0 (pgCut (b := 120) rfl pgDk241_60 (pgCut (b := 180) rfl pgDk241_120 rfl)))
set_option maxRecDepth 100000 in
theorem pgDa242 : ∀ q ∈ pgD242, decode prog_14_method_65_code q.1 = .ok q.2 := pgCut0 (pgCut (b := 60) rfl pgDk242_0 rfl)
set_option maxRecDepth 100000 in
theorem pgDa243 : ∀ q ∈ pgD243, decode prog_14_method_55_code q.1 = .ok q.2 := pgCut0 (pgCut (b := 60) rfl pgDk243_0 rfl)
set_option maxRecDepth 100000 in
theorem pgDa244 : ∀ q ∈ pgD244, decode prog_14_method_64_code q.1 = .ok q.2 := pgCut0 (pgCut (b := 60) rfl pgDk244_0 (pgCut (b := 120) rfl pgDk244_60 rfl))
set_option maxRecDepth 100000 in
theorem pgDa245 : ∀ q ∈ pgD245, decode prog_14_method_59_code q.1 = .ok q.2 := pgCut0 (pgCut (b := 60) rfl pgDk245_0 (pgCut (b := 120) rfl pgDk245_60 (pgCut (b := 180) rfl pgDk245_120 (pgCut (b := 240) rfl pgDk245_180 (pgCut (b := 300) rfl pgDk245_240 rfl)))))
set_option maxRecDepth 100000 in
theorem pgDa246 : ∀ q ∈ pgD246, decode prog_14_method_57_code q.1 = .ok q.2 := pgCut0 (pgCut (b := 60) rfl pgDk246_0 rfl)
set_option maxRecDepth 100000 in
theorem pgDa247 : ∀ q ∈ pgD247, decode prog_14_method_56_code q.1 = .ok q.2 := pgCut0 (pgCut (b := 60) rfl pgDk247_0 rfl)
set_option maxRecDepth 100000 in
theorem pgDa248 : ∀ q ∈ pgD248, decode prog_14_method_58_code q.1 = .ok q.2 := pgCut0 (pgCut (b := 60) rfl pgDk248_0 rfl)
set_option maxRecDepth 100000 in
theorem pgDa249 : ∀ q ∈ pgD249, decode prog_14_method_60_code q.1 = .ok q.2 := pgCut0 (pgCut (b := 60) rfl pgDk249_0 rfl)
set_option maxRecDepth 100000 in
theorem pgDa250 : ∀ q ∈ pgD250, decode prog_14_method_62_code q.1 = .ok q.2 := pgCut0 (pgCut (b := 60) rfl pgDk250_0 (pgCut (b := 120) rfl pgDk250_60 (pgCut (b := 180) rfl pgDk250_120 rfl)))
set_option maxRecDepth 100000 in
theorem pgDa251 : ∀ q ∈ pgD251, decode prog_14_method_61_code q.1 = .ok q.2 := pgCut0 (pgCut (b := 60) rfl pgDk251_0 rfl)
set_option maxRecDepth 100000 in
theorem pgDa252 : ∀ q ∈ pgD252, decode prog_14_method_63_code q.1 = .ok q.2 := pgCut0 (pgCut (b := 60) rfl pgDk252_0 rfl)
set_option maxRecDepth 100000 in
theorem pgDa253 : ∀ q ∈ pgD253, decode prog_14_method_67_code q.1 = .ok q.2 := pgCut0 (pgCut (b := 60) rfl pgDk253_0 rfl)
def pgDg : List mvE → List (List (Nat × Instr × Nat)) → Prop
  | E :: t, l :: t2 => (∀ q ∈ l, decode E.2.1 q.1 = .ok q.2) ∧ pgDg t t2
  | [], [] => True
  | _, _ => False
theorem pgDg_app : ∀ {a c : List mvE} {b d : List (List (Nat × Instr × Nat))}, pgDg a b → pgDg c d → pgDg (a ++ c) (b ++ d)
  | [], _, [], _, _, h => h
  | [], _, _ :: _, _, h, _ => h.elim
  | _ :: _, _, [], _, h, _ => h.elim
  | _ :: _, _, _ :: _, _, h, h2 => ⟨h.1, pgDg_app h.2 h2⟩
theorem pgDg_get : ∀ {a : List mvE} {b : List (List (Nat × Instr × Nat))} {j : Nat} {E : mvE} {l : List (Nat × Instr × Nat)}, pgDg a b → a[j]? = some E → b[j]? = some l → ∀ q ∈ l, decode E.2.1 q.1 = .ok q.2
  | [], _, _, _, _, _, h, _ => by simp at h
  | _ :: _, [], _, _, _, h, _, _ => h.elim
  | _ :: _, _ :: _, 0, _, _, h, h1, h2 => by simp at h1 h2; subst h1; subst h2; exact h.1
  | _ :: _, _ :: _, j + 1, _, _, h, h1, h2 => pgDg_get (j := j) h.2 (by simpa using h1) (by simpa using h2)
def pgDs0 : List (List (Nat × Instr × Nat)) := [pgD0, pgD1, pgD2, pgD3, pgD4, pgD5, pgD6, pgD7, pgD8, pgD9, pgD10, pgD11, pgD12, pgD13, pgD14, pgD15, pgD16, pgD17, pgD18, pgD19, pgD20, pgD21, pgD22, pgD23, pgD24, pgD25, pgD26, pgD27, pgD28, pgD29, pgD30, pgD31, pgD32, pgD33, pgD34, pgD35, pgD36, pgD37, pgD38, pgD39, pgD40, pgD41, pgD42, pgD43, pgD44, pgD45, pgD46, pgD47, pgD48, pgD49]
theorem pgDs0_ok : pgDg pgM0 pgDs0 := ⟨pgDa0, pgDa1, pgDa2, pgDa3, pgDa4, pgDa5, pgDa6, pgDa7, pgDa8, pgDa9, pgDa10, pgDa11, pgDa12, pgDa13, pgDa14, pgDa15, pgDa16, pgDa17, pgDa18, pgDa19, pgDa20, pgDa21, pgDa22, pgDa23, pgDa24, pgDa25, pgDa26, pgDa27, pgDa28, pgDa29, pgDa30, pgDa31, pgDa32, pgDa33, pgDa34, pgDa35, pgDa36, pgDa37, pgDa38, pgDa39, pgDa40, pgDa41, pgDa42, pgDa43, pgDa44, pgDa45, pgDa46, pgDa47, pgDa48, pgDa49, trivial⟩
def pgDs1 : List (List (Nat × Instr × Nat)) := [pgD50, pgD51, pgD52, pgD53, pgD54, pgD55, pgD56, pgD57, pgD58, pgD59, pgD60, pgD61, pgD62, pgD63, pgD64, pgD65, pgD66, pgD67, pgD68, pgD69, pgD70, pgD71, pgD72, pgD73, pgD74, pgD75, pgD76, pgD77, pgD78, pgD79, pgD80, pgD81, pgD82, pgD83, pgD84, pgD85, pgD86, pgD87, pgD88, pgD89, pgD90, pgD91, pgD92, pgD93, pgD94, pgD95, pgD96, pgD97, pgD98, pgD99]
theorem pgDs1_ok : pgDg pgM1 pgDs1 := ⟨pgDa50, pgDa51, pgDa52, pgDa53, pgDa54, pgDa55, pgDa56, pgDa57, pgDa58, pgDa59, pgDa60, pgDa61, pgDa62, pgDa63, pgDa64, pgDa65, pgDa66, pgDa67, pgDa68, pgDa69, pgDa70, pgDa71, pgDa72, pgDa73, pgDa74, pgDa75, pgDa76, pgDa77, pgDa78, pgDa79, pgDa80, pgDa81, pgDa82, pgDa83, pgDa84, pgDa85, pgDa86, pgDa87, pgDa88, pgDa89, pgDa90, pgDa91, pgDa92, pgDa93, pgDa94, pgDa95, pgDa96, pgDa97, pgDa98, pgDa99, trivial⟩
def pgDs2 : List (List (Nat × Instr × Nat)) := [pgD100, pgD101, pgD102, pgD103, pgD104, pgD105, pgD106, pgD107, pgD108, pgD109, pgD110, pgD111, pgD112, pgD113, pgD114, pgD115, pgD116, pgD117, pgD118, pgD119, pgD120, pgD121, pgD122, pgD123, pgD124, pgD125, pgD126, pgD127, pgD128, pgD129, pgD130, pgD131, pgD132, pgD133, pgD134, pgD135, pgD136, pgD137, pgD138, pgD139, pgD140, pgD141, pgD142, pgD143, pgD144, pgD145, pgD146, pgD147, pgD148, pgD149]
theorem pgDs2_ok : pgDg pgM2 pgDs2 := ⟨pgDa100, pgDa101, pgDa102, pgDa103, pgDa104, pgDa105, pgDa106, pgDa107, pgDa108, pgDa109, pgDa110, pgDa111, pgDa112, pgDa113, pgDa114, pgDa115, pgDa116, pgDa117, pgDa118, pgDa119, pgDa120, pgDa121, pgDa122, pgDa123, pgDa124, pgDa125, pgDa126, pgDa127, pgDa128, pgDa129, pgDa130, pgDa131, pgDa132, pgDa133, pgDa134, pgDa135, pgDa136, pgDa137, pgDa138, pgDa139, pgDa140, pgDa141, pgDa142, pgDa143, pgDa144, pgDa145, pgDa146, pgDa147, pgDa148, pgDa149, trivial⟩
def pgDs3 : List (List (Nat × Instr × Nat)) := [pgD150, pgD151, pgD152, pgD153, pgD154, pgD155, pgD156, pgD157, pgD158, pgD159, pgD160, pgD161, pgD162, pgD163, pgD164, pgD165, pgD166, pgD167, pgD168, pgD169, pgD170, pgD171, pgD172, pgD173, pgD174, pgD175, pgD176, pgD177, pgD178, pgD179, pgD180, pgD181, pgD182, pgD183, pgD184, pgD185, pgD186, pgD187, pgD188, pgD189, pgD190, pgD191, pgD192, pgD193, pgD194, pgD195, pgD196, pgD197, pgD198, pgD199]
theorem pgDs3_ok : pgDg pgM3 pgDs3 := ⟨pgDa150, pgDa151, pgDa152, pgDa153, pgDa154, pgDa155, pgDa156, pgDa157, pgDa158, pgDa159, pgDa160, pgDa161, pgDa162, pgDa163, pgDa164, pgDa165, pgDa166, pgDa167, pgDa168, pgDa169, pgDa170, pgDa171, pgDa172, pgDa173, pgDa174, pgDa175, pgDa176, pgDa177, pgDa178, pgDa179, pgDa180, pgDa181, pgDa182, pgDa183, pgDa184, pgDa185, pgDa186, pgDa187, pgDa188, pgDa189, pgDa190, pgDa191, pgDa192, pgDa193, pgDa194, pgDa195, pgDa196, pgDa197, pgDa198, pgDa199, trivial⟩
def pgDs4 : List (List (Nat × Instr × Nat)) := [pgD200, pgD201, pgD202, pgD203, pgD204, pgD205, pgD206, pgD207, pgD208, pgD209, pgD210, pgD211, pgD212, pgD213, pgD214, pgD215, pgD216, pgD217, pgD218, pgD219, pgD220, pgD221, pgD222, pgD223, pgD224, pgD225, pgD226, pgD227, pgD228, pgD229, pgD230, pgD231, pgD232, pgD233, pgD234, pgD235, pgD236, pgD237, pgD238, pgD239, pgD240, pgD241, pgD242, pgD243, pgD244, pgD245, pgD246, pgD247, pgD248, pgD249]
theorem pgDs4_ok : pgDg pgM4 pgDs4 := ⟨pgDa200, pgDa201, pgDa202, pgDa203, pgDa204, pgDa205, pgDa206, pgDa207, pgDa208, pgDa209, pgDa210, pgDa211, pgDa212, pgDa213, pgDa214, pgDa215, pgDa216, pgDa217, pgDa218, pgDa219, pgDa220, pgDa221, pgDa222, pgDa223, pgDa224, pgDa225, pgDa226, pgDa227, pgDa228, pgDa229, pgDa230, pgDa231, pgDa232, pgDa233, pgDa234, pgDa235, pgDa236, pgDa237, pgDa238, pgDa239, pgDa240, pgDa241, pgDa242, pgDa243, pgDa244, pgDa245, pgDa246, pgDa247, pgDa248, pgDa249, trivial⟩
def pgDs5 : List (List (Nat × Instr × Nat)) := [pgD250, pgD251, pgD252, pgD253]
theorem pgDs5_ok : pgDg pgM5 pgDs5 := ⟨pgDa250, pgDa251, pgDa252, pgDa253, trivial⟩
def pgDs : List (List (Nat × Instr × Nat)) := pgDs0 ++ (pgDs1 ++ (pgDs2 ++ (pgDs3 ++ (pgDs4 ++ (pgDs5)))))
theorem pgDs_ok : pgDg pgM pgDs := (pgDg_app pgDs0_ok (pgDg_app pgDs1_ok (pgDg_app pgDs2_ok (pgDg_app pgDs3_ok (pgDg_app pgDs4_ok pgDs5_ok)))))
def pgDec (j pc : Nat) : Option (Instr × Nat) := match pgDs[j]? with
  | some l => (l.find? (fun q => q.1 == pc)).map (fun q => q.2)
  | none => none
theorem pgDec_ok : ∀ (j : Nat) (E : mvE) (pc : Nat) (q : Instr × Nat), pgMm j = some E → pgDec j pc = some q → decode E.2.1 pc = .ok q := by
  intro j E pc q hE hq
  unfold pgDec at hq
  split at hq
  · rename_i l hl
    obtain ⟨x, hx, rfl⟩ := Option.map_eq_some_iff.mp hq
    have h1 := pgDg_get pgDs_ok hE hl x (List.mem_of_find?_eq_some hx)
    have h2 := List.find?_some hx
    rw [← beq_iff_eq.mp h2]
    exact h1
  · cases hq
