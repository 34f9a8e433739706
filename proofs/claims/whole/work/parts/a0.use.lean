/-! Run: a use of a method, first forms. -/
theorem f245_5 {M M1 : Mm} {e p u t : Nat} {x4 x5 : Int} (h : f246 M = some (1, M1)) (he : e < 200) (hp : p < 60) (hu : u < 74) (hk : M1 63 e = 5) (h72 : M1 72 (8 * (60 * u + p)) = (t : Int)) {M2 : Mm} {t' : Nat} (hres : f248 M1 (t : Int) x5 = some (0, M2)) (h79 : M2 53 79 = (t' : Int)) (ht : t' < 200000) : f245 M (u : Int) (e : Int) (p : Int) x4 x5 = l245 FU 318 M2 (u : Int) (e : Int) (p : Int) x4 x5 ((8 * (60 * u + p) : Nat) : Int) (if M2 73 t' = 3 then 2 else M2 73 t') 0 := by
  unfold f245
  rw [h, bs_]
  dsimp only
  have e8 : (8 : Int) * (((60 : Int) * (u : Int)) + (p : Int)) = ((8 * (60 * u + p) : Nat) : Int) := by omega
  rw [if_pos (by decide), if_pos (by omega), Int.toNat_natCast, if_neg (by omega), if_neg (by omega), if_neg (by omega), if_neg (by omega), if_neg (by omega), if_pos hk, e8, if_pos (by omega), Int.toNat_natCast, h72, hres, bs_]
  dsimp only
  have e79 : (M2 53 79).toNat = t' := by rw [h79, Int.toNat_natCast]
  rw [if_pos (by rw [h79]; omega)]
  by_cases z : M2 73 t' = 3
  · rw [if_neg (fun q => q (by rw [e79]; exact z)), if_pos (by unfold rg; omega), if_pos z]
  · rw [if_pos (fun q => z (by rw [e79] at q; exact q)), if_pos (by unfold rg; omega), e79, if_neg z]
