/-! Run: evaluating a place that makes a cell. -/
def f158b (M : Mm) (q9 q14 : Int) : Option (Int × Mm) := if q14 = 0 then (f160 M q9).bind (fun zq20 => (f162 zq20.2 zq20.1).bind (fun zq26 => some (0, zq26.2))) else (if q14 = 1 then (f163 M q9).bind (fun zq33 => (f162 zq33.2 zq33.1).bind (fun zq39 => some (0, zq39.2))) else (if q14 = 2 then (f164 M (M 47 12) q9).bind (fun q46 => (f162 M q46).bind (fun zq51 => some (0, zq51.2))) else (if q14 = 3 then (if rg ((M 47 11) + 1) then (f161 M 3 q9 ((M 47 11) + 1) (M 47 12) (M 47 13)).bind (fun zq59 => (f162 zq59.2 zq59.1).bind (fun zq65 => some (0, zq65.2))) else none) else (if q14 = 4 then (f67 M q9).bind (fun q72 => (f72 M (M 47 10)).bind (fun q77 => if rg (((M 47 11) + 1) + q72) then (f166 M 0 q77 (((M 47 11) + 1) + q72) (M 47 12) (M 47 13)).bind (fun zq83 => if rg ((zq83.2 47 11) + 1) then (some (0, (up (up zq83.2 47 10 q9) 47 11 ((zq83.2 47 11) + 1)))) else none) else none)) else (if q14 = 5 then (f72 M (M 47 10)).bind (fun q95 => (f167 M q9 q95).bind (fun zq100 => some (0, zq100.2))) else ((f173 M q9).bind (fun zq106 => some (0, zq106.2))))))))
section EV
variable {M : Mm}
theorem f159_y {s lim : Nat} (h7 : M 47 7 = (s : Int)) (h8 : M 47 8 = (lim : Int)) (hs : s < lim) (hl : lim ≤ 300) : f159 M = some (1, up (up M 47 9 0) 47 7 ((s : Int) + 1)) := by
  unfold f159
  rw [h7, h8, if_pos (by omega), if_pos (by unfold rg; omega)]
theorem f159_n {s : Nat} (h7 : M 47 7 = (s : Int)) (h8 : M 47 8 = (s : Int)) : f159 M = some (0, up M 47 9 1) := by
  unfold f159
  rw [h7, h8, if_neg (by omega)]
theorem f246_y {s lim : Nat} (h7 : M 53 58 = (s : Int)) (h8 : M 53 59 = (lim : Int)) (hs : s < lim) (hl : lim ≤ 300) : f246 M = some (1, up M 53 58 ((s : Int) + 1)) := by
  unfold f246
  rw [h7, h8, if_pos (by omega), if_pos (by unfold rg; omega)]
theorem f246_n {s : Nat} (h7 : M 53 58 = (s : Int)) (h8 : M 53 59 = (s : Int)) : f246 M = some (0, up M 53 60 1) := by
  unfold f246
  rw [h7, h8, if_neg (by omega)]
theorem f158_hd {s lim e : Nat} (h10 : M 47 10 = (e : Int)) (he : e < 200) (h7 : M 47 7 = (s : Int)) (h8 : M 47 8 = (lim : Int)) (hs : s < lim) (hl : lim ≤ 300) : f158 M = f158b (up (up M 47 9 0) 47 7 ((s : Int) + 1)) (M 14 e) (M 13 e) := by
  have a : up (up M 47 9 0) 47 7 ((s : Int) + 1) 47 10 = (e : Int) := by rw [up_at (by decide), up_at (by decide)]; exact h10
  have b : f70 (up (up M 47 9 0) 47 7 ((s : Int) + 1)) (e : Int) = some (M 14 e) := by
    unfold f70
    rw [if_pos (by omega), up_cell (by decide), up_cell (by decide), Int.toNat_natCast]
  have c : f69 (up (up M 47 9 0) 47 7 ((s : Int) + 1)) (e : Int) = some (M 13 e) := by
    unfold f69
    rw [if_pos (by omega), up_cell (by decide), up_cell (by decide), Int.toNat_natCast]
  unfold f158
  rw [f159_y h7 h8 hs hl, bs_]
  dsimp only
  rw [if_pos (by decide), a, b, bs_, c, bs_]
  unfold f158b
  rw [a]
theorem f158_no {s : Nat} (h7 : M 47 7 = (s : Int)) (h8 : M 47 8 = (s : Int)) : f158 M = some (0, up M 47 9 1) := by
  unfold f158
  rw [f159_n h7 h8, bs_]
  dsimp only
  rw [if_neg (by decide)]
theorem f244_ev {w : Nat} (h71 : M 53 71 = ((w + 1 : Nat) : Int)) (hw : w < 2000) (h103 : M 103 w = 0) : f244 M = (f245 (up M 53 71 (w : Int)) (M 104 w) (M 105 w) (M 106 w) (M 107 w) (M 108 w)).bind (fun z => some (0, z.2)) := by
  unfold f244
  rw [h71, show ((w + 1 : Nat) : Int) - 1 = (w : Int) by omega, if_pos (by unfold rg; omega), if_pos (by omega), Int.toNat_natCast, if_pos h103]
theorem f245_0 {M1 : Mm} {e : Nat} {x1 x3 x4 x5 : Int} (h : f246 M = some (1, M1)) (he : e < 200) (hk : M1 63 e = 0) : f245 M x1 (e : Int) x3 x4 x5 = (f247 M1 0 (M1 64 e) 0 0 0 0).bind (fun z => some (0, (up z.2 53 78 z.1))) := by
  unfold f245
  rw [h, bs_]
  dsimp only
  rw [if_pos (by decide), if_pos (by omega), Int.toNat_natCast, if_pos hk]
theorem f245_1 {M1 : Mm} {e : Nat} {x1 x3 x4 x5 : Int} (h : f246 M = some (1, M1)) (he : e < 200) (hk : M1 63 e = 1) : f245 M x1 (e : Int) x3 x4 x5 = if 2 ≤ M1 64 e then (if ¬ M1 64 e = 5 then (f247 M1 4 (M1 64 e) 0 (-1) (-1) 0).bind (fun z => some (0, (up z.2 53 78 z.1))) else (f247 M1 2 0 0 0 0 0).bind (fun z => some (0, (up z.2 53 78 z.1)))) else (if rg ((1 : Int) - M1 64 e) then (f247 M1 1 ((1 : Int) - M1 64 e) 0 0 0 0).bind (fun z => some (0, (up z.2 53 78 z.1))) else none) := by
  unfold f245
  rw [h, bs_]
  dsimp only
  rw [if_pos (by decide), if_pos (by omega), Int.toNat_natCast, if_neg (by omega), if_pos hk]
theorem f245_3 {M1 : Mm} {e p : Nat} {x1 x4 x5 : Int} (h : f246 M = some (1, M1)) (he : e < 200) (hp : p < 60) (hk : M1 63 e = 3) : f245 M x1 (e : Int) (p : Int) x4 x5 = (f247 M1 5 x1 (M1 64 e) ((p : Int) + 1) x4 x5).bind (fun z => some (0, (up z.2 53 78 z.1))) := by
  unfold f245
  rw [h, bs_]
  dsimp only
  rw [if_pos (by decide), if_pos (by omega), Int.toNat_natCast, if_neg (by omega), if_neg (by omega), if_neg (by omega), if_pos hk, if_pos (by unfold rg; omega)]
theorem f245_no {s : Nat} {x1 x2 x3 x4 x5 : Int} (h7 : M 53 58 = (s : Int)) (h8 : M 53 59 = (s : Int)) : f245 M x1 x2 x3 x4 x5 = some (0, up M 53 60 1) := by
  unfold f245
  rw [f246_n h7 h8, bs_]
  dsimp only
  rw [if_neg (by decide)]
end EV
