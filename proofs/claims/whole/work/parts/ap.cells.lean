/-! Run: the other side's cells stay under 6000; so run agrees. -/
theorem cells_ok : Cells := by
  intro M0 R0 N NT G lim hrl hU hl
  refine ⟨Pc, ⟨⟨cells_E1 hl, cells_E2 hl⟩, ⟨cells_V0, cells_V1, cells_V3⟩, ⟨cells_C1 hl, cells_C2 hl, cells_C3 hl⟩, ⟨cells_F0, cells_F1⟩, fun ph Mc τ ω n m w s a b c d h => h.1⟩, fun Mc τ ω h12 => ⟨by omega, Or.inl ⟨rfl, fun _ => 0, fun _ => 0, fun _ => 0, fun _ => 0, fun _ => 0, fun _ => 0, fun _ => 0, fun _ => false, 0, 0, 0, 0, 0, ⟨⟨?_, ?_, ?_, ?_⟩, ⟨?_, ?_, ?_, ?_, ?_, ?_, ?_, ?_⟩, ⟨?_, ?_, ?_, ?_, ?_, ?_, ?_⟩, ⟨?_, ?_, ?_⟩⟩, ?_, ?_⟩⟩⟩
  · exact fun k hk => by omega
  · exact fun k hk => by omega
  · exact fun k hk => by omega
  · exact ⟨fun i x hi => by omega, fun k x hk => by omega, fun x hx => absurd hx Bool.false_ne_true⟩
  · exact fun k hk => by omega
  · exact Nat.le_refl 0
  · exact Nat.le_refl 0
  · exact Nat.le_refl 0
  · rfl
  · exact fun q => absurd q (Nat.lt_irrefl 0)
  · exact ⟨Nat.le_refl 0, Nat.le_refl 0⟩
  · exact Or.inr (fun i hi => by omega)
  · exact fun k k' h1 h2 => by omega
  · exact fun k hk => by omega
  · exact fun k hk => by omega
  · exact fun k hk => by omega
  · exact fun k hk => by omega
  · exact fun x hx => by omega
  · exact fun q => absurd q (Nat.lt_irrefl 0)
  · exact fun k hk => by omega
  · exact fun k hF hk => by omega
  · exact fun k hk => by omega
  · exact fun k hk => by have := hk.1; omega
  · exact fun x hx => rfl
theorem run_ok {Mc Mr : Mm} (rel : Rel Mc Mr) (x y : Int) : Ans Mc Mr (f149 Mc x y) (f241 Mr x y) := run_call cells_ok rel x y
