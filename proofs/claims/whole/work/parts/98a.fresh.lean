/-! the fresh states, and that they are related -/
def S0 : St := (fun _ _ => 0, fun _ _ => 0)
def sh0 : Nat → Int32 := upd (upd (upd (upd (upd (upd (fun _ => 0) 0 (-1)) 1 (-1)) 2 (-1)) 3 (-1)) 4 (-1)) 5 (-1)
def T0 : St := s1 S0 31 sh0
theorem sh0_6 : ∀ h, h < 6 → sh0 h = -1
  | 0, _ => rfl
  | 1, _ => rfl
  | 2, _ => rfl
  | 3, _ => rfl
  | 4, _ => rfl
  | 5, _ => rfl
  | n + 6, h => absurd h (by omega)
theorem rg_0 {b : Int} (h : 0 ≤ b) : rg 0 0 b := ⟨by decide, h⟩
theorem TX_0 (t : Nat) : TX t [] S0 T0 := ⟨rfl, rfl, by decide, by decide, trivial, rfl, trivial, fun l h => absurd h List.not_mem_nil, fun _ _ _ => rfl⟩
theorem RR_0 : RR RxC S0 T0 := by
  refine ⟨0, 0, 0, 0, 0, 0, ?_, ?_, ?_, ?_, ?_, ?_, ?_, ?_, fun _ => ⟨[], TX_0 0⟩, fun _ => ⟨[], TX_0 1⟩⟩
  · exact ⟨by omega, rfl, rfl, fun i h => absurd h (by omega)⟩
  · exact ⟨by omega, rfl, rfl, fun i h => absurd h (by omega)⟩
  · exact ⟨fun i _ => ⟨rfl, rg_0 (by decide)⟩, ⟨rfl, rg_0 (by decide)⟩, ⟨rfl, rg_0 (by decide)⟩, rfl, rfl, rfl⟩
  · exact ⟨by omega, rfl, rfl, fun i h => absurd h (by omega)⟩
  · exact ⟨by omega, by omega, rfl, rfl, rfl, rfl, fun i h => absurd h (by omega)⟩
  · exact Or.inl ⟨rfl, rfl⟩
  · exact ⟨by omega, rfl, rfl, fun i h => absurd h (by omega), rfl, rg_0 (by decide), fun i _ _ => rfl⟩
  · exact fun h hh => Or.inl ⟨rfl, sh0_6 h hh⟩
