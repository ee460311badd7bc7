section OPS14
variable {Rx : Nat → St → St → Prop} {S T : St}
/-- the kinds that a kind is under -/
def anc : Nat → List Nat
  | 0 => [0] | 1 => [1, 0] | 2 => [2, 0] | 3 => [3, 2, 0] | 4 => [4, 0] | 5 => [5, 1, 0] | 6 => [6, 4, 0] | _ => [7, 3, 2, 0]
theorem lt8 {i : Nat} (h : i < 8) : i = 0 ∨ i = 1 ∨ i = 2 ∨ i = 3 ∨ i = 4 ∨ i = 5 ∨ i = 6 ∨ i = 7 := by omega
theorem q_under (S : St) (i j : Nat) (hi : i < 8) (hj : j < 8) : f_X2_isUnder (nI i) (nI j) S = some (if j ∈ anc i then 1 else 0, S) := by
  rcases lt8 hi with q | q | q | q | q | q | q | q <;> rcases lt8 hj with p | p | p | p | p | p | p | p <;> subst q <;> subst p <;> rfl
theorem p_under (T : St) (x : Int32) (i j : Nat) (hi : i < 8) (hj : j < 8) : jx_w (g_X12_taken_59 x (nI j)) FU (nI i, T) = some (if j ∈ anc i then nI j else -1, T) := by
  rcases lt8 hi with q | q | q | q | q | q | q | q <;> rcases lt8 hj with p | p | p | p | p | p | p | p <;> subst q <;> subst p <;> rfl
end OPS14
