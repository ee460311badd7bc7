section OPS14
variable {Rx : Nat → St → St → Prop} {S T : St}
/-- the kinds that a kind is under -/
def anc : Nat → List Nat
  | 0 => [0] | 1 => [1, 0] | 2 => [2, 0] | 3 => [3, 2, 0] | 4 => [4, 0] | 5 => [5, 1, 0] | 6 => [6, 4, 0] | _ => [7, 3, 2, 0]
theorem lt8 {i : Nat} (h : i < 8) : i = 0 ∨ i = 1 ∨ i = 2 ∨ i = 3 ∨ i = 4 ∨ i = 5 ∨ i = 6 ∨ i = 7 := by omega
theorem q_under (S : St) (i j : Nat) (hi : i < 8) (hj : j < 8) : f_X2_isUnder (nI i) (nI j) S = some (if j ∈ anc i then 1 else 0, S) := by
  rcases lt8 hi with q | q | q | q | q | q | q | q <;> rcases lt8 hj with p | p | p | p | p | p | p | p <;> subst q <;> subst p <;> rfl
theorem p_under (T : St) (x : Int32) (i j : Nat) (hi : i < 8) (hj : j < 8) : jx_w (g_X12_taken_59 x (nI j)) FU (nI i, T) = some (if j ∈ anc i then nI j else -1, T) := by
  rcases lt8 hi with q | q | q | q | q | q | q | q <;> rcases lt8 hj with p | p | p | p | p | p | p | p <;> subst q <;> subst p <;> rfl
theorem op_taken (hF : Fx Rx) (a b : Int32) (h : RR Rx S T) : OK Rx (f_X11_taken a b S) (f_X12_taken a b T) := by
  obtain ⟨n, m, t, c, e, d, hs, ht, hm, hp, hch, hi, hd, hh, hx0, hx1⟩ := id h
  obtain ⟨hdn, hS, hT, hv, hr⟩ := id hd
  unfold f_X11_taken f_X12_taken f_X2_kindOf
  simp only [q_isShelf, p_isShelf, q_within, p_in, zb_2, ite01, q_knows2 hS (by omega)]
  refine ok_if Iff.rfl (fun _ => ok_r _ h) (fun h1 => ok_if Iff.rfl (fun _ => ok_r _ h) (fun h2 => ?_))
  obtain ⟨j, hj, -, rfl⟩ := ix_lit (k := 5) (by omega) rfl (nn h1)
  obtain ⟨l, hl, -, rfl⟩ := ix_lit (k := 7) (by omega) rfl (nn h2)
  simp (disch := omega) only [↓zb_l, zb_an, cl_n]
  rcases hh j (by omega) with ⟨e1, e2⟩ | ⟨e1, e2, i, hid, e3, e4⟩ | ⟨e1, e2r⟩
  · rw [e1, e2, if_pos rfl, if_neg (by decide), if_pos rfl]
    exact ok_r _ h
  · rw [e1, e2, if_neg one_ne, if_pos rfl, if_pos rfl, e3, e4]
    obtain ⟨k, hk, ek⟩ := ix_of (x := S.1 35 i) (n := 8) ⟨(hv i hid).2.1, by have := (hv i hid).2.2; omega⟩ (by omega)
    have hin : 0 ≤ (nI i).toInt ∧ (nI i).toInt < (d : Int) := by rw [nI_toInt (by omega)]; omega
    simp (disch := omega) only [zb_an, cl_n, (hv i hid).1, ek, ↓zb_l, hin, and_self, not_true_eq_false, reduceIte, zb_2, q_under S k l hk hl, p_under T (nI j) k l hk hl]
    unfold f_X12_taken_77
    by_cases q : l ∈ anc k
    · rw [if_pos q, if_pos q, if_neg one_ne]
      show OK Rx (some (nI k, S)) (if nI l = -1 then _ else _)
      rw [if_neg (fun q2 => by have := congrArg Int32.toInt q2; rw [nI_toInt (by omega), show (-1 : Int32).toInt = -1 from rfl] at this; omega), zb_an _ (by omega) (by omega), cl_n (by omega), e3, zb_an _ (by omega) (by omega), cl_n (by omega), (hv i hid).1, ek]
      exact ok_r _ h
    · rw [if_neg q, if_neg q, if_pos rfl]
      exact ok_r _ h
  · obtain ⟨so, n', hso, hn', e2, -⟩ := e2r
    have i5 : so = 0 ∨ so = 1 ∨ so = 2 ∨ so = 3 ∨ so = 4 := by omega
    rw [e1, e2]
    rcases i5 with q | q | q | q | q <;> subst q <;> simp (decide := true) only [reduceIte] <;> exact ok_r _ h
end OPS14
