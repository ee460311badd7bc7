section OPS16
variable {Rx : Nat → St → St → Prop} {S T : St}
theorem op_shift (hF : Fx Rx) (a x b y z : Int32) (h : RR Rx S T) : OK Rx (f_X11_shift a x b y z S) (f_X12_shift a x b y z T) := by
  obtain ⟨n, m, t, c, e, d, hs, ht, hm, hp, hch, hi, hd, hh, hx0, hx1⟩ := id h
  unfold f_X11_shift f_X12_shift
  simp only [q_isShelf, p_isShelf, zb_2, ite01]
  refine ok_if Iff.rfl (fun _ => ok_r _ h) (fun h1 => ok_if Iff.rfl (fun _ => ok_r _ h) (fun h2 => ?_))
  obtain ⟨j, hj, -, rfl⟩ := ix_lit (k := 5) (by omega) rfl (nn h1)
  obtain ⟨k, hk, -, rfl⟩ := ix_lit (k := 5) (by omega) rfl (nn h2)
  rw [zb_an _ (by omega) (by omega), zb_l, zb_an _ (by omega) (by omega), zb_l]
  repeat rw [zb_an _ (show j < 6 by omega) (by omega)]
  repeat rw [zb_an _ (show k < 6 by omega) (by omega)]
  rw [cl_n (show j < 2 ^ 31 by omega), cl_n (show k < 2 ^ 31 by omega)]
  have ne5 : ∀ so : Nat, so < 5 → ¬ nI so = -1 ∧ ¬ nI so = 5 := fun so hso => by
    have i5 : so = 0 ∨ so = 1 ∨ so = 2 ∨ so = 3 ∨ so = 4 := by omega
    rcases i5 with q | q | q | q | q <;> subst q <;> decide
  rcases hh j (by omega) with ⟨e1, e2⟩ | ⟨e1, e2, -⟩ | ⟨e1, so, n1, hso, hn1, e2, e3, e4, e5, e6⟩
  · rw [e1, e2, if_pos rfl, if_pos rfl]
    exact ok_r _ h
  · rcases hh k (by omega) with ⟨g1, g2⟩ | ⟨g1, g2, -⟩ | ⟨g1, so2, n2, hso2, hn2, g2, g3, g4, g5, g6⟩
    · rw [e1, e2, g1, g2]; simp (decide := true) only [reduceIte]; exact ok_r _ h
    · rw [e1, e2, g1, g2]; simp (decide := true) only [reduceIte]; exact ok_r _ h
    · rw [e1, e2, g1, g2]; simp (decide := true) only [reduceIte, (ne5 so2 hso2).1]; exact ok_r _ h
  · rcases hh k (by omega) with ⟨g1, g2⟩ | ⟨g1, g2, -⟩ | ⟨g1, so2, n2, hso2, hn2, g2, g3, g4, g5, g6⟩
    · rw [e1, e2, g1, g2]; simp (decide := true) only [reduceIte, (ne5 so hso).1]; exact ok_r _ h
    · rw [e1, e2, g1, g2]; simp (decide := true) only [reduceIte, (ne5 so hso).1, (ne5 so hso).2]; exact ok_r _ h
    · rw [e1, e2, g1, g2, e3, g3, e4, g4]
      simp (decide := true) only [reduceIte, (ne5 so hso).1, (ne5 so hso).2, (ne5 so2 hso2).1]
      refine ok_if Iff.rfl (fun hq => ?_) (fun _ => ok_r _ h)
      simp only [q_spans e5 hn1, q_spans g5 hn2, zb_2, ite01]
      have h0 : (0 : Int32).toInt = 0 := rfl
      by_cases c1 : z < 0
      · rw [if_pos (show ¬ (0 ≤ x.toInt ∧ 0 ≤ z.toInt ∧ x.toInt + z.toInt ≤ (n1 : Int)) by rw [i32_lt] at c1; omega), if_pos c1]; exact ok_r _ h
      rw [if_neg c1]
      by_cases c2 : x < 0
      · rw [if_pos (show ¬ (0 ≤ x.toInt ∧ 0 ≤ z.toInt ∧ x.toInt + z.toInt ≤ (n1 : Int)) by rw [i32_lt] at c2; omega), if_pos c2]; exact ok_r _ h
      rw [if_neg c2]
      obtain ⟨w, hw, rfl⟩ := nI_of c1
      obtain ⟨p, hp2, rfl⟩ := nI_of c2
      rw [nI_toInt hw, nI_toInt hp2]
      by_cases q1 : p + w ≤ n1
      · rw [if_neg (show ¬ ¬ ((0 : Int) ≤ (p : Int) ∧ (0 : Int) ≤ (w : Int) ∧ (p : Int) + (w : Int) ≤ (n1 : Int)) from fun q => q (by omega))]
        have d4 : ¬ nI n1 < nI p := by rw [i32_lt, nI_toInt (by omega), nI_toInt hp2]; omega
        have d6 : ¬ nI n1 - nI p < nI w := by rw [pk_sub (by omega), i32_lt, nI_toInt (by omega), nI_toInt hw]; omega
        by_cases c3 : y < 0
        · rw [if_pos (show ¬ ((0 : Int) ≤ y.toInt ∧ (0 : Int) ≤ (w : Int) ∧ y.toInt + (w : Int) ≤ (n2 : Int)) by rw [i32_lt] at c3; omega), if_pos c3]; exact ok_r _ h
        rw [if_neg c3, if_neg d4, if_neg d6]
        obtain ⟨r, hr2, rfl⟩ := nI_of c3
        rw [nI_toInt hr2]
        by_cases q2 : r + w ≤ n2
        · have d5 : ¬ nI n2 < nI r := by rw [i32_lt, nI_toInt (by omega), nI_toInt hr2]; omega
          have d7 : nI w ≤ nI n2 - nI r := by rw [pk_sub (by omega), i32_le, nI_toInt (by omega), nI_toInt (by omega)]; omega
          rw [if_neg (show ¬ ¬ ((0 : Int) ≤ (r : Int) ∧ (0 : Int) ≤ (w : Int) ∧ (r : Int) + (w : Int) ≤ (n2 : Int)) from fun q => q (by omega)), if_neg d5, if_pos d7]
          obtain ⟨T', t1, t2, t3, -⟩ := p_shiftrun j p k r w (by omega) (by omega) (by omega) (by omega) T
          rw [t1, zb_c _ ⟨c2, c3, c1, by rw [cl_n (by omega), cl_n (by omega)]; omega, by rw [cl_n (by omega), cl_n (by omega)]; omega⟩, zb_l, cl_n (by omega), cl_n (by omega), cl_n (by omega)]
          refine ok_mk rfl (rest_shelf hF hs ht hm hp hch hi hd (Rh_set (h := k) hh (fun i hi1 hik => ⟨rfl, ?_, by rw [t2], by rw [t2], fun l hl => ?_⟩) (Or.inr (Or.inr ⟨g1, so2, n2, hso2, hn2, by rw [t2]; exact g2, g3, by rw [t2]; exact g4, g5, fun l hl => ?_⟩))) hx0 hx1 (fun _ _ => rfl) (fun _ _ => by rw [t2]))
          · show (if 49 + 2 * i = 48 + 2 * k + 1 then _ else _) = _
            rw [if_neg (by omega)]
          · rw [t3, if_neg (by omega)]
          · rw [show ∀ f : Nat → Int64, (s2 S (48 + 2 * k + 1) f).2 (49 + 2 * k) = f from fun f => if_pos (by omega), t3]
            by_cases q : r ≤ l ∧ l < r + w
            · rw [if_pos (by omega), pk_cpy_in q.1 q.2, show 60 * j + p + (60 * k + l - (60 * k + r)) = 60 * j + (p + (l - r)) by omega, e6 _ (by omega), show 49 + 2 * j = 48 + 2 * j + 1 by omega]
            · rw [if_neg (by omega), pk_cpy_out (by omega), g6 l hl, show 49 + 2 * k = 48 + 2 * k + 1 by omega]
        · rw [if_pos (show ¬ ((0 : Int) ≤ (r : Int) ∧ (0 : Int) ≤ (w : Int) ∧ (r : Int) + (w : Int) ≤ (n2 : Int)) by omega)]
          by_cases c5 : nI n2 < nI r
          · rw [if_pos c5]; exact ok_r _ h
          rw [i32_lt, nI_toInt (by omega), nI_toInt hr2] at c5
          rw [if_neg (show ¬ nI n2 < nI r by rw [i32_lt, nI_toInt (by omega), nI_toInt hr2]; omega), pk_sub (by omega), if_neg (by rw [i32_le, nI_toInt hw, nI_toInt (by omega)]; omega)]; exact ok_r _ h
      · rw [if_pos (show ¬ ((0 : Int) ≤ (p : Int) ∧ (0 : Int) ≤ (w : Int) ∧ (p : Int) + (w : Int) ≤ (n1 : Int)) by omega)]
        by_cases c3 : y < 0
        · rw [if_pos c3]; exact ok_r _ h
        rw [if_neg c3]
        by_cases c4 : nI n1 < nI p
        · rw [if_pos c4]; exact ok_r _ h
        rw [if_neg c4]
        by_cases c5 : nI n2 < y
        · rw [if_pos c5]; exact ok_r _ h
        rw [i32_lt, nI_toInt (by omega), nI_toInt hp2] at c4
        rw [if_neg c5, pk_sub (by omega), if_pos (by rw [i32_lt, nI_toInt (by omega), nI_toInt hw]; omega)]; exact ok_r _ h
end OPS16
