section OPS12
variable {Rx : Nat → St → St → Prop} {S T : St}
/-- the worth of the coins of one land: both loops step alike -/
theorem qp_worth {n : Nat} (hs : Rs n S T) (a : Int32) : ∃ r, f_X1_worthOf a S = some (r, S) ∧ f_X12_purseOf a T = some (r, T) := by
  obtain ⟨hn, hS, hT, hv⟩ := hs
  obtain ⟨r, r2, e1, e2, e3⟩ := wl_two (g_X1_worthOf_4 a S) (g_X12_purseOf_4 a T) (fun s t => s = t ∧ ∃ i, i ≤ n ∧ s.2 = nI i) (fun s => n - s.2.toNatClampNeg) (fun r r2 => r = r2)
    (fun s t hI => by
      obtain ⟨rfl, i, hi, hsi⟩ := hI
      obtain ⟨v, w⟩ := s
      simp only at hsi
      subst hsi
      unfold g_X1_worthOf_4 b_X1_worthOf_4 g_X12_purseOf_4 b_X12_purseOf_4
      simp only [hS, hT]
      by_cases h : i = n
      · subst h
        rw [if_pos (nI_le (Nat.le_refl i) (by omega)), if_pos (nI_le (Nat.le_refl i) (by omega))]
        exact Or.inr ⟨v, v, rfl, rfl, rfl⟩
      · have hvi := hv i (by omega)
        have hle : ¬ nI n ≤ nI i := by rw [i32_le, nI_toInt (by omega), nI_toInt (by omega)]; omega
        rw [if_neg hle, if_neg hle]
        simp (disch := omega) only [zb_an, cl_n, hvi.1.1, hvi.1.2.1, hvi.1.2.2.2.2]
        unfold f_X1_worthOf_40i4 f_X12_purseOf_40i4
        simp only [zb_l, nI_1]
        refine Or.inl ?_
        by_cases q : S.1 2 i = a
        · rw [if_pos q, if_pos q]
          exact ⟨_, _, rfl, rfl, ⟨by rw [Int32.mul_comm], i + 1, by omega, rfl⟩, by show n - (nI (i + 1)).toNatClampNeg < n - i; rw [cl_n (by omega)]; omega⟩
        · rw [if_neg q, if_neg q]
          exact ⟨_, _, rfl, rfl, ⟨rfl, i + 1, by omega, rfl⟩, by show n - (nI (i + 1)).toNatClampNeg < n - i; rw [cl_n (by omega)]; omega⟩)
    FU (0, 0) (0, 0) ⟨rfl, 0, by omega, rfl⟩ (FU_lt (show n - _ < 100000 by omega) 0)
  subst e3
  unfold f_X1_worthOf f_X12_purseOf
  rw [e1, e2]
  exact ⟨r, rfl, rfl⟩
theorem op_of (hF : Fx Rx) (a b : Int32) (h : RR Rx S T) : OK Rx (f_X11_of a b S) (f_X12_of a b T) := by
  obtain ⟨n, m, t, c, e, d, hs, ht, hm, hp, hch, hi, hd, hh, hx0, hx1⟩ := id h
  obtain ⟨hn, hS, hT, hv⟩ := id hs
  obtain ⟨hn9, hS9, hT9, hv9⟩ := id ht
  obtain ⟨w, w1, w2⟩ := qp_worth hs a
  unfold f_X11_of f_X12_of f_X12_of_150
  simp only [q_within, p_in, q_isLand, p_isLand, q_knows hS (by omega), p_isSort hT (by omega), q_knows9 hS9 (by omega), p_isThing hT9 (by omega), zb_2, ite01, w1, w2]
  refine ok_if Iff.rfl (fun h1 => ok_if Iff.rfl (fun h2 => ?_) (fun h2 => ?_)) (fun h1 => ?_)
  · by_cases k1 : 0 ≤ a ∧ a ≤ 3
    · obtain ⟨j, hj, -, rfl⟩ := ix_lit (k := 3) (by omega) rfl k1
      by_cases k3 : 20 ≤ b ∧ b ≤ 21
      · rw [if_neg (show ¬ ¬ (0 ≤ nI j ∧ nI j ≤ 3) from fun q => q k1), if_neg (show ¬ ¬ (20 ≤ b ∧ b ≤ 21) from fun q => q k3)]
        try rw [if_neg (show ¬ ¬ (0 ≤ nI j ∧ nI j ≤ 3) from fun q => q k1)]
        try rw [if_neg (show ¬ ¬ (20 ≤ b ∧ b ≤ 21) from fun q => q k3)]
        refine ok_if Iff.rfl (fun _ => ?_) (fun _ => ok_r _ h)
        rw [zb_an _ (by omega) (by omega), zb_an _ (by omega) (by omega), cl_n (by omega)]
        exact ok_e (by rw [(hm.1 j hj).1]) h
      · rw [if_neg (fun q => q k1), if_pos k3, if_pos k3]
        exact ok_r _ h
    · rw [if_pos k1, if_pos k1, ite_self]
      exact ok_r _ h
  · refine ok_if Iff.rfl (fun _ => ok_r _ h) (fun h3 => ?_)
    obtain ⟨j, hj, rfl⟩ := ix_of (nn h3) (by omega)
    have hvj := hv9 j hj
    unfold f_X11_ofThing
    simp (disch := omega) only [zb_an, cl_n, hvj.1.1, hvj.1.2.1, hvj.1.2.2.1, hvj.1.2.2.2]
    by_cases k0 : b = 10
    · rw [if_pos k0, if_pos k0, zb_2]; exact ok_r _ h
    · rw [if_neg k0, if_neg k0]
      by_cases k1 : b = 11
      · rw [if_pos k1, if_pos k1, zb_2]; exact ok_r _ h
      · rw [if_neg k1, if_neg k1]
        by_cases k2 : b = 12
        · rw [if_pos k2, if_pos k2, zb_2]; exact ok_r _ h
        · rw [if_neg k2, if_neg k2, zb_2]; exact ok_r _ h
  · refine ok_if Iff.rfl (fun _ => ok_r _ h) (fun h3 => ?_)
    obtain ⟨j, hj, rfl⟩ := ix_of (nn h3) (by omega)
    have hvj := hv j hj
    obtain ⟨i, hi5, -, rfl⟩ := ix_lit (k := 4) (by omega) rfl (nn h1)
    unfold f_X11_ofSort f_X12_held
    simp (disch := omega) only [zb_an, cl_n, hvj.1.1, hvj.1.2.1, hvj.1.2.2.1, hvj.1.2.2.2.1, hvj.1.2.2.2.2]
    have i5 : i = 0 ∨ i = 1 ∨ i = 2 ∨ i = 3 ∨ i = 4 := by omega
    rcases i5 with q | q | q | q | q <;> subst q <;> simp (decide := true) only [reduceIte, zb_2] <;> exact ok_r _ h
end OPS12
