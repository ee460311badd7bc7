section OPS13
variable {Rx : Nat → St → St → Prop} {S T : St}
/-- the coins held in all: both loops step alike -/
theorem qp_all {n : Nat} (hs : Rs n S T) (a : Int32) : ∃ r, f_X1_heldInAll S = some (r, S) ∧ f_X12_count a T = f_X12_count_27 a r T := by
  obtain ⟨hn, hS, hT, hv⟩ := hs
  obtain ⟨r, r2, e1, e2, e3⟩ := wl_two (g_X1_heldInAll_4 S) (g_X12_count_4 a T) (fun s t => s = t ∧ ∃ i, i ≤ n ∧ s.2 = nI i) (fun s => n - s.2.toNatClampNeg) (fun r r2 => r = r2)
    (fun s t hI => by
      obtain ⟨rfl, i, hi, hsi⟩ := hI
      obtain ⟨v, w⟩ := s
      simp only at hsi
      subst hsi
      unfold g_X1_heldInAll_4 b_X1_heldInAll_4 g_X12_count_4 b_X12_count_4
      simp only [hS, hT]
      by_cases h : i = n
      · subst h
        rw [if_pos (nI_le (Nat.le_refl i) (by omega)), if_pos (nI_le (Nat.le_refl i) (by omega))]
        exact Or.inr ⟨v, v, rfl, rfl, rfl⟩
      · have hvi := hv i (by omega)
        have hle : ¬ nI n ≤ nI i := by rw [i32_le, nI_toInt (by omega), nI_toInt (by omega)]; omega
        rw [if_neg hle, if_neg hle]
        simp (disch := omega) only [zb_an, cl_n, hvi.1.2.2.2.2, zb_l, nI_1]
        exact Or.inl ⟨_, _, rfl, rfl, ⟨rfl, i + 1, by omega, rfl⟩, by show n - (nI (i + 1)).toNatClampNeg < n - i; rw [cl_n (by omega)]; omega⟩)
    FU (0, 0) (0, 0) ⟨rfl, 0, by omega, rfl⟩ (FU_lt (show n - _ < 100000 by omega) 0)
  subst e3
  unfold f_X1_heldInAll f_X12_count
  rw [e1, e2]
  exact ⟨r, rfl, rfl⟩
theorem op_count (hF : Fx Rx) (a : Int32) (h : RR Rx S T) : OK Rx (f_X11_count a S) (f_X12_count a T) := by
  obtain ⟨n, m, t, c, e, d, hs, ht, hm, hp, hch, hi, hd, hh, hx0, hx1⟩ := id h
  obtain ⟨w, w1, w2⟩ := qp_all hs a
  rw [w2]
  unfold f_X11_count f_X12_count_27
  rw [w1, hs.2.1, hs.2.2.1, ht.2.1, ht.2.2.1, hp.2.1, hp.2.2.1, hch.2.2.1, hch.2.2.2.2.1, hd.2.1, hd.2.2.1, hd.2.2.2.2.1, zb_2]
  refine ok_if Iff.rfl (fun _ => ok_r _ h) (fun _ => ok_if Iff.rfl (fun _ => ok_r _ h) (fun _ => ok_if Iff.rfl (fun _ => ok_r _ h) (fun _ => ok_if Iff.rfl (fun _ => ok_r _ h) (fun _ => ok_if Iff.rfl (fun _ => ok_r _ h) (fun _ => ok_if Iff.rfl (fun _ => ok_r _ h) (fun _ => ok_if Iff.rfl (fun _ => ok_r _ h) (fun _ => ok_r _ h)))))))
end OPS13
