variable {S T : St}
def rN1 (R : Nat → Bool) (m : Nat) : Nat := if R m = true then 1 else 0
/-- the bits of all words, counted by the JDK's way -/
theorem q_sums {R : Nat → Bool} (h : Wd R (S.2 13)) (h0 : R 0 = true) : f_X5_sumsAboveZero S = some (nI (sumTo (rN1 R) 1984 - 1), S) := by
  unfold f_X5_sumsAboveZero
  obtain ⟨r, w1, w2⟩ := wl_for g_X5_sumsAboveZero_4 (fun k (_ : Unit) => (nI (sumTo (rN1 R) (64 * k)), nI k, S)) (fun _ _ => True) 31 (fun r => r = (nI (sumTo (rN1 R) (64 * 31)), S))
    (fun k _ hk _ => by
      refine ⟨(), ?_, trivial⟩
      unfold g_X5_sumsAboveZero_4 b_X5_sumsAboveZero_4
      obtain ⟨n, n1, n2, n3⟩ := h k hk
      have e : sumTo (bitN n) 64 = sumTo (fun i => rN1 R (64 * k + i)) 64 := sumTo_congr 64 (fun i hi => by
        show (if n.testBit i then 1 else 0) = (if R (64 * k + i) = true then 1 else 0)
        rw [n3 i hi])
      rw [if_neg (by exact nI_ge (b := 31) hk (by omega)), zb_an _ hk (by omega), cl_n (by omega), n2, q_pop n1, zb_2, zb_l, zb_l, nI_add, nI_1, e, ← sumTo_add, show 64 * k + 64 = 64 * (k + 1) by omega])
    (fun _ _ => ⟨_, by unfold g_X5_sumsAboveZero_4 b_X5_sumsAboveZero_4; rw [if_pos (by show (31 : Int32) ≤ nI 31; decide)], rfl⟩) FU 0 () (by omega) trivial (FU_lt (by omega) 0)
  rw [show ((0 : Int32), (0 : Int32), S) = (nI (sumTo (rN1 R) (64 * 0)), nI 0, S) from rfl, w1, zb_s, w2]
  unfold f_X5_sumsAboveZero_28
  have hpos : 1 ≤ sumTo (rN1 R) (64 * 31) := by
    rw [show 64 * 31 = 1 + 1983 from rfl, sumTo_add]
    show 1 ≤ (0 + rN1 R 0) + _
    unfold rN1
    rw [if_pos h0]; omega
  show some (nI (sumTo (rN1 R) (64 * 31)) - nI 1, S) = _
  rw [pk_sub hpos]
theorem op_amounts (a w : Int32) (h : RR RxC S T) : OK RxC (f_X11_amounts a w S) (f_X12_amounts a w T) := by
  obtain ⟨n, m, t, c, e, d, hs, ht, hm, hp, hch, hi, hd, hh, hx0, hx1⟩ := id h
  unfold f_X11_amounts f_X12_amounts
  simp only [q_isLand, p_isLand, q_within, p_in, zb_2, ite01]
  refine ok_if Iff.rfl (fun _ => ok_r _ h) (fun h1 => ok_if Iff.rfl (fun _ => ok_r _ h) (fun h2 => ?_))
  obtain ⟨S1, T1, l, e1, e2, -, e4, e5, e6, e7, e8⟩ := qp_pays hs a
  rw [e1, e2, zb_s, zb_s]
  have hR := RR_keep h (Fb_KX e6) (Fb_KM e7)
  have out : ∀ m, 1920 < m → rch l m = true → False := fun m hm hr => by have := rch_le l m hr; omega
  have r0 := rch_0 l
  have hpos : ∀ k, 1 ≤ k → 1 ≤ sumTo (rN1 (rch l)) k := fun k hk => by
    obtain ⟨j, rfl⟩ : ∃ j, k = 1 + j := ⟨k - 1, by omega⟩
    rw [sumTo_add]
    show 1 ≤ (0 + rN1 (rch l) 0) + _
    unfold rN1
    rw [if_pos r0]; omega
  obtain ⟨r, w1, w2⟩ := wl_for (g_X12_amounts_31 w 1) (fun i (_ : Unit) => (nI (sumTo (rN1 (rch l)) (i + 1) - 1), nI (i + 1), T1)) (fun _ _ => True) 1920 (fun r => r = (nI (sumTo (rN1 (rch l)) 1921 - 1), T1))
    (fun k _ hk _ => by
      refine ⟨(), ?_, trivial⟩
      unfold g_X12_amounts_31 b_X12_amounts_31 f_X12_amounts_54i31
      have q := hpos (k + 1) (by omega)
      rw [if_neg (by exact nI_nlt (a := 1920) (by omega) (by omega)), p_canPay e5 (by omega), zb_2]
      simp only [zb_l, nI_1]
      show _ = some (Sum.inl (nI (sumTo (rN1 (rch l)) (k + 1) + rN1 (rch l) (k + 1) - 1), nI (k + 1 + 1), T1))
      unfold rN1
      by_cases z : rch l (k + 1) = true
      · rw [if_pos (⟨by omega, z⟩ : k + 1 ≤ 1920 ∧ rch l (k + 1) = true), if_neg one_ne, if_pos z]
        have q2 : 1 ≤ sumTo (fun m => if rch l m = true then 1 else 0) (k + 1) := q
        rw [show sumTo (fun m => if rch l m = true then 1 else 0) (k + 1) - 1 + 1 = sumTo (fun m => if rch l m = true then 1 else 0) (k + 1) + 1 - 1 by omega]
      · rw [if_neg (fun y : k + 1 ≤ 1920 ∧ rch l (k + 1) = true => z y.2), if_pos rfl, if_neg z, Int32.add_zero, show ∀ x : Nat, x + 0 - 1 = x - 1 from fun _ => rfl])
    (fun _ _ => ⟨_, by unfold g_X12_amounts_31 b_X12_amounts_31; rw [if_pos (by show (1920 : Int32) < nI (1920 + 1); decide)], rfl⟩) FU 0 () (by omega) trivial (FU_lt (by omega) 0)
  have s1 : (nI (sumTo (rN1 (rch l)) (0 + 1) - 1), nI (0 + 1), T1) = ((0 : Int32), (1 : Int32), T1) := by
    show (nI (0 + (if rch l 0 = true then 1 else 0) - 1), _, _) = _
    rw [if_pos r0]; rfl
  rw [s1] at w1
  rw [w1, zb_s, w2]
  have hN : sumTo (rN1 (rch l)) 1984 = sumTo (rN1 (rch l)) 1921 := sumTo_stop 1984 (by omega) (fun i h1 _ => by
    unfold rN1
    exact if_neg (fun z => out i (by omega) z))
  obtain ⟨⟨v, S2⟩, ⟨v2, T2⟩, u1, u2, u3, u4, u5⟩ := wl_two g_X5_leastGap_2 (g_X12_amounts_62 w (nI (sumTo (rN1 (rch l)) 1921 - 1))) (fun s t => ∃ i, 1 ≤ i ∧ i ≤ 1921 ∧ s = (nI i, S1) ∧ t = (nI i, T1)) (fun s => 1922 - s.1.toNatClampNeg) (fun r r2 => r.1 = r2.1 ∧ r.2 = S1 ∧ r2.2 = T1)
    (fun s t hI => by
      obtain ⟨i, i1, i2, rfl, rfl⟩ := hI
      unfold g_X5_leastGap_2 b_X5_leastGap_2 g_X12_amounts_62 b_X12_amounts_62
      rw [q_can e4 (by omega), p_canPay e5 (by omega), zb_2, zb_2]
      by_cases hi : i ≤ 1920
      · rw [if_neg (by exact nI_nlt (a := 1920) hi (by omega))]
        by_cases z : rch l i = true
        · rw [if_pos (⟨hi, z⟩ : i ≤ 1920 ∧ rch l i = true), if_neg one_ne, zb_l, zb_l, nI_1]
          exact Or.inl ⟨_, _, rfl, rfl, ⟨i + 1, by omega, by omega, rfl, rfl⟩, by show 1922 - (nI (i + 1)).toNatClampNeg < 1922 - (nI i).toNatClampNeg; rw [cl_n (by omega), cl_n (by omega)]; omega⟩
        · rw [if_neg (fun y : i ≤ 1920 ∧ rch l i = true => z y.2), if_pos rfl]
          exact Or.inr ⟨_, _, rfl, rfl, rfl, rfl, rfl⟩
      · rw [if_pos (by exact nI_lt (a := 1920) (by omega) (by omega)), if_neg (fun y : i ≤ 1920 ∧ rch l i = true => hi y.1), if_pos rfl]
        exact Or.inr ⟨_, _, rfl, rfl, rfl, rfl, rfl⟩)
    FU (nI 1, S1) (nI 1, T1) ⟨1, by omega, by omega, rfl, rfl⟩ (FU_lt (show 1922 - _ < 100000 by omega) 0)
  simp only at u3 u4 u5
  subst u3; subst u4; subst u5
  unfold f_X12_amounts_62 f_X12_amounts_77 f_X5_leastGap f_X5_leastGap_23
  dsimp only
  rw [q_sums e4 r0, hN, zb_2, show ((1 : Int32), S2) = (nI 1, S2) from rfl, u1, zb_s, zb_2, show ((1 : Int32), T2) = (nI 1, T2) from rfl, u2, zb_s]
  exact ok_if Iff.rfl (fun _ => ok_r _ hR) (fun _ => ok_r _ hR)
