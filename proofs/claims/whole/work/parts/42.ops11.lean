section OPS11
theorem zd1000 {β : Type} (k : Option β) : jx_d 1000 k = k := zb_d k (by decide)
theorem zd10 {β : Type} (k : Option β) : jx_d 10 k = k := zb_d k (by decide)
theorem i99 : (99 : Int32).toInt = 99 := by decide
theorem i999 : (999 : Int32).toInt = 999 := by decide
theorem th_lo {i : Nat} (hi2 : i < 2147483648) (q : nI (i / 10) ≤ 99) : nI i ≤ (999 : Int32) := by
  rw [i32_le, nI_toInt (by omega), i99] at q
  rw [i32_le, nI_toInt (by omega), i999]
  omega
theorem th_hi {i : Nat} (hi2 : i < 2147483648) (q : nI i ≤ (999 : Int32)) : nI (i / 10) ≤ (99 : Int32) := by
  rw [i32_le, nI_toInt (by omega), i999] at q
  rw [i32_le, nI_toInt (by omega), i99]
  omega
variable {Rx : Nat → St → St → Prop} {S T : St}
theorem op_thing (hF : Fx Rx) (a b : Int32) (h : RR Rx S T) : OK Rx (f_X11_thing a b S) (f_X12_thing a b T) := by
  obtain ⟨n, m, t, c, e, d, hs, ht, hm, hp, hch, hi, hd, hh, hx0, hx1⟩ := id h
  obtain ⟨hn, hS, hT, hv⟩ := id ht
  unfold f_X11_thing f_X12_thing f_X12_thing_45
  have b45 : ∀ (p q : Int32), f_X12_thing_46 p q 0 T = some (-1, T) := fun p q => by unfold f_X12_thing_46; rw [if_pos rfl]
  simp only [zd1000, zd10, q_fits9, p_isLand, p_in, zb_2, ite01, b45]
  refine ok_if Iff.rfl (fun _ => ok_r _ h) (fun h1 => ?_)
  by_cases hb : b < 0
  · have k : ¬ (0 ≤ b ∧ b ≤ 999) := fun q => by rw [i32_lt] at hb; have := q.1; rw [i32_le] at this; omega
    rw [if_pos hb]
    simp only [k, not_false_eq_true, reduceIte, ite_self]
    exact ok_r _ h
  · rw [if_neg hb]
    obtain ⟨i, hi2, rfl⟩ := nI_of hb
    have t10 : nI 10 = (10 : Int32) := by decide
    have ed0 : nI i / 10 = nI (i / 10) := by rw [← t10]; exact pk_div (d := 10) hi2 (by omega) (by omega)
    rw [ed0]
    have er : nI i - nI (i / 10) * 10 = nI (i % 10) := by
      have := pk_rem (a := i) (d := 10) hi2 (by omega) (by omega)
      rw [pk_div (d := 10) hi2 (by omega) (by omega), t10] at this
      exact this
    generalize hA : a / 1000 = A
    generalize hB : a - A * 1000 = B
    by_cases hc : (0 ≤ A ∧ A ≤ 3) ∧ (1 ≤ B ∧ B ≤ 200) ∧ (0 ≤ nI (i / 10) ∧ nI (i / 10) ≤ 99)
    · have hc3 : (0 : Int32) ≤ nI i ∧ nI i ≤ 999 := by
        exact ⟨nI_pos' hi2, th_lo hi2 hc.2.2.2⟩
      rw [if_neg (fun q => q hc), if_neg (fun q => q hc.1), if_neg (fun q => q hc.2.1), if_neg (fun q => q hc3)]
      unfold f_X9_add f_X12_thing_46
      rw [if_neg one_ne, hS, hT]
      by_cases h8 : m = 10
      · subst h8
        rw [if_neg (show ¬ nI 10 < (10 : Int32) by decide), if_pos (show nI 10 = (10 : Int32) by decide), zb_2, if_pos rfl]
        exact ok_r _ h
      · have hlt : m < 10 := by omega
        have e1 : nI m < (10 : Int32) := nI_lt (b := 10) hlt (by omega)
        have e2 : ¬ nI m = (10 : Int32) := fun q => h8 ((nI_eq (b := 10) (by omega) (by omega)).mp q)
        rw [if_pos e1, if_neg e2]
        simp (disch := omega) only [↓zb_l, zb_an, cl_n, zb_2, rd_1, reduceIte, Nat.reduceEqDiff, hS, hT, nI_1, zd1000, zd10, one_ne, hA, hB, ed0, er, q_bd (x0 := 0) (x1 := 9) (a := 0) (b := 9) rfl rfl (show 0 ≤ i % 10 by omega) (show i % 10 ≤ 9 by omega)]
        refine ok_mk rfl ⟨n, m + 1, t, c, e, d, hs, ⟨hlt, rfl, rfl, fun y hy => ?_⟩, hm, hp, Rc_mono (by omega) (by omega) hch, Ri_mono (by omega) (by omega) hi, hd, Rh_keep hh ?_ rfl rfl rfl rfl, fx_keep hF hx0 ?_ ?_, fx_keep hF hx1 ?_ ?_⟩
        · simp only [rd_1, reduceIte, Nat.reduceEqDiff]
          by_cases hij : y = m
          · simp only [hij, reduceIte]
            refine ⟨⟨trivial, trivial, trivial, trivial⟩, rg_of hc.1 rfl rfl, rg_of hc.2.1 rfl rfl, rg_of hc.2.2 rfl rfl, ?_⟩
            unfold rg; rw [nI_toInt (by omega)]; omega
          · simp only [if_neg hij]
            exact hv y (by omega)
        all_goals (intro k h1; intros; simp (disch := omega) only [ne_u1])
    · rw [if_pos hc]
      by_cases k1 : 0 ≤ A ∧ A ≤ 3
      · by_cases k2 : 1 ≤ B ∧ B ≤ 200
        · have k3 : ¬ ((0 : Int32) ≤ nI i ∧ nI i ≤ 999) := fun q => hc ⟨k1, k2, nI_pos' (by omega), th_hi hi2 q.2⟩
          rw [if_neg (fun q => q k1), if_neg (fun q => q k2), if_pos k3]; exact ok_r _ h
        · rw [if_neg (fun q => q k1), if_pos k2]; exact ok_r _ h
      · rw [if_pos k1]; exact ok_r _ h
end OPS11
