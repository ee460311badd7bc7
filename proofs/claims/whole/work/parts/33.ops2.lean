section OPS2
variable {Rx : Nat → St → St → Prop} {S T : St}
theorem ix_of {x : Int32} {n : Nat} (h : 0 ≤ x.toInt ∧ x.toInt < (n : Int)) (hn : n < 2 ^ 31) : ∃ j, j < n ∧ x = nI j := vp_in_of (vp_in_iff.mpr h) hn
theorem ix_lit {x : Int32} {k : Nat} {l : Int32} (hk : k < 2 ^ 31) (hl : l = nI k) (h : 0 ≤ x ∧ x ≤ l) : ∃ j, j < k + 1 ∧ j < 2 ^ 31 ∧ x = nI j := by
  subst hl
  obtain ⟨h1, h2⟩ := h
  rw [i32_le] at h1 h2
  rw [nI_toInt hk] at h2
  have h0 : (0 : Int32).toInt = 0 := rfl
  obtain ⟨j, hj, e⟩ := nI_of (x := x) (by rw [i32_lt]; omega)
  subst e
  rw [nI_toInt hj] at h2
  exact ⟨j, by omega, hj, rfl⟩
theorem q_knows {n : Nat} (hS : S.1 1 5 = nI n) (hn : n < 2 ^ 31) (x : Int32) : f_X1_knows x S = some (if 0 ≤ x.toInt ∧ x.toInt < (n : Int) then 1 else 0, S) := by
  unfold f_X1_knows
  rw [hS]
  simp only [i32_le, i32_lt, nI_toInt hn]
  have h0 : (0 : Int32).toInt = 0 := rfl
  split
  · rw [if_neg (by omega)]
  · split
    · rw [if_neg (by omega)]
    · rw [if_pos (by omega)]
theorem q_knows9 {n : Nat} (hS : S.1 7 4 = nI n) (hn : n < 2 ^ 31) (x : Int32) : f_X9_knows x S = some (if 0 ≤ x.toInt ∧ x.toInt < (n : Int) then 1 else 0, S) := by
  unfold f_X9_knows
  rw [hS]
  simp only [i32_le, i32_lt, nI_toInt hn]
  have h0 : (0 : Int32).toInt = 0 := rfl
  split
  · rw [if_neg (by omega)]
  · split
    · rw [if_neg (by omega)]
    · rw [if_pos (by omega)]
theorem q_knows2 {n : Nat} (hS : S.1 34 2 = nI n) (hn : n < 2 ^ 31) (x : Int32) : f_X2_knows x S = some (if 0 ≤ x.toInt ∧ x.toInt < (n : Int) then 1 else 0, S) := by
  unfold f_X2_knows
  rw [hS]
  simp only [i32_le, i32_lt, nI_toInt hn]
  have h0 : (0 : Int32).toInt = 0 := rfl
  split
  · rw [if_neg (by omega)]
  · split
    · rw [if_neg (by omega)]
    · rw [if_pos (by omega)]
theorem sub1_toInt {n : Nat} (hn : n < 2 ^ 30) : (nI n - 1).toInt = (n : Int) - 1 := pk_sub_toInt (b := 1) hn (by omega)
theorem p_isSort {n : Nat} (hT : T.1 0 0 = nI n) (hn : n < 2 ^ 30) (x : Int32) : f_X12_isSort x T = some (if 0 ≤ x.toInt ∧ x.toInt < (n : Int) then 1 else 0, T) := by
  unfold f_X12_isSort
  rw [p_in, hT, zb_2, zb_zc]
  have h0 : (0 : Int32).toInt = 0 := rfl
  congr 3
  simp only [i32_le, sub1_toInt hn, h0, eq_iff_iff]
  omega
theorem p_isThing {n : Nat} (hT : T.1 0 6 = nI n) (hn : n < 2 ^ 30) (x : Int32) : f_X12_isThing x T = some (if 0 ≤ x.toInt ∧ x.toInt < (n : Int) then 1 else 0, T) := by
  unfold f_X12_isThing
  rw [p_in, hT, zb_2, zb_zc]
  have h0 : (0 : Int32).toInt = 0 := rfl
  congr 3
  simp only [i32_le, sub1_toInt hn, h0, eq_iff_iff]
  omega
theorem nn {p : Prop} (h : ¬ ¬ p) : p := Classical.byContradiction h
theorem rg_of {x a b : Int32} {A B : Int} (h : a ≤ x ∧ x ≤ b) (ha : a.toInt = A) (hb : b.toInt = B) : rg x A B := by
  obtain ⟨h1, h2⟩ := h
  rw [i32_le] at h1 h2
  exact ⟨by omega, by omega⟩
theorem ok_mk {S' T' : St} {r r' : Int32} (e : r' = r) (h : RR Rx S' T') : OK Rx (some (r, S')) (some (r', T')) := ⟨r, S', T', rfl, by rw [e], h⟩
theorem op_purse (hF : Fx Rx) (a b : Int32) (h : RR Rx S T) : OK Rx (f_X11_purse a b S) (f_X12_purse a b T) := by
  obtain ⟨n, m, t, c, e, d, hs, ht, hm, hp, hch, hi, hd, hh, hx0, hx1⟩ := id h
  obtain ⟨hn, hS, hT, hv⟩ := id hs
  unfold f_X11_purse f_X12_purse
  simp only [q_knows hS (by omega), p_isSort hT (by omega), q_within, p_in, zb_2, ite01]
  refine ok_if Iff.rfl (fun _ => ok_r _ h) (fun h1 => ok_if Iff.rfl (fun _ => ok_r _ h) (fun h2 => ?_))
  obtain ⟨j, hj, rfl⟩ := ix_of (nn h1) (by omega)
  simp (disch := omega) only [↓zb_l, zb_an, cl_n]
  refine ok_mk (by rw [(hv j hj).1.2.2.2.2]) ⟨n, m, t, c, e, d, ⟨hn, hS, hT, fun i hi1 => ?_⟩, ht, hm, hp, hch, hi, hd, Rh_keep hh ?_ rfl rfl rfl rfl, fx_keep hF hx0 ?_ ?_, fx_keep hF hx1 ?_ ?_⟩
  · have hvi := hv i hi1
    simp only [rd_1, reduceIte, Nat.reduceEqDiff]
    by_cases hij : i = j
    · simp only [hij, reduceIte] at hvi ⊢
      exact ⟨⟨hvi.1.1, hvi.1.2.1, hvi.1.2.2.1, hvi.1.2.2.2.1, trivial⟩, hvi.2.1, hvi.2.2.1, hvi.2.2.2.1, hvi.2.2.2.2.1, rg_of (nn h2) rfl rfl⟩
    · simp only [if_neg hij]
      exact hvi
  all_goals (intro k h1; intros; simp (disch := omega) only [ne_u1])
theorem op_rule (hF : Fx Rx) (a b : Int32) (h : RR Rx S T) : OK Rx (f_X11_rule a b S) (f_X12_rule a b T) := by
  obtain ⟨n, m, t, c, e, d, hs, ht, hm, hp, hch, hi, hd, hh, hx0, hx1⟩ := id h
  unfold f_X11_rule f_X12_rule
  simp only [q_isLand, p_isLand, q_within, p_in, zb_2, ite01]
  refine ok_if Iff.rfl (fun _ => ok_r _ h) (fun h1 => ok_if Iff.rfl (fun _ => ok_r _ h) (fun h2 => ?_))
  obtain ⟨j, hj, -, rfl⟩ := ix_lit (k := 3) (by omega) rfl (nn h1)
  simp (disch := omega) only [↓zb_l, zb_an, cl_n]
  refine ok_mk (by rw [(hm.1 j hj).1]) ⟨n, m, t, c, e, d, hs, ht, ⟨fun i hi1 => ?_, hm.2⟩, hp, hch, hi, hd, Rh_keep hh ?_ rfl rfl rfl rfl, fx_keep hF hx0 ?_ ?_, fx_keep hF hx1 ?_ ?_⟩
  · have hvi := hm.1 i hi1
    simp only [rd_1, reduceIte, Nat.reduceEqDiff]
    by_cases hij : i = j
    · simp only [hij, reduceIte] at hvi ⊢
      exact ⟨trivial, rg_of (nn h2) rfl rfl⟩
    · simp only [if_neg hij]
      exact hvi
  all_goals (intro k h1; intros; simp (disch := omega) only [ne_u1])
theorem op_window (hF : Fx Rx) (a b : Int32) (h : RR Rx S T) : OK Rx (f_X11_window a b S) (f_X12_window a b T) := by
  obtain ⟨n, m, t, c, e, d, hs, ht, hm, hp, hch, hi, hd, hh, hx0, hx1⟩ := id h
  unfold f_X11_window f_X12_window f_X12_window_36 f_X12_window_50 f_X12_window_67 f_X10_tellShare f_X10_tellFee
  simp only [q_within, p_in, zb_2, zb_l, ite01]
  refine ok_if Iff.rfl (fun _ => ok_r _ h) (fun h1 => ok_if Iff.rfl (fun _ => ok_r _ h) (fun h2 => ?_))
  obtain ⟨j, hj, -, rfl⟩ := ix_lit (k := 1) (by omega) rfl (nn h1)
  have hb := rg_of (A := 0) (B := 99) (nn h2) rfl rfl
  have hj : j = 0 ∨ j = 1 := by omega
  rcases hj with rfl | rfl
  · simp only [show nI 0 = 0 from rfl, show ¬ ((0 : Int32) = 1) by decide, reduceIte]
    refine ok_mk (by rw [hm.2.1.1]) ⟨n, m, t, c, e, d, hs, ht, ⟨hm.1, ⟨rfl, hb⟩, hm.2.2⟩, hp, hch, hi, hd, Rh_keep hh ?_ rfl rfl rfl rfl, fx_keep hF hx0 ?_ ?_, fx_keep hF hx1 ?_ ?_⟩
    all_goals (intro k h1; intros; simp (disch := omega) only [ne_u1])
  · simp only [show nI 1 = 1 from rfl, show ¬ ((1 : Int32) = 0) by decide, reduceIte]
    refine ok_mk (by rw [hm.2.2.1.1]) ⟨n, m, t, c, e, d, hs, ht, ⟨hm.1, hm.2.1, ⟨rfl, hb⟩, hm.2.2.2⟩, hp, hch, hi, hd, Rh_keep hh ?_ rfl rfl rfl rfl, fx_keep hF hx0 ?_ ?_, fx_keep hF hx1 ?_ ?_⟩
    all_goals (intro k h1; intros; simp (disch := omega) only [ne_u1])
theorem op_feed (hF : Fx Rx) (a : Int32) (h : RR Rx S T) : OK Rx (f_X11_feed a S) (f_X12_feed a T) := by
  obtain ⟨n, m, t, c, e, d, hs, ht, hm, hp, hch, hi, hd, hh, hx0, hx1⟩ := id h
  obtain ⟨hn, hS, hT, hv⟩ := id hp
  unfold f_X11_feed f_X12_feed f_X6_add
  simp only [q_within, p_in, zb_2, ite01]
  refine ok_if Iff.rfl (fun _ => ok_r _ h) (fun h1 => ?_)
  rw [hS, hT]
  by_cases h8 : t = 120
  · subst h8
    exact ok_r _ h
  · have hlt : t < 120 := by omega
    have e1 : nI t < (120 : Int32) := nI_lt (b := 120) hlt (by omega)
    have e2 : ¬ nI t = (120 : Int32) := fun q => h8 ((nI_eq (b := 120) (by omega) (by omega)).mp q)
    rw [if_pos e1, if_neg e2]
    simp (disch := omega) only [↓zb_l, zb_an, cl_n, zb_2, rd_1, reduceIte, Nat.reduceEqDiff, hS, hT, nI_1]
    refine ok_mk rfl ⟨n, m, t + 1, c, e, d, hs, ht, hm, ⟨hlt, rfl, rfl, fun i hi1 => ?_⟩, hch, hi, hd, Rh_keep hh ?_ rfl rfl rfl rfl, fx_keep hF hx0 ?_ ?_, fx_keep hF hx1 ?_ ?_⟩
    · simp only [rd_1, reduceIte, Nat.reduceEqDiff]
      by_cases hij : i = t
      · simp only [hij, reduceIte]
        exact ⟨trivial, rg_of (nn h1) rfl rfl⟩
      · simp only [if_neg hij]
        exact hv i (by omega)
    all_goals (intro k h1; intros; simp (disch := omega) only [ne_u1])
theorem op_led (a : Int32) (h : RR Rx S T) : OK Rx (f_X11_led a S) (f_X12_led a T) := by
  obtain ⟨n, m, t, c, e, d, hs, ht, hm, hp, hch, hi, hd, hh, hx0, hx1⟩ := id h
  obtain ⟨-, -, -, m1, m2, m3⟩ := hm
  unfold f_X11_led f_X12_led
  simp only [q_within, zb_2, ite01]
  by_cases h1 : 0 ≤ a ∧ a ≤ 2
  · rw [if_neg (fun q => q h1)]
    obtain ⟨j, hj, -, rfl⟩ := ix_lit (k := 2) (by omega) rfl h1
    simp (disch := omega) only [zb_an, cl_n]
    have hj : j = 0 ∨ j = 1 ∨ j = 2 := by omega
    rcases hj with rfl | rfl | rfl
    · exact ok_e m1.symm h
    · exact ok_e m2.symm h
    · exact ok_e m3.symm h
  · rw [if_pos h1, if_neg (fun q => h1 (by subst q; decide)), if_neg (fun q => h1 (by subst q; decide)), if_neg (fun q => h1 (by subst q; decide))]
    exact ok_r _ h
theorem op_body (hF : Fx Rx) (a : Int32) (h : RR Rx S T) : OK Rx (f_X11_body a S) (f_X12_body a T) := by
  obtain ⟨n, m, t, c, e, d, hs, ht, hm, hp, hch, hi, hd, hh, hx0, hx1⟩ := id h
  obtain ⟨hn, hS, hT, hv, hr⟩ := id hd
  unfold f_X11_body f_X12_body f_X2_add
  simp only [q_within, p_in, zb_2, ite01]
  refine ok_if Iff.rfl (fun _ => ok_r _ h) (fun h1 => ?_)
  rw [hS, hT]
  by_cases h8 : d = 50
  · subst h8
    exact ok_r _ h
  · have hlt : d < 50 := by omega
    have e1 : nI d < (50 : Int32) := nI_lt (b := 50) hlt (by omega)
    have e2 : ¬ nI d = (50 : Int32) := fun q => h8 ((nI_eq (b := 50) (by omega) (by omega)).mp q)
    rw [if_pos e1, if_neg e2]
    simp (disch := omega) only [↓zb_l, zb_an, cl_n, zb_2, rd_1, reduceIte, Nat.reduceEqDiff, hS, hT, nI_1]
    refine ok_mk rfl ⟨n, m, t, c, e, d + 1, hs, ht, hm, hp, hch, hi, ⟨hlt, rfl, rfl, fun i hi1 => ?_, hr⟩, ?_, fx_keep hF hx0 ?_ ?_, fx_keep hF hx1 ?_ ?_⟩
    · simp only [rd_1, reduceIte, Nat.reduceEqDiff]
      by_cases hij : i = d
      · simp only [hij, reduceIte]
        exact ⟨trivial, rg_of (nn h1) rfl rfl⟩
      · simp only [if_neg hij]
        exact hv i (by omega)
    · refine Rh_keep (T := T) (S := S) (fun x hx => ?_) ?_ rfl rfl rfl rfl
      · rcases hh x hx with q | ⟨q1, q2, j, hj, q3⟩ | q
        · exact Or.inl q
        · exact Or.inr (Or.inl ⟨q1, q2, j, by omega, q3⟩)
        · exact Or.inr (Or.inr q)
      · intro k h1; simp (disch := omega) only [ne_u1]
    all_goals (intro k h1; intros; simp (disch := omega) only [ne_u1])
theorem op_trace (a : Int32) (h : RR Rx S T) : OK Rx (f_X11_trace a S) (f_X12_trace a T) := by
  obtain ⟨n, m, t, c, e, d, hs, ht, hm, hp, hch, hi, hd, hh, hx0, hx1⟩ := id h
  obtain ⟨hn, hS, hT, hv, hr, hr2, hr3⟩ := id hd
  unfold f_X11_trace f_X12_trace
  rw [hr]
  refine ok_if Iff.rfl (fun _ => ok_r _ h) (fun h1 => ok_if Iff.rfl (fun _ => ok_r _ h) (fun h2 => ok_if Iff.rfl (fun _ => ok_r _ h) (fun h3 => ?_)))
  rw [i32_lt] at h1
  rw [i32_le] at h2 h3
  have h0 : (0 : Int32).toInt = 0 := rfl
  have h24 : (24 : Int32).toInt = 24 := rfl
  obtain ⟨j, hj, rfl⟩ := ix_of (x := a) (n := 24) (by omega) (by omega)
  rw [nI_toInt (by omega)] at h2
  simp (disch := omega) only [zb_an, cl_n]
  exact ok_e (hr3 j hj (by omega)).symm h
end OPS2
