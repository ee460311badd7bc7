variable {S T : St}
def Fb (a : Nat) (S S' : St) : Prop := S'.1 = S.1 ∧ ∀ b, b ≠ a → S'.2 b = S.2 b
theorem Fb_rf {a : Nat} : Fb a S S := ⟨rfl, fun _ _ => rfl⟩
theorem Fb_tr {a : Nat} {S1 S2 : St} (h : Fb a S S1) (h2 : Fb a S1 S2) : Fb a S S2 := ⟨h2.1.trans h.1, fun b hb => (h2.2 b hb).trans (h.2 b hb)⟩
theorem Fb_u2 {a i : Nat} {v : Int64} : Fb a S (u2 S a i v) := ⟨rfl, fun b hb => if_neg hb⟩
theorem u2_at {a i : Nat} {v : Int64} (k : Nat) : (u2 S a i v).2 a k = if k = i then v else S.2 a k := by rw [rd_3, if_pos rfl]
/-- between the steps of one coin: from i up it is done -/
def Wm (w : Nat) (R : Nat → Bool) (i : Nat) (f : Nat → Int64) : Prop := ∀ k, k < 31 → if i ≤ k then Wk (stepR w R) k (f k) else Wk R k (f k)
theorem Wm_top {w : Nat} {R : Nat → Bool} {f : Nat → Int64} (h : Wd R f) : Wm w R 31 f := fun k hk => by rw [if_neg (by omega)]; exact h k hk
theorem Wm_bot {w : Nat} {R : Nat → Bool} {f : Nat → Int64} (h : Wm w R 0 f) : Wd (stepR w R) f := fun k hk => by have := h k hk; rw [if_pos (by omega)] at this; exact this
theorem Wm_step {w i a : Nat} {R : Nat → Bool} {v : Int64} (hi : i < 31) (h : Wm w R (i + 1) (S.2 a)) (hv : Wk (stepR w R) i v) : Wm w R i ((u2 S a i v).2 a) := fun k hk => by
  rw [u2_at]
  have q := h k hk
  by_cases e : k = i
  · rw [if_pos e, if_pos (by omega), e]; exact hv
  · rw [if_neg e]
    by_cases z : i ≤ k
    · rw [if_pos (by omega)] at q; rw [if_pos z]; exact q
    · rw [if_neg (by omega)] at q; rw [if_neg z]; exact q
theorem q_addCoin {w : Nat} {R : Nat → Bool} (hw : 1 ≤ w) (hw2 : w ≤ 40) (h : Wd R (S.2 13)) : ∃ S', f_X5_addCoin (nI w) S = some S' ∧ Wd (stepR w R) (S'.2 13) ∧ Fb 13 S S' := by
  unfold f_X5_addCoin
  obtain ⟨S1, w1, w2, w3⟩ := wl_one (g_X5_addCoin_3 (nI w)) (fun z => ∃ i S1, i < 31 ∧ z = (nI i, S1) ∧ Wm w R (i + 1) (S1.2 13) ∧ Fb 13 S S1) (fun z => z.1.toNatClampNeg) (fun S1 => Wm w R 1 (S1.2 13) ∧ Fb 13 S S1)
    (fun z hI => by
      obtain ⟨i, S1, hi, rfl, hm, hf⟩ := hI
      unfold g_X5_addCoin_3 b_X5_addCoin_3
      by_cases h0 : i = 0
      · subst h0
        rw [if_pos (show nI 0 ≤ 0 by decide)]
        exact Or.inr ⟨_, rfl, hm, hf⟩
      · obtain ⟨i, rfl⟩ : ∃ j, i = j + 1 := ⟨i - 1, by omega⟩
        rw [if_neg (nI_nle (by omega) (by omega)), nI_pred, pk_m1]
        simp (disch := omega) only [zb_an, cl_n, zb_l]
        have q1 := hm (i + 1) hi
        have q0 := hm i (by omega)
        rw [if_neg (by omega)] at q1 q0
        refine Or.inl ⟨_, rfl, ⟨i, _, by omega, rfl, Wm_step hi hm (Wk_step hw hw2 q1 q0), Fb_tr hf Fb_u2⟩, ?_⟩
        show (nI i).toNatClampNeg < _
        rw [cl_n (by omega)]; omega)
    FU (nI 30, S) ⟨30, S, by omega, rfl, Wm_top h, Fb_rf⟩ (by show (nI 30).toNatClampNeg < FU; rw [cl_n (by omega)]; unfold FU; omega)
  rw [show ((30 : Int32), S) = (nI 30, S) from rfl, w1, zb_s]
  unfold f_X5_addCoin_44
  rw [zb_a _ (by decide), zb_a _ (by decide), zb_a _ (by decide), zb_l]
  have q0 := w2 0 (by omega)
  rw [if_neg (by omega)] at q0
  exact ⟨_, rfl, Wm_bot (Wm_step (by omega) w2 (Wk_step0 hw hw2 q0)), Fb_tr w3 Fb_u2⟩
theorem p_shifts {w : Nat} {R : Nat → Bool} (hw : 1 ≤ w) (hw2 : w ≤ 40) (h : Wd R (T.2 22)) : ∃ T', f_X12_shifts (nI w) T = some T' ∧ Wd (stepR w R) (T'.2 22) ∧ Fb 22 T T' := by
  unfold f_X12_shifts
  obtain ⟨T1, w1, w2, w3⟩ := wl_one (g_X12_shifts_3 (nI w)) (fun z => ∃ i T1, i < 32 ∧ z = (nI i + (-1), T1) ∧ Wm w R i (T1.2 22) ∧ Fb 22 T T1) (fun z => (z.1 + 1).toNatClampNeg) (fun T1 => Wm w R 0 (T1.2 22) ∧ Fb 22 T T1)
    (fun z hI => by
      obtain ⟨i, T1, hi, rfl, hm, hf⟩ := hI
      unfold g_X12_shifts_3 b_X12_shifts_3
      by_cases h0 : i = 0
      · subst h0
        rw [if_pos (show nI 0 + (-1) < 0 by decide)]
        exact Or.inr ⟨_, rfl, hm, hf⟩
      · obtain ⟨i, rfl⟩ : ∃ j, i = j + 1 := ⟨i - 1, by omega⟩
        rw [pk_m1, if_neg (nI_pos (by omega))]
        have q1 := hm i (by omega)
        rw [if_neg (by omega)] at q1
        have hmu : ∀ T2 : St, (((nI i + (-1), T2) : Int32 × St).1 + 1).toNatClampNeg < (((nI i, T1) : Int32 × St).1 + 1).toNatClampNeg := fun T2 => by
          show (nI i + (-1) + 1).toNatClampNeg < (nI i + 1).toNatClampNeg
          rw [Int32.add_assoc, show (-1 : Int32) + 1 = 0 from rfl, Int32.add_zero, nI_1, cl_n (by omega), cl_n (by omega)]; omega
        unfold f_X12_shifts_28i3
        by_cases hz : i = 0
        · subst hz
          rw [if_pos (show nI 0 ≤ 0 by decide)]
          simp (disch := omega) only [zb_an, cl_n, zb_l, or0]
          exact Or.inl ⟨_, rfl, ⟨0, _, by omega, rfl, Wm_step (by omega) hm (Wk_step0 hw hw2 q1), Fb_tr hf Fb_u2⟩, hmu _⟩
        · obtain ⟨i, rfl⟩ : ∃ j, i = j + 1 := ⟨i - 1, by omega⟩
          rw [if_neg (nI_nle (by omega) (by omega)), nI_pred]
          simp (disch := omega) only [zb_an, cl_n, zb_l]
          have q0 := hm i (by omega)
          rw [if_neg (by omega)] at q0
          exact Or.inl ⟨_, rfl, ⟨i + 1, _, by omega, rfl, Wm_step (by omega) hm (Wk_step hw hw2 q1 q0), Fb_tr hf Fb_u2⟩, hmu _⟩)
    FU (nI 31 + (-1), T) ⟨31, T, by omega, rfl, Wm_top h, Fb_rf⟩ (by show (nI 31 + (-1) + 1).toNatClampNeg < FU; rw [show nI 31 + (-1) + 1 = nI 31 from rfl, cl_n (by omega)]; unfold FU; omega)
  rw [show ((30 : Int32), T) = (nI 31 + (-1), T) from rfl, w1, zb_s]
  exact ⟨_, rfl, Wm_bot w2, w3⟩
/-- the coins in play: c of the worth w, the latest sort ahead -/
def cl (c w : Nat → Nat) : Nat → List Nat
  | 0 => []
  | k + 1 => List.replicate (c k) (w k) ++ cl c w k
def Pn (S : St) (cell : Nat) (land : Int32) (n : Nat) (c w : Nat → Nat) : Prop := ∀ k, k < n → ((S.1 2 k = land ∧ S.1 cell k = nI (c k)) ∨ (¬ S.1 2 k = land ∧ c k = 0)) ∧ c k ≤ 6 ∧ S.1 3 k = nI (w k) ∧ 1 ≤ w k ∧ w k ≤ 40
def Pm (T : St) (land : Int32) (n : Nat) (c w : Nat → Nat) : Prop := ∀ k, k < n → ((T.1 1 k = land ∧ T.1 5 k = nI (c k)) ∨ (¬ T.1 1 k = land ∧ c k = 0)) ∧ c k ≤ 6 ∧ T.1 2 k = nI (w k) ∧ 1 ≤ w k ∧ w k ≤ 40
theorem Wd_start {f : Nat → Int64} (h0 : f 0 = 1) (h : ∀ k, k < 31 → k ≠ 0 → f k = 0) : Wd (rch []) f := fun k hk => by
  by_cases e : k = 0
  · subst e
    refine ⟨1, by decide, h0, fun j hj => ?_⟩
    show Nat.testBit 1 j = decide (64 * 0 + j = 0)
    rw [show (1 : Nat) = 2 ^ 0 from rfl, Nat.testBit_two_pow]
    simp only [Nat.mul_zero, Nat.zero_add]
    exact decide_eq_decide.mpr eq_comm
  · refine ⟨0, by decide, h k hk e, fun j hj => ?_⟩
    show Nat.testBit 0 j = decide (64 * k + j = 0)
    rw [Nat.zero_testBit]
    exact (decide_eq_false (by omega)).symm
theorem rch_rep {c w : Nat} {l : List Nat} {f : Nat → Int64} (h : Wd (stepR w (rch (List.replicate c w ++ l))) f) : Wd (rch (List.replicate (c + 1) w ++ l)) f := h
theorem q_sprspread {n : Nat} {land : Int32} {c w : Nat → Nat} (hn : n ≤ 8) (hS : S.1 1 5 = nI n) (hP : Pn S 6 land n c w) : ∃ S', f_X5_spread land S = some S' ∧ Wd (rch (cl c w n)) (S'.2 13) ∧ Fb 13 S S' := by
  unfold f_X5_spread f_J7_fill_d0a16
  obtain ⟨S0, a1, a2, a3, a4⟩ := lp_fillL (g := g_J7_fill_d0a16_6 0 31) (k := 13) (b := 0) (e := 31) 0 S (by omega) (fun i S' hi => by
    unfold g_J7_fill_d0a16_6 b_J7_fill_d0a16_6
    rw [if_neg (by exact nI_ge (b := 31) hi (by omega)), zb_an _ hi (by omega), zb_l, zb_l, cl_n (by omega), nI_1, Nat.zero_add]) (fun S' => by
    unfold g_J7_fill_d0a16_6 b_J7_fill_d0a16_6
    rw [if_pos (by show (31 : Int32) ≤ nI 31; decide)])
  rw [show ((0 : Int32), S) = (nI 0, S) from rfl, a1, zb_s]
  unfold f_J7_fill_d0a16_22
  rw [zb_s, zb_a _ (by decide), zb_l]
  have c0 : Int32.toNatClampNeg (0 : Int32) = 0 := rfl
  rw [c0]
  have f0 : Fb 13 S (u2 S0 13 0 1) := Fb_tr ⟨a2, a3⟩ Fb_u2
  have d0 : Wd (rch []) ((u2 S0 13 0 1).2 13) := Wd_start (by rw [u2_at, if_pos rfl]) (fun k hk h0 => by rw [u2_at, if_neg h0, a4, if_pos (by omega)])
  obtain ⟨S', w1, w2, w3⟩ := wl_for (g_X5_spread_18 land) (fun k S => (nI k, S)) (fun k S1 => Wd (rch (cl c w k)) (S1.2 13) ∧ Fb 13 S S1) n (fun S1 => Wd (rch (cl c w n)) (S1.2 13) ∧ Fb 13 S S1)
    (fun k S1 hk hI => by
      obtain ⟨hW, hF⟩ := hI
      obtain ⟨p1, p2, p3, p4, p5⟩ := hP k hk
      have run : ∃ S2, f_X5_spread_53i18 land (nI k) (nI (c k)) S1 = some (.inl (nI (k + 1), S2)) ∧ Wd (rch (cl c w (k + 1))) (S2.2 13) ∧ Fb 13 S S2 := by
        unfold f_X5_spread_53i18 f_X5_spread_82i18
        obtain ⟨S2, v1, v2, v3⟩ := wl_for (g_X5_spread_58 land (nI k) (nI (c k))) (fun j S => (nI j, S)) (fun j S2 => Wd (rch (List.replicate j (w k) ++ cl c w k)) (S2.2 13) ∧ Fb 13 S S2) (c k) (fun S2 => Wd (rch (List.replicate (c k) (w k) ++ cl c w k)) (S2.2 13) ∧ Fb 13 S S2)
          (fun j S2 hj hI => by
            obtain ⟨hW2, hF2⟩ := hI
            unfold g_X5_spread_58 b_X5_spread_58
            obtain ⟨S3, e1, e2, e3⟩ := q_addCoin p4 p5 hW2
            rw [if_neg (nI_ge hj (by omega)), zb_an _ (by omega) (by omega), cl_n (by omega), hF2.1, p3, e1, zb_s, zb_l, nI_1]
            exact ⟨S3, rfl, rch_rep e2, Fb_tr hF2 e3⟩)
          (fun S2 hI => ⟨S2, by unfold g_X5_spread_58 b_X5_spread_58; rw [if_pos (nI_le (Nat.le_refl _) (by omega))], hI⟩) FU 0 S1 (by omega) ⟨hW, hF⟩ (FU_lt (by omega) 0)
        rw [show ((0 : Int32), S1) = (nI 0, S1) from rfl, v1, zb_s, zb_l, nI_1]
        exact ⟨S2, rfl, v2, v3⟩
      obtain ⟨S2, r1, r2, r3⟩ := run
      refine ⟨S2, ?_, r2, r3⟩
      unfold g_X5_spread_18 b_X5_spread_18
      rw [hF.1, hS, if_neg (nI_ge hk (by omega)), if_neg (by exact nI_ge (b := 8) (by omega) (by omega)), zb_an _ (by omega) (by omega), cl_n (by omega)]
      rcases p1 with ⟨q1, q2⟩ | ⟨q1, q2⟩
      · rw [if_pos q1, zb_an _ (by omega) (by omega), q2]; exact r1
      · rw [if_neg q1]; rw [q2] at r1; exact r1)
    (fun S1 hI => ⟨S1, by
      unfold g_X5_spread_18 b_X5_spread_18
      rw [hI.2.1, hS, if_pos (nI_le (Nat.le_refl n) (by omega))], hI⟩) FU 0 (u2 S0 13 0 1) (by omega) ⟨d0, f0⟩ (FU_lt (by omega) 0)
  rw [show ((0 : Int32), u2 S0 13 0 1) = (nI 0, u2 S0 13 0 1) from rfl, w1, zb_s]
  exact ⟨S', rfl, w2, w3⟩
theorem q_sprspreadc {n : Nat} {land : Int32} {c w : Nat → Nat} (hn : n ≤ 8) (hS : S.1 1 5 = nI n) (hP : Pn S 17 land n c w) : ∃ S', f_X5_spreadc land S = some S' ∧ Wd (rch (cl c w n)) (S'.2 13) ∧ Fb 13 S S' := by
  unfold f_X5_spreadc f_J7_fill_d0a16
  obtain ⟨S0, a1, a2, a3, a4⟩ := lp_fillL (g := g_J7_fill_d0a16_6 0 31) (k := 13) (b := 0) (e := 31) 0 S (by omega) (fun i S' hi => by
    unfold g_J7_fill_d0a16_6 b_J7_fill_d0a16_6
    rw [if_neg (by exact nI_ge (b := 31) hi (by omega)), zb_an _ hi (by omega), zb_l, zb_l, cl_n (by omega), nI_1, Nat.zero_add]) (fun S' => by
    unfold g_J7_fill_d0a16_6 b_J7_fill_d0a16_6
    rw [if_pos (by show (31 : Int32) ≤ nI 31; decide)])
  rw [show ((0 : Int32), S) = (nI 0, S) from rfl, a1, zb_s]
  unfold f_J7_fill_d0a16_22
  rw [zb_s, zb_a _ (by decide), zb_l]
  have c0 : Int32.toNatClampNeg (0 : Int32) = 0 := rfl
  rw [c0]
  have f0 : Fb 13 S (u2 S0 13 0 1) := Fb_tr ⟨a2, a3⟩ Fb_u2
  have d0 : Wd (rch []) ((u2 S0 13 0 1).2 13) := Wd_start (by rw [u2_at, if_pos rfl]) (fun k hk h0 => by rw [u2_at, if_neg h0, a4, if_pos (by omega)])
  obtain ⟨S', w1, w2, w3⟩ := wl_for (g_X5_spreadc_18 land) (fun k S => (nI k, S)) (fun k S1 => Wd (rch (cl c w k)) (S1.2 13) ∧ Fb 13 S S1) n (fun S1 => Wd (rch (cl c w n)) (S1.2 13) ∧ Fb 13 S S1)
    (fun k S1 hk hI => by
      obtain ⟨hW, hF⟩ := hI
      obtain ⟨p1, p2, p3, p4, p5⟩ := hP k hk
      have run : ∃ S2, f_X5_spreadc_53i18 land (nI k) (nI (c k)) S1 = some (.inl (nI (k + 1), S2)) ∧ Wd (rch (cl c w (k + 1))) (S2.2 13) ∧ Fb 13 S S2 := by
        unfold f_X5_spreadc_53i18 f_X5_spreadc_82i18
        obtain ⟨S2, v1, v2, v3⟩ := wl_for (g_X5_spreadc_58 land (nI k) (nI (c k))) (fun j S => (nI j, S)) (fun j S2 => Wd (rch (List.replicate j (w k) ++ cl c w k)) (S2.2 13) ∧ Fb 13 S S2) (c k) (fun S2 => Wd (rch (List.replicate (c k) (w k) ++ cl c w k)) (S2.2 13) ∧ Fb 13 S S2)
          (fun j S2 hj hI => by
            obtain ⟨hW2, hF2⟩ := hI
            unfold g_X5_spreadc_58 b_X5_spreadc_58
            obtain ⟨S3, e1, e2, e3⟩ := q_addCoin p4 p5 hW2
            rw [if_neg (nI_ge hj (by omega)), zb_an _ (by omega) (by omega), cl_n (by omega), hF2.1, p3, e1, zb_s, zb_l, nI_1]
            exact ⟨S3, rfl, rch_rep e2, Fb_tr hF2 e3⟩)
          (fun S2 hI => ⟨S2, by unfold g_X5_spreadc_58 b_X5_spreadc_58; rw [if_pos (nI_le (Nat.le_refl _) (by omega))], hI⟩) FU 0 S1 (by omega) ⟨hW, hF⟩ (FU_lt (by omega) 0)
        rw [show ((0 : Int32), S1) = (nI 0, S1) from rfl, v1, zb_s, zb_l, nI_1]
        exact ⟨S2, rfl, v2, v3⟩
      obtain ⟨S2, r1, r2, r3⟩ := run
      refine ⟨S2, ?_, r2, r3⟩
      unfold g_X5_spreadc_18 b_X5_spreadc_18
      rw [hF.1, hS, if_neg (nI_ge hk (by omega)), if_neg (by exact nI_ge (b := 8) (by omega) (by omega)), zb_an _ (by omega) (by omega), cl_n (by omega)]
      rcases p1 with ⟨q1, q2⟩ | ⟨q1, q2⟩
      · rw [if_pos q1, zb_an _ (by omega) (by omega), q2]; exact r1
      · rw [if_neg q1]; rw [q2] at r1; exact r1)
    (fun S1 hI => ⟨S1, by
      unfold g_X5_spreadc_18 b_X5_spreadc_18
      rw [hI.2.1, hS, if_pos (nI_le (Nat.le_refl n) (by omega))], hI⟩) FU 0 (u2 S0 13 0 1) (by omega) ⟨d0, f0⟩ (FU_lt (by omega) 0)
  rw [show ((0 : Int32), u2 S0 13 0 1) = (nI 0, u2 S0 13 0 1) from rfl, w1, zb_s]
  exact ⟨S', rfl, w2, w3⟩
theorem p_pays {n : Nat} {land : Int32} {c w : Nat → Nat} (hn : n ≤ 8) (hT : T.1 0 0 = nI n) (hP : Pm T land n c w) : ∃ T', f_X12_pays land T = some T' ∧ Wd (rch (cl c w n)) (T'.2 22) ∧ Fb 22 T T' := by
  unfold f_X12_pays
  obtain ⟨T0, a1, a2, a3, a4⟩ := wl_for (g_X12_pays_2 land) (fun i T => (nI i, T)) (fun i T1 => Fb 22 T T1 ∧ (∀ k, k < i → k ≠ 0 → T1.2 22 k = 0) ∧ (0 < i → T1.2 22 0 = 1)) 31 (fun T1 => Fb 22 T T1 ∧ (∀ k, k < 31 → k ≠ 0 → T1.2 22 k = 0) ∧ T1.2 22 0 = 1)
    (fun i T1 hi hI => by
      unfold g_X12_pays_2 b_X12_pays_2 f_X12_pays_22i2
      rw [if_neg (by exact nI_ge (b := 31) hi (by omega))]
      simp (disch := omega) only [zb_an, cl_n, zb_l, nI_1]
      by_cases h0 : i = 0
      · subst h0
        rw [if_pos (show nI 0 = 0 from rfl)]
        exact ⟨_, rfl, Fb_tr hI.1 Fb_u2, fun k hk hk0 => absurd hk (by omega), fun _ => by rw [u2_at, if_pos rfl]⟩
      · rw [if_neg (nI_ne0 (by omega) (by omega))]
        refine ⟨_, rfl, Fb_tr hI.1 Fb_u2, fun k hk hk0 => ?_, fun _ => by rw [u2_at, if_neg (by omega)]; exact hI.2.2 (by omega)⟩
        rw [u2_at]
        by_cases e : k = i
        · rw [if_pos e]
        · rw [if_neg e]; exact hI.2.1 k (by omega) hk0)
    (fun T1 hI => ⟨T1, by unfold g_X12_pays_2 b_X12_pays_2; rw [if_pos (by show (31 : Int32) ≤ nI 31; decide)], hI.1, hI.2.1, hI.2.2 (by omega)⟩) FU 0 T (by omega) ⟨Fb_rf, fun k hk => absurd hk (by omega), fun h => absurd h (by omega)⟩ (FU_lt (by omega) 0)
  rw [show ((0 : Int32), T) = (nI 0, T) from rfl, a1, zb_s]
  unfold f_X12_pays_29
  have d0 : Wd (rch []) (T0.2 22) := Wd_start a4 a3
  obtain ⟨T', w1, w2, w3⟩ := wl_for (g_X12_pays_31 land) (fun k T => (nI k, T)) (fun k T1 => Wd (rch (cl c w k)) (T1.2 22) ∧ Fb 22 T T1) n (fun T1 => Wd (rch (cl c w n)) (T1.2 22) ∧ Fb 22 T T1)
    (fun k T1 hk hI => by
      obtain ⟨hW, hF⟩ := hI
      obtain ⟨p1, p2, p3, p4, p5⟩ := hP k hk
      unfold g_X12_pays_31 b_X12_pays_31
      rw [hF.1, hT, if_neg (nI_ge hk (by omega))]
      have run : ∃ T2, jx_w (g_X12_pays_41 land (nI k)) FU (nI 0, T1) = some T2 ∧ Wd (rch (cl c w (k + 1))) (T2.2 22) ∧ Fb 22 T T2 := by
        obtain ⟨T2, v1, v2, v3⟩ := wl_for (g_X12_pays_41 land (nI k)) (fun j T => (nI j, T)) (fun j T2 => Wd (rch (List.replicate j (w k) ++ cl c w k)) (T2.2 22) ∧ Fb 22 T T2) (c k) (fun T2 => Wd (rch (List.replicate (c k) (w k) ++ cl c w k)) (T2.2 22) ∧ Fb 22 T T2)
          (fun j T2 hj hI => by
            obtain ⟨hW2, hF2⟩ := hI
            unfold g_X12_pays_41 b_X12_pays_41
            obtain ⟨T3, e1, e2, e3⟩ := p_shifts p4 p5 hW2
            rcases p1 with ⟨q1, q2⟩ | ⟨q1, q2⟩
            · rw [zb_an _ (by omega) (by omega), cl_n (by omega), hF2.1, q2, if_neg (nI_ge hj (by omega)), zb_an _ (by omega) (by omega), if_pos q1, zb_an _ (by omega) (by omega), p3, e1, zb_s, zb_l, nI_1]
              exact ⟨T3, rfl, rch_rep e2, Fb_tr hF2 e3⟩
            · omega)
          (fun T2 hI => ⟨T2, by
            unfold g_X12_pays_41 b_X12_pays_41
            rw [zb_an _ (by omega) (by omega), cl_n (by omega), hI.2.1]
            rcases p1 with ⟨q1, q2⟩ | ⟨q1, q2⟩
            · rw [q2, if_pos (nI_le (Nat.le_refl _) (by omega))]
            · rw [zb_an _ (by omega) (by omega), if_neg q1, ite_self], hI⟩) FU 0 T1 (by omega) ⟨hW, hF⟩ (FU_lt (by omega) 0)
        exact ⟨T2, v1, v2, v3⟩
      obtain ⟨T2, r1, r2, r3⟩ := run
      rw [show ((0 : Int32), T1) = (nI 0, T1) from rfl, r1, zb_s]
      unfold f_X12_pays_77i31
      rw [zb_l, nI_1]
      exact ⟨T2, rfl, r2, r3⟩)
    (fun T1 hI => ⟨T1, by unfold g_X12_pays_31 b_X12_pays_31; rw [hI.2.1, hT, if_pos (nI_le (Nat.le_refl n) (by omega))], hI⟩) FU 0 T0 (by omega) ⟨d0, a2⟩ (FU_lt (by omega) 0)
  rw [show ((0 : Int32), T0) = (nI 0, T0) from rfl, w1, zb_s]
  exact ⟨T', rfl, w2, w3⟩
