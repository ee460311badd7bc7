variable {S T : St}
theorem act_RR {d : Nat} {S' T' : St} (h : RR RxC S T) (hd : d ≤ 50) (hS : S.1 34 2 = nI d) (r : Nat) (hr : r ≤ 900) (h3 : S'.1 34 3 = nI r) (h4 : T'.1 0 50 = nI r) (h5 : ∀ i, i < 24 → i < r → T'.1 30 i = S'.1 36 i) (h6 : ∀ c, c ≠ 34 → c ≠ 36 → S'.1 c = S.1 c) (h7 : S'.1 34 2 = S.1 34 2) (h8 : S'.2 = S.2) (h9 : ∀ c, c ≠ 0 → c ≠ 30 → T'.1 c = T.1 c) (h10 : ∀ j, j ≠ 50 → j ≠ 52 → T'.1 0 j = T.1 0 j) (h11 : T'.2 = T.2) : RR RxC S' T' := by
  obtain ⟨n, m, t, c, e, d', hs, ht, hm, hp, hch, hi, hd', hh, hx0, hx1⟩ := h
  have kS : ∀ c, c ∉ [34, 36] → S'.1 c = S.1 c := fun c hc => h6 c (fun q => hc (by rw [q]; decide)) (fun q => hc (by rw [q]; decide))
  have kT : ∀ c, c ∉ [0, 30] → T'.1 c = T.1 c := fun c hc => h9 c (fun q => hc (by rw [q]; decide)) (fun q => hc (by rw [q]; decide))
  have kT0 : ∀ j, j ∉ [50, 52] → T'.1 0 j = T.1 0 j := fun c hc => h10 c (fun q => hc (by rw [q]; decide)) (fun q => hc (by rw [q]; decide))
  refine ⟨n, m, t, c, e, d', ?_, ?_, ?_, ?_, ?_, ?_, ?_, ?_, ?_, ?_⟩
  · unfold Rs
    rw [kS 1 (by decide), kS 2 (by decide), kS 3 (by decide), kS 4 (by decide), kS 5 (by decide), kS 6 (by decide), kT 1 (by decide), kT 2 (by decide), kT 3 (by decide), kT 4 (by decide), kT 5 (by decide), kT0 0 (by decide)]
    exact hs
  · unfold Rt
    rw [kS 7 (by decide), kS 8 (by decide), kS 9 (by decide), kS 10 (by decide), kS 11 (by decide), kT 6 (by decide), kT 7 (by decide), kT 8 (by decide), kT 9 (by decide), kT0 6 (by decide)]
    exact ht
  · unfold Rm
    rw [kS 38 (by decide), kS 39 (by decide), kS 21 (by decide), kT 10 (by decide), kT0 12 (by decide), kT0 13 (by decide), kT0 14 (by decide), kT0 15 (by decide), kT0 16 (by decide)]
    exact hm
  · unfold Rp
    rw [kS 18 (by decide), kS 19 (by decide), kT 11 (by decide), kT0 18 (by decide)]
    exact hp
  · unfold Rc
    rw [kS 25 (by decide), kS 26 (by decide), kS 27 (by decide), kS 28 (by decide), kS 29 (by decide), kT 12 (by decide), kT0 20 (by decide), kT0 21 (by decide)]
    exact hch
  · unfold Ri
    rw [kS 30 (by decide), kS 31 (by decide), kS 32 (by decide), kS 33 (by decide), kT 26 (by decide), kT 27 (by decide), kT 28 (by decide), kT0 42 (by decide), kT0 43 (by decide), kT0 44 (by decide)]
    exact hi
  · obtain ⟨a1, a2, a3, a4, a5, a6, a7⟩ := hd'
    refine ⟨a1, by rw [h7]; exact a2, by rw [kT0 48 (by decide)]; exact a3, by rw [kT 29 (by decide), kS 35 (by decide)]; exact a4, by rw [h4, h3], ?_, fun i hi1 hi2 => h5 i hi1 ?_⟩
    · rw [h3]; unfold rg; rw [nI_toInt (by omega)]; omega
    · rw [h3, nI_toInt (by omega)] at hi2; omega
  · intro x hx
    have := hh x hx
    rw [kT 31 (by decide), kT 32 (by decide), h11, h8, kS (48 + 2 * x) (by simp; omega)]
    exact this
  · exact fx_keep FxC hx0 (fun k g1 g2 _ => kS k (by simp; omega)) (fun k g1 g2 => kT k (by simp; omega))
  · exact fx_keep FxC hx1 (fun k g1 g2 _ => kS k (by simp; omega)) (fun k g1 g2 => kT k (by simp; omega))
theorem op_act (b w x : Int32) (h : RR RxC S T) : OK RxC (f_X11_act b w x S) (f_X12_act b w x T) := by
  obtain ⟨n, m, t, c, e, d, hs, ht, hm, hp, hch, hi, hd, hh, hx0, hx1⟩ := id h
  obtain ⟨hd50, hS, hT, hv, hr, hr2, hr3⟩ := id hd
  unfold f_X11_act f_X2_begin f_X12_act
  rw [zb_l, zb_l]
  generalize hS1 : u1 S 34 3 0 = S1
  generalize hT1 : u1 T 0 50 0 = T1
  have s34 : ∀ j, j ≠ 3 → S1.1 34 j = S.1 34 j := fun j hj => by rw [← hS1]; simp only [rd_1, reduceIte, hj]
  have t0 : ∀ j, j ≠ 50 → T1.1 0 j = T.1 0 j := fun j hj => by rw [← hT1]; simp only [rd_1, reduceIte, hj]
  have sc : ∀ c, c ≠ 34 → S1.1 c = S.1 c := fun c hc => by rw [← hS1, ne_u1 _ _ _ hc]
  have tc : ∀ c, c ≠ 0 → T1.1 c = T.1 c := fun c hc => by rw [← hT1, ne_u1 _ _ _ hc]
  have s2 : S1.2 = S.2 := by rw [← hS1]; rfl
  have t2 : T1.2 = T.2 := by rw [← hT1]; rfl
  have s33 : S1.1 34 3 = nI 0 := by rw [← hS1]; simp only [rd_1, reduceIte]; rfl
  have t50 : T1.1 0 50 = nI 0 := by rw [← hT1]; simp only [rd_1, reduceIte]; rfl
  have hR1 : RR RxC S1 T1 := act_RR h hd50 hS 0 (by omega) s33 t50 (fun i _ h => absurd h (by omega)) (fun c h1 _ => sc c h1) (s34 2 (by decide)) s2 (fun c h1 _ => tc c h1) (fun j h1 _ => t0 j h1) t2
  have inb : f_X12_in b 0 (T1.1 0 48 - 1) T1 = some (if 0 ≤ b.toInt ∧ b.toInt < (d : Int) then 1 else 0, T1) := by
    rw [t0 48 (by decide), hT, p_in]
    have h0 : (0 : Int32).toInt = 0 := rfl
    congr 3
    simp only [i32_le, sub1_toInt (show d < 2 ^ 30 by omega), h0, eq_iff_iff]
    omega
  rw [q_knows2 (n := d) (by rw [s34 2 (by decide)]; exact hS) (by omega), inb, zb_2, zb_2]
  by_cases hb : 0 ≤ b.toInt ∧ b.toInt < (d : Int)
  · rw [if_pos hb, if_neg one_ne, if_neg one_ne, q_within, p_in, zb_2, zb_2]
    by_cases hw : 0 ≤ w ∧ w ≤ 3
    · rw [if_pos hw, if_neg one_ne, if_neg one_ne, zb_l, zb_l]
      obtain ⟨a, had, rfl⟩ := ix_of hb (by omega)
      obtain ⟨ac, hac, rfl⟩ := lt4 hw
      obtain ⟨k, hk, hke⟩ := ix_of (x := S.1 35 a) (n := 8) ⟨(hv a had).2.1, by have := (hv a had).2.2; omega⟩ (by omega)
      generalize hS2 : u1 S1 34 4 (nI a) = S2
      generalize hT2 : u1 T1 0 52 (nI a) = T2
      have hD : Dd a S T 0 S2 T2 := by
        refine ⟨by rw [← hS2]; simp only [rd_1, reduceIte], by rw [← hT2]; simp only [rd_1, reduceIte], by rw [← hS2]; simp only [rd_1, reduceIte, Nat.reduceEqDiff]; exact s33, by rw [← hT2]; simp only [rd_1, reduceIte, Nat.reduceEqDiff]; exact t50, fun i _ h => absurd h (by omega), fun c c1 c2 => by rw [← hS2, ne_u1 _ _ _ c1]; exact sc c c1, by rw [← hS2]; simp only [rd_1, reduceIte, Nat.reduceEqDiff]; exact s34 2 (by decide), by rw [← hS2]; exact s2, fun c c1 c2 => by rw [← hT2, ne_u1 _ _ _ c1]; exact tc c c1, fun j j1 j2 => by rw [← hT2]; simp only [rd_1, reduceIte, j2]; exact t0 j j1, by rw [← hT2]; exact t2⟩
      have hC : Cx a k S T := ⟨by omega, hk, ⟨d, had, hd50, hS⟩, hke, by rw [(hv a had).1]; exact hke⟩
      have h29 : T2.1 29 a = nI k := by rw [hD.2.2.2.2.2.2.2.2.1 29 (by decide) (by decide)]; exact hC.2.2.2.2
      rw [zb_an _ (by omega) (by omega), zb_l, cl_n (by omega), h29]
      have fin : ∀ (F : St → Option (Int32 × St)) (H : Int32 → St → Option (Int32 × St)), AG a 16 S T F (ownM H) → OK RxC (jx_b2 (jx_b2 (F S2) (fun r S => some (r, S))) (fun r S => some (r, S))) (jx_b2 (H (nI k) T2) (fun r S => some (r, S))) := fun F H hA => by
        obtain ⟨v, S', T', r', f1, f2, f3, f4⟩ := hA 0 S2 T2 (by omega) hD
        unfold ownM at f2
        rw [hD.2.1, zb_an _ (by omega) (by omega), cl_n (by omega), h29] at f2
        rw [f1, f2, zb_2, zb_2, zb_2]
        obtain ⟨g1, g2, g3, g4, g5, g6, g7, g8, g9, g10, g11⟩ := f4
        exact ok_mk rfl (act_RR h hd50 hS r' (by omega) g3 g4 g5 g6 g7 g8 g9 g10 g11)
      have ac4 : ac = 0 ∨ ac = 1 ∨ ac = 2 ∨ ac = 3 := by omega
      rcases ac4 with q | q | q | q <;> subst q
      · rw [if_pos (show nI 0 = 0 from rfl)]
        exact fin _ (fun k => f_X12_paysIn 8 k x) (ag_mono (ag_own hC (ag_p k 43 4 0 x hk (by decide))) (by omega))
      · rw [if_neg (show ¬ nI 1 = 0 by decide), if_pos (show nI 1 = 1 from rfl)]
        exact fin _ (fun k => f_X12_changesIn 8 k x) (ag_mono (ag_own hC (ag_c hC k 39 4 0 x hk (by decide))) (by omega))
      · rw [if_neg (show ¬ nI 2 = 0 by decide), if_neg (show ¬ nI 2 = 1 by decide), if_pos (show nI 2 = 2 from rfl)]
        exact fin _ (fun k => f_X12_swapsIn 8 k x) (ag_mono (ag_own hC (ag_s hC k 42 4 0 x hk (by decide))) (by omega))
      · rw [if_neg (show ¬ nI 3 = 0 by decide), if_neg (show ¬ nI 3 = 1 by decide), if_neg (show ¬ nI 3 = 2 by decide)]
        exact fin _ (fun k => f_X12_tellsIn 8 k x) (ag_mono (ag_own hC (ag_t hC k 37 4 0 x hk (by decide))) (by omega))
    · rw [if_neg hw, if_pos rfl, if_pos rfl, zb_2]
      exact ok_r _ hR1
  · rw [if_neg hb, if_pos rfl, if_pos rfl, zb_2]
    exact ok_r _ hR1
