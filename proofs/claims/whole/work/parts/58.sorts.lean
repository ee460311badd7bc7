variable {S T : St}
theorem qp_add {Rx : Nat → St → St → Prop} (hF : Fx Rx) {A B C D : Int32} {n : Nat} (h : RR Rx S T) (hn : S.1 1 5 = nI n) (hlt : n < 8) (hc : (0 ≤ A ∧ A ≤ 3) ∧ (1 ≤ B ∧ B ≤ 40) ∧ (0 ≤ C ∧ C ≤ 99) ∧ (0 ≤ D ∧ D ≤ 99)) : ∃ S' T', f_X1_add A B C D S = some (1, S') ∧ f_X12_comes A B C D T = some T' ∧ RR Rx S' T' ∧ S'.1 1 5 = nI (n + 1) ∧ (∀ k, 6 < k → S'.1 k = S.1 k) ∧ S'.2 = S.2 ∧ (∀ k, 5 < k → T'.1 k = T.1 k) ∧ T'.2 = T.2 := by
  obtain ⟨n', m, t, c, e, d, hs, ht, hm, hp, hch, hi, hd, hh, hx0, hx1⟩ := id h
  obtain ⟨hn', hS, hT, hv⟩ := id hs
  have hnn : n' = n := (nI_eq (by omega) (by omega)).mp (hS.symm.trans hn)
  subst hnn
  unfold f_X1_add
  have e1 : nI n' < (8 : Int32) := nI_lt (b := 8) hlt (by omega)
  rw [hS, if_pos e1]
  unfold f_X12_comes
  simp (disch := omega) only [↓zb_l, ↓zb_s, ↓zb_2, rd_1, hS, hT, zb_an, cl_n, reduceIte, one_ne, Nat.reduceEqDiff]
  refine ⟨_, _, rfl, rfl, ⟨n' + 1, m, t, c, e, d, ⟨hlt, by rw [rd_1, ← nI_1]; rfl, by rw [rd_1, ← nI_1]; rfl, fun i hi1 => ?_⟩, ht, hm, hp, Rc_mono (by omega) (by omega) hch, Ri_mono (by omega) (by omega) hi, hd, Rh_keep hh ?_ rfl rfl rfl rfl, fx_keep hF hx0 ?_ ?_, fx_keep hF hx1 ?_ ?_⟩, by rw [rd_1, ← nI_1]; rfl, ?_, rfl, ?_, rfl⟩
  · simp only [rd_1, reduceIte, Nat.reduceEqDiff]
    simp only [i32_le] at hc
    by_cases hin : i = n'
    · subst hin
      simp only [reduceIte, rg]
      exact ⟨by simp, ⟨hc.1.1, hc.1.2⟩, ⟨hc.2.1.1, hc.2.1.2⟩, ⟨hc.2.2.1.1, hc.2.2.1.2⟩, ⟨hc.2.2.2.1, hc.2.2.2.2⟩, by decide, by decide⟩
    · simp only [if_neg hin]
      exact hv i (by omega)
  all_goals (intro k h1; intros; simp (disch := omega) only [ne_u1])
theorem q_full {A B C D : Int32} (hn : S.1 1 5 = nI 8) : f_X1_add A B C D S = some (0, S) := by
  unfold f_X1_add
  rw [hn, if_neg (by decide)]
theorem i4 (c : Nat) : (4 : Int32) * nI c = nI (4 * c) := pk_mul 4 c
theorem l4 (c : Nat) : (4 : Int64) * lN c = lN (4 * c) := lN_mul 4 c
theorem op_sorts (a x z : Int32) (h : RR RxC S T) : OK RxC (f_X11_sorts a x z S) (f_X12_sorts a x z T) := by
  obtain ⟨n, m, t, c, e, d, hs, ht, hm, hp, hch, hi, hd, hh, hx0, hx1⟩ := id h
  unfold f_X11_sorts f_X12_sorts
  simp only [q_isShelf, p_isShelf, q_within, p_in, zb_2, ite01]
  refine ok_if Iff.rfl (fun _ => ok_r _ h) (fun h1 => ok_if Iff.rfl (fun _ => ok_r _ h) (fun h2 => ?_))
  obtain ⟨j, hj, -, rfl⟩ := ix_lit (k := 5) (by omega) rfl (nn h1)
  obtain ⟨zz, hz, hz2, rfl⟩ := ix_lit (k := 8) (by omega) rfl (show 0 ≤ z ∧ z ≤ 8 from ⟨by have := (nn h2).1; rw [i32_le] at this ⊢; exact Int.le_trans (by decide) this, (nn h2).2⟩)
  simp (disch := omega) only [zb_an, zb_l, cl_n]
  rcases hh j (by omega) with ⟨e1, e2⟩ | ⟨e1, e2, -⟩ | ⟨e1, so, sz, hso, hsz, e2, e3, e4, e5, e6⟩
  · rw [e1, e2, if_pos rfl, if_pos (by decide)]
    have hw : jx_w (g_X12_sorts_34 (nI j) x (nI zz)) FU (0, T) = some (Sum.inl (0, T)) := jx_w_end (n := 99999) (by
      unfold g_X12_sorts_34 b_X12_sorts_34
      simp (disch := omega) only [zb_an, cl_n, e2]
      rw [if_neg (show ¬ (-1 : Int32) = 0 by decide)]
      split
      · rfl
      · split <;> rfl)
    rw [hw]
    exact ok_r _ h
  · rw [e1, e2]; simp (decide := true) only [reduceIte]; exact ok_r _ h
  · rw [e1, e2, e3, if_neg (by decide), if_pos rfl]
    by_cases hso0 : so = 0
    · subst hso0
      rw [if_pos (show nI 0 = 0 from rfl), if_pos (show nI 0 ≤ 0 by decide)]
      obtain ⟨r, r', w1, w2, w3⟩ := wl_two (g_X11_sorts_60 x (nI zz) j) (g_X12_sorts_34 (nI j) x (nI zz)) (fun s t => ∃ c n S1 T1, s = (nI c, S1) ∧ t = (nI c, T1) ∧ c ≤ zz ∧ RR RxC S1 T1 ∧ S1.1 1 5 = nI n ∧ n ≤ 8 ∧ S1.1 (48 + 2 * j) = S.1 (48 + 2 * j) ∧ S1.2 = S.2 ∧ T1.1 31 = T.1 31 ∧ T1.1 32 = T.1 32 ∧ T1.2 = T.2 ∧ (c = 0 ∨ ∃ i, x = nI i ∧ i + 4 * c ≤ sz)) (fun s => zz - s.1.toNatClampNeg) (fun r r' => ∃ c S1 T1, r = (c, S1) ∧ (r' = .inl (c, T1) ∨ r' = .inr (c, T1)) ∧ RR RxC S1 T1)
        (fun s t hI => by
          obtain ⟨c, n, S1, T1, rfl, rfl, hc, hR, hn, hn8, k1, k2, k3, k4, k5, hx⟩ := hI
          have hTn : T1.1 0 0 = nI n := by
            obtain ⟨n', m', t', c', e', d', hs', -⟩ := hR
            rw [hs'.2.2.1, ← hs'.2.1, hn]
          unfold g_X11_sorts_60 b_X11_sorts_60 g_X12_sorts_34 b_X12_sorts_34
          by_cases hcz : c = zz
          · subst hcz
            rw [if_pos (nI_le (Nat.le_refl c) (by omega)), if_pos (nI_le (Nat.le_refl c) (by omega))]
            exact Or.inr ⟨_, _, rfl, rfl, _, _, _, rfl, Or.inl rfl, hR⟩
          · rw [if_neg (nI_ge (by omega) (by omega)), if_neg (nI_ge (by omega) (by omega)), hTn]
            unfold f_X11_addFromRow
            simp (disch := omega) only [zb_l, zb_an, cl_n, k3, k4, e2, e4]
            rw [if_pos (show nI 0 = 0 from rfl), q_spans (t := j) (n := sz) (by rw [k1]; exact e5) hsz, zb_2, i4]
            have h4 : (4 : Int32).toInt = 4 := rfl
            rw [h4]
            simp only [ite01]
            by_cases hx0 : x < 0
            · have hc0 : c = 0 := by
                rcases hx with q | ⟨i, rfl, q⟩
                · exact q
                · exact absurd hx0 (nI_pos (by omega))
              subst hc0
              rw [show x + nI (4 * 0) = x from Int32.add_zero x, if_pos (show ¬ (0 ≤ x.toInt ∧ (0 : Int) ≤ 4 ∧ x.toInt + 4 ≤ (sz : Int)) by rw [i32_lt] at hx0; have h0 : (0 : Int32).toInt = 0 := rfl; omega), zb_2, if_pos rfl, if_pos hx0]
              refine Or.inr ⟨_, .inl (nI 0, T1), rfl, ?_, _, _, _, rfl, Or.inl rfl, hR⟩
              split <;> rfl
            · obtain ⟨i, hi31, rfl⟩ := nI_of hx0
              have hb : i + 4 * c < 2 ^ 31 := by
                rcases hx with q | ⟨i', q1, q2⟩
                · subst q; omega
                · have := (nI_eq hi31 (by
                    have : i' ≤ sz := by omega
                    omega)).mp q1
                  omega
              rw [nI_add, nI_toInt hb, if_neg hx0]
              rw [nI_l hi31, nI_l (show c < 2 ^ 31 by omega), nI_l (show sz < 2 ^ 31 by omega), l4, lN_add, show (4 : Int64) = lN 4 from rfl, lN_add]
              simp only [lg_cmp_gt]
              have lcmp : (lN sz < lN (i + 4 * c + 4)) ↔ sz < i + 4 * c + 4 := by
                rw [lt64, pk_lT (by omega), pk_lT (by omega)]; omega
              by_cases hfit : i + 4 * c + 4 ≤ sz
              · rw [if_neg (show ¬ ¬ ((0 : Int) ≤ ((i + 4 * c : Nat) : Int) ∧ (0 : Int) ≤ 4 ∧ ((i + 4 * c : Nat) : Int) + 4 ≤ (sz : Int)) from fun q => q (by omega)), if_neg (show ¬ lN sz < lN (i + 4 * c + 4) from fun q => by rw [lcmp] at q; omega)]
                have i1 : nI (i + 4 * c) + 1 = nI (i + 4 * c + 1) := nI_1 _
                have i2 : nI (i + 4 * c) + 2 = nI (i + 4 * c + 2) := nI_add _ 2
                have i3 : nI (i + 4 * c) + 3 = nI (i + 4 * c + 3) := nI_add _ 3
                have ij : (60 : Int32) * nI j + nI i + nI (4 * c) = nI (60 * j + (i + 4 * c)) := by rw [i60b]; congr 1; omega
                have ij1 : nI (60 * j + (i + 4 * c)) + 1 = nI (60 * j + (i + 4 * c + 1)) := nI_1 _
                have ij2 : nI (60 * j + (i + 4 * c)) + 2 = nI (60 * j + (i + 4 * c + 2)) := nI_add _ 2
                have ij3 : nI (60 * j + (i + 4 * c)) + 3 = nI (60 * j + (i + 4 * c + 3)) := nI_add _ 3
                have rd : ∀ q, q < 60 → T1.2 33 (60 * j + q) = S1.2 (48 + 2 * j + 1) q := fun q hq => by rw [k5, k2, e6 q hq, show 49 + 2 * j = 48 + 2 * j + 1 by omega]
                rw [ij, ij1, ij2, ij3]
                simp only [i1, i2, i3]
                simp (disch := omega) only [zb_an, zb_l, cl_n, rd, q_fits, p_isSoSort, zb_2, ite01]
                generalize (S1.2 (48 + 2 * j + 1) (i + 4 * c)).toInt32 = A
                generalize (S1.2 (48 + 2 * j + 1) (i + 4 * c + 1)).toInt32 = B
                generalize (S1.2 (48 + 2 * j + 1) (i + 4 * c + 2)).toInt32 = C
                generalize (S1.2 (48 + 2 * j + 1) (i + 4 * c + 3)).toInt32 = D
                by_cases hv : (0 ≤ A ∧ A ≤ 3) ∧ (1 ≤ B ∧ B ≤ 40) ∧ (0 ≤ C ∧ C ≤ 99) ∧ (0 ≤ D ∧ D ≤ 99)
                · rw [if_neg (show ¬ ¬ ((0 ≤ A ∧ A ≤ 3) ∧ (1 ≤ B ∧ B ≤ 40) ∧ (0 ≤ C ∧ C ≤ 99) ∧ (0 ≤ D ∧ D ≤ 99)) from fun q => q hv), if_neg (show ¬ ¬ ((0 ≤ A ∧ A ≤ 3) ∧ (1 ≤ B ∧ B ≤ 40) ∧ (0 ≤ C ∧ C ≤ 99) ∧ (0 ≤ D ∧ D ≤ 99)) from fun q => q hv)]
                  by_cases h8 : n = 8
                  · subst h8
                    rw [q_full hn, zb_2, if_pos rfl, zb_2, if_pos rfl, if_pos (show (8 : Int32) ≤ nI 8 by decide)]
                    exact Or.inr ⟨_, _, rfl, rfl, _, _, _, rfl, Or.inl rfl, hR⟩
                  · obtain ⟨S2, T2, b1, b2, b3, b4, b5, b6, b7, b8⟩ := qp_add FxC hR hn (by omega) hv
                    rw [b1, b2, if_neg (show ¬ (8 : Int32) ≤ nI n from nI_ge (b := 8) (by omega) (by omega)), zb_2, if_neg one_ne, zb_2, if_neg one_ne, zb_s, nI_1]
                    exact Or.inl ⟨_, _, rfl, rfl, ⟨c + 1, n + 1, S2, T2, rfl, rfl, by omega, b3, b4, by omega, by rw [b5 _ (by omega)]; exact k1, by rw [b6]; exact k2, by rw [b7 31 (by omega)]; exact k3, by rw [b7 32 (by omega)]; exact k4, by rw [b8]; exact k5, Or.inr ⟨i, rfl, by omega⟩⟩, by show zz - (nI (c + 1)).toNatClampNeg < zz - c; rw [cl_n (by omega)]; omega⟩
                · rw [if_pos hv, if_pos hv, zb_2, if_pos rfl]
                  by_cases h8 : (8 : Int32) ≤ nI n
                  · rw [if_pos h8]
                    exact Or.inr ⟨_, _, rfl, rfl, _, _, _, rfl, Or.inl rfl, hR⟩
                  · rw [if_neg h8]
                    exact Or.inr ⟨_, _, rfl, rfl, _, _, _, rfl, Or.inr rfl, hR⟩
              · rw [if_pos (show ¬ ((0 : Int) ≤ ((i + 4 * c : Nat) : Int) ∧ (0 : Int) ≤ 4 ∧ ((i + 4 * c : Nat) : Int) + 4 ≤ (sz : Int)) by omega), if_pos (show lN sz < lN (i + 4 * c + 4) by rw [lcmp]; omega), zb_2, if_pos rfl]
                refine Or.inr ⟨_, .inl (nI c, T1), rfl, ?_, _, _, _, rfl, Or.inl rfl, hR⟩
                split <;> rfl)
        FU (nI 0, S) (nI 0, T) ⟨0, n, S, T, rfl, rfl, by omega, h, hs.2.1, hs.1, rfl, rfl, rfl, rfl, rfl, Or.inl rfl⟩ (FU_lt (show zz - _ < 100000 by omega) 0)
      rw [show ((0 : Int32), S) = (nI 0, S) from rfl, w1, zb_s, show ((0 : Int32), T) = (nI 0, T) from rfl, w2, zb_s]
      obtain ⟨c, S1, T1, rfl, q, hR⟩ := w3
      rcases q with rfl | rfl
      · exact ok_r _ hR
      · exact ok_r _ hR
    · rw [if_neg (nI_ne0 (by omega) (by omega)), if_neg (nI_nle (by omega) (by omega))]
      exact ok_r _ h
