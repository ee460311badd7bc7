variable {S T : St}
theorem qp_goes {L : Lns} {sh fe g : Nat} (hsh : sh ≤ 99) (hfe : fe ≤ 99) (hg : g < 4) : ∀ (f s a at1 row : Nat) (day : Int32) (S T : St), s < 16 → cnt s < f → cnt s ≤ 3 → a ≤ 9999 * 10 ^ (3 - cnt s) → row < 10 ^ (4 - cnt s) → at1 < 4 → bit s at1 = 1 → TX 0 L S T → S.1 21 1 = nI sh → S.1 21 2 = nI fe → T.1 0 12 = nI sh → T.1 0 13 = nI fe → S.1 21 3 = nI g → Bst True S T → ∃ S' T', f_X10_goOn f (nI a) (nI at1) day (nI row) (nI s) S = some S' ∧ f_X12_goes f (lN a) (nI at1) (nI g) (nI s) day (nI row) T = some T' ∧ KX S S' ∧ KM T T' ∧ S'.1 21 3 = nI g ∧ Bst (at1 = g ∧ cnt s = 0) S' T' := by
  intro f
  induction f with
  | zero => intro s a at1 row day S T _ h; exact absurd h (by omega)
  | succ f ih =>
    intro s a at1 row day S0 T0 hs16 hcf hc3 ha hrow hat hbit hL s1 s2 t1 t2 s3 hB
    have hx : a < 2 ^ 27 := by
      have hc : cnt s = 0 ∨ cnt s = 1 ∨ cnt s = 2 ∨ cnt s = 3 := by omega
      rcases hc with q | q | q | q <;> rw [q] at ha <;> omega
    have hr4 : row < 10000 := by
      have hc : cnt s = 0 ∨ cnt s = 1 ∨ cnt s = 2 ∨ cnt s = 3 := by omega
      rcases hc with q | q | q | q <;> rw [q] at hrow <;> omega
    show ∃ S' T', fb_X10_goOn (f_X10_goOn f) (nI a) (nI at1) day (nI row) (nI s) S0 = some S' ∧ fb_X12_goes (f_X12_goes f) (lN a) (nI at1) (nI g) (nI s) day (nI row) T0 = some T' ∧ _
    unfold fb_X10_goOn fb_X12_goes
    rw [if_pos (by exact nI_lt (b := 100000) (by omega) (by omega))]
    obtain ⟨S', T', w1, w2, w3, w4, w5, w6⟩ := wl_two (g_X10_goOn_11 (f_X10_goOn f) (nI a) (nI at1) day (nI row) (nI s)) (g_X12_goes_3 (f_X12_goes f) (lN a) (nI at1) (nI g) (nI s) day (nI row)) (fun x y => ∃ l S T, x = (nI l, S) ∧ y = (nI l, T) ∧ l ≤ 4 ∧ KX S0 S ∧ KM T0 T ∧ S.1 21 3 = nI g ∧ Bst (∀ j, j < l → ¬ goQ s at1 g j) S T) (fun x => 4 - x.1.toNatClampNeg) (fun S T => KX S0 S ∧ KM T0 T ∧ S.1 21 3 = nI g ∧ Bst (at1 = g ∧ cnt s = 0) S T)
      (fun x y hI => by
        obtain ⟨l, S, T, rfl, rfl, hl, kS, kT, g3, hb⟩ := hI
        have hL' := TX_keep (by decide) hL kS kT
        unfold g_X10_goOn_11 b_X10_goOn_11 g_X12_goes_3 b_X12_goes_3
        simp only [g3]
        by_cases hl4 : l = 4
        · subst hl4
          rw [if_pos (by decide), if_pos (by decide)]
          refine Or.inr ⟨_, _, rfl, rfl, kS, kT, g3, Bst_mono hb (fun hq => ?_)⟩
          by_cases z : at1 = g
          · refine ⟨z, ?_⟩
            by_cases z2 : cnt s = 0
            · exact z2
            · obtain ⟨j, j1, j2⟩ := way_un s hs16 z2
              exact absurd (Or.inr ⟨fun e => by rw [e, ← z, hbit] at j2; exact absurd j2 (by decide), j2⟩) (hq j j1)
          · exact absurd (Or.inl ⟨rfl, z⟩) (hq g hg)
        · have hl' : l < 4 := by omega
          have h4 : ¬ (4 : Int32) ≤ nI l := nI_ge (b := 4) hl' (by omega)
          have n1 : ¬ nI 1 = 0 := by decide
          have n0 : nI 0 = 0 := rfl
          obtain ⟨b1, b2, b3, b4, b5⟩ := way_bit s hs16 l hl'
          have hmu : 4 - (nI (l + 1)).toNatClampNeg < 4 - (nI l).toNatClampNeg := by rw [cl_n (by omega), cl_n (by omega)]; omega
          unfold f_X10_goOn_47i11 f_X10_step f_X10_goOn_60i11 f_X12_goes_26i3 f_X12_goes_27i3 f_X12_goes_44i3 f_X12_goes_159i3
          obtain ⟨S1, e1, k1, m1⟩ := q_changedS (x := a) hL' hx (by rw [kS.2.2.1]; exact s1) (by rw [kS.2.2.2.1]; exact s2) hsh hfe (nI at1) (nI l) day
          obtain ⟨T1, e2, k2, m2⟩ := p_changedS (x := a) hL' hx (by rw [kT.2.1 12 (by decide)]; exact t1) (by rw [kT.2.1 13 (by decide)]; exact t2) hsh hfe (nI at1) (nI l) day
          have hcb := chN_le (x := a) (sh := sh) (fe := fe) (rN_le L (nI at1) (nI l) day).2
          generalize chN a (rN L (nI at1) (nI l) day) sh fe = v at e1 e2 hcb
          have hB1 := Bst_keep hb (m1.1 21 (by decide)) (by rw [m2.1 0 (by decide)]) (by rw [m2.2])
          have g31 : S1.1 21 3 = nI g := by rw [m1.1 21 (by decide)]; exact g3
          have er1 : nI row * (10 : Int32) + nI l + 1 = nI (row * 10 + l + 1) := by rw [show nI row * (10 : Int32) = nI (row * 10) from pk_mul row 10, nI_add, nI_1]
          have er2 : (10 : Int32) * nI row + nI l + 1 = nI (row * 10 + l + 1) := by rw [show (10 : Int32) * nI row = nI (10 * row) from pk_mul 10 row, nI_add, nI_1, Nat.mul_comm 10 row]
          simp only [zb_l, nI_1, b1, b2, e1, e2, zb_2, g31, er1, er2, one_ne, reduceIte]
          by_cases hlg : l = g
          · subst hlg
            by_cases hag : at1 = l
            · subst hag
              simp only [h4, hbit, n1, reduceIte]
              refine Or.inl ⟨_, _, rfl, rfl, ⟨at1 + 1, S, T, rfl, rfl, by omega, kS, kT, g3, Bst_mono hb (fun hq j hj => ?_)⟩, hmu⟩
              by_cases e : j = at1
              · subst e; exact fun z => z.elim (fun w => w.2 rfl) (fun w => w.1 rfl)
              · exact hq j (by omega)
            · have hne : ¬ nI at1 = nI l := fun q => hag ((nI_eq (by omega) (by omega)).mp q)
              simp only [h4, hne, reduceIte]
              unfold f_X12_goes_90i3 f_X12_goes_95i3 f_X12_goes_112i3 f_X12_goes_130i3 f_X12_goes_159i3
              simp only [lg_cmp_le, zb_l, nI_1, one_ne, reduceIte]
              rcases id hB1 with ⟨⟨q1, q2, q3⟩, -⟩ | ⟨v0, g0, q1, q2, q3, q4, q5, q6, q7⟩
              · rw [q1, q3, if_neg (nle_m1 (by omega)), if_pos rfl]
                refine Or.inl ⟨_, _, rfl, rfl, ⟨l + 1, _, _, rfl, rfl, by omega, KX_tr (KX_tr (KX_tr kS k1) (KX_u1 (by unfold okX; decide))) (KX_u1 (by unfold okX; decide)), KM_tr (KM_tr (KM_tr kT k2) (KM_u2 (by decide))) (KM_u1 (by unfold okM; decide)), ?_, Or.inr ⟨v, row * 10 + l + 1, by omega, by omega, by omega, ?_, ?_, ?_, ?_⟩⟩, hmu⟩
                · simp only [rd_1, reduceIte, Nat.reduceEqDiff]; exact g31
                · simp only [rd_1, reduceIte, Nat.reduceEqDiff]
                · simp only [rd_2, rd_3, reduceIte]
                · simp only [rd_1, reduceIte, Nat.reduceEqDiff]
                · simp only [rd_1, reduceIte, Nat.reduceEqDiff]
              · rw [q4, q7, q5, if_neg (nI_ne0 q3 q2)]
                by_cases hv : v ≤ v0
                · rw [if_pos ((nI_leI (by omega) q1).mpr hv), if_pos ((lN_le (by omega) q1).mpr hv)]
                  refine Or.inl ⟨_, _, rfl, rfl, ⟨l + 1, S1, _, rfl, rfl, by omega, KX_tr kS k1, KM_tr (KM_tr (KM_tr kT k2) (KM_u2 (by decide))) (KM_u1 (by unfold okM; decide)), g31, Or.inr ⟨v0, g0, q1, q2, q3, q4, ?_, q6, ?_⟩⟩, hmu⟩
                  · simp only [rd_2, rd_3, reduceIte]
                  · simp only [rd_1, rd_4, reduceIte, q7]
                · rw [if_neg (fun q => hv ((nI_leI (by omega) q1).mp q)), if_neg (fun q => hv ((lN_le (by omega) q1).mp q))]
                  refine Or.inl ⟨_, _, rfl, rfl, ⟨l + 1, _, _, rfl, rfl, by omega, KX_tr (KX_tr (KX_tr kS k1) (KX_u1 (by unfold okX; decide))) (KX_u1 (by unfold okX; decide)), KM_tr (KM_tr (KM_tr kT k2) (KM_u2 (by decide))) (KM_u1 (by unfold okM; decide)), ?_, Or.inr ⟨v, row * 10 + l + 1, by omega, by omega, by omega, ?_, ?_, ?_, ?_⟩⟩, hmu⟩
                  · simp only [rd_1, reduceIte, Nat.reduceEqDiff]; exact g31
                  · simp only [rd_1, reduceIte, Nat.reduceEqDiff]
                  · simp only [rd_2, rd_3, reduceIte]
                  · simp only [rd_1, reduceIte, Nat.reduceEqDiff]
                  · simp only [rd_1, reduceIte, Nat.reduceEqDiff]
          · have hne : ¬ nI l = nI g := fun q => hlg ((nI_eq (by omega) (by omega)).mp q)
            rcases bit_le s l with z | z
            · simp only [h4, hne, z, n0, reduceIte]
              have hc := b5 z
              have ha' : v ≤ 9999 * 10 ^ (3 - cnt (nxt s l)) := by
                rw [show 3 - cnt (nxt s l) = (3 - cnt s) + 1 by omega, Nat.pow_succ]; omega
              have hr' : row * 10 + l + 1 < 10 ^ (4 - cnt (nxt s l)) := by
                rw [show 4 - cnt (nxt s l) = (4 - cnt s) + 1 by omega, Nat.pow_succ]; omega
              obtain ⟨S2, T2, c1, c2, c3, c4, c5, c6⟩ := ih (nxt s l) v l (row * 10 + l + 1) (day + 1) S1 T1 b3 (by omega) (by omega) ha' hr' hl' b4 (TX_keep (by decide) hL' k1 k2) (by rw [k1.2.2.1, kS.2.2.1]; exact s1) (by rw [k1.2.2.2.1, kS.2.2.2.1]; exact s2) (by rw [k2.2.1 12 (by decide), kT.2.1 12 (by decide)]; exact t1) (by rw [k2.2.1 13 (by decide), kT.2.1 13 (by decide)]; exact t2) g31 (Bst_mono hB1 (fun _ => trivial))
              rw [c1, c2]
              exact Or.inl ⟨_, _, rfl, rfl, ⟨l + 1, S2, T2, rfl, rfl, by omega, KX_tr (KX_tr kS k1) c3, KM_tr (KM_tr kT k2) c4, c5, Bst_mono c6 (fun w => absurd w.1 hlg)⟩, hmu⟩
            · simp only [h4, hne, z, n1, reduceIte]
              refine Or.inl ⟨_, _, rfl, rfl, ⟨l + 1, S, T, rfl, rfl, by omega, kS, kT, g3, Bst_mono hb (fun hq j hj => ?_)⟩, hmu⟩
              by_cases e : j = l
              · subst e; exact fun w => w.elim (fun w => hlg w.1) (fun w => by rw [z] at w; exact absurd w.2 (by decide))
              · exact hq j (by omega))
      FU (nI 0, S0) (nI 0, T0) ⟨0, S0, T0, rfl, rfl, by omega, KX_rf, KM_rf, s3, Bst_mono hB (fun _ j hj => absurd hj (by omega))⟩ (FU_lt (show 4 - _ < 100000 by omega) 0)
    rw [show ((0 : Int32), S0) = (nI 0, S0) from rfl, show ((0 : Int32), T0) = (nI 0, T0) from rfl, w1, w2]
    exact ⟨S', T', rfl, rfl, w3, w4, w5, w6⟩
