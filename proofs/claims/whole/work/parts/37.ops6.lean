section OPS6
variable {Rx : Nat → St → St → Prop} {S T : St}
theorem q_forget (S : St) : ∃ S', f_X0_forgetFirst S = some S' ∧ Sm [25, 26, 27, 28, 29] S S' ∧ (∀ j, j ≠ 4 → S'.1 25 j = S.1 25 j) ∧ S'.1 25 4 = nI 39 ∧ ∀ i, i < 39 → S'.1 26 i = S.1 26 (i + 1) ∧ S'.1 27 i = S.1 27 (i + 1) ∧ S'.1 28 i = S.1 28 (i + 1) ∧ S'.1 29 i = S.1 29 (i + 1) := by
  unfold f_X0_forgetFirst
  obtain ⟨r, h1, h2, h3⟩ := wl_for g_X0_forgetFirst_2 (fun i S => (nI (i + 1), S)) (fun j S' => Sm [26, 27, 28, 29] S S' ∧ ∀ i, (S'.1 26 i = if i < j then S.1 26 (i + 1) else S.1 26 i) ∧ (S'.1 27 i = if i < j then S.1 27 (i + 1) else S.1 27 i) ∧ (S'.1 28 i = if i < j then S.1 28 (i + 1) else S.1 28 i) ∧ (S'.1 29 i = if i < j then S.1 29 (i + 1) else S.1 29 i)) 39 (fun S' => Sm [26, 27, 28, 29] S S' ∧ ∀ i, (S'.1 26 i = if i < 39 then S.1 26 (i + 1) else S.1 26 i) ∧ (S'.1 27 i = if i < 39 then S.1 27 (i + 1) else S.1 27 i) ∧ (S'.1 28 i = if i < 39 then S.1 28 (i + 1) else S.1 28 i) ∧ (S'.1 29 i = if i < 39 then S.1 29 (i + 1) else S.1 29 i))
    (fun b S' hi hI => by
      refine ⟨u1 (u1 (u1 (u1 S' 26 b (S'.1 26 (b + 1))) 27 b (S'.1 27 (b + 1))) 28 b (S'.1 28 (b + 1))) 29 b (S'.1 29 (b + 1)), ?_, Sm_u1 (Sm_u1 (Sm_u1 (Sm_u1 hI.1 (by decide)) (by decide)) (by decide)) (by decide), fun j => ?_⟩
      · unfold g_X0_forgetFirst_2 b_X0_forgetFirst_2
        rw [if_neg (by exact nI_ge (b := 40) (by omega) (by omega)), nI_pred]
        simp (disch := omega) only [zb_an, zb_l, cl_n, rd_1, reduceIte, Nat.reduceEqDiff, nI_1]
      · have q := hI.2 j
        have q1 := hI.2 (b + 1)
        have hb : ¬ b + 1 < b := by omega
        simp only [hb, reduceIte] at q1
        simp only [rd_1, reduceIte, Nat.reduceEqDiff]
        by_cases hj : j = b
        · subst hj
          have hb2 : j < j + 1 := by omega
          simp only [hb2, reduceIte]
          exact q1
        · simp only [hj, reduceIte]
          by_cases hl : j < b
          · have hb3 : j < b + 1 := by omega
            simp only [hl, hb3, reduceIte] at q ⊢
            exact q
          · have hb3 : ¬ j < b + 1 := by omega
            simp only [hl, hb3, reduceIte] at q ⊢
            exact q)
    (fun S' hI => ⟨S', by unfold g_X0_forgetFirst_2 b_X0_forgetFirst_2; rw [if_pos (by show (40 : Int32) ≤ nI 40; decide)], hI⟩) FU 0 S (by omega) ⟨Sm_rf, fun i => by
      have hb : ¬ i < 0 := by omega
      simp only [hb, reduceIte]
      exact ⟨trivial, trivial, trivial, trivial⟩⟩ (FU_lt (by omega) 0)
  rw [show ((1 : Int32), S) = (nI (0 + 1), S) from rfl, h1, zb_s]
  unfold f_X0_forgetFirst_70
  rw [zb_l]
  refine ⟨_, rfl, ⟨fun a ha => ?_, ?_⟩, fun j hj => ?_, ?_, fun i hi => ?_⟩
  · rw [ne_u1 _ _ _ (by simp at ha; omega)]; exact h2.1 a (by simp at ha ⊢; omega)
  · show r.2 = S.2
    exact h2.2
  · rw [rd_1, if_pos rfl, if_neg hj, h2.1 25 (by decide)]
  · rw [rd_1, if_pos rfl, if_pos rfl]; rfl
  · have q := h3 i
    simp only [hi, reduceIte] at q
    simp only [rd_1, reduceIte, Nat.reduceEqDiff]
    exact q
theorem p_shift4 (a b c : Int32) (T : St) : ∃ T', jx_w (g_X12_mend_112 a b c) FU (nI 4, T) = some T' ∧ Sm [12] T T' ∧ ∀ i, i < 156 → T'.1 12 i = T.1 12 (i + 4) := by
  obtain ⟨r, h1, h2, h3⟩ := wl_for (g_X12_mend_112 a b c) (fun i S => (nI (i + 4), S)) (fun j T' => Sm [12] T T' ∧ ∀ i, T'.1 12 i = if i < j then T.1 12 (i + 4) else T.1 12 i) 156 (fun T' => Sm [12] T T' ∧ ∀ i, T'.1 12 i = if i < 156 then T.1 12 (i + 4) else T.1 12 i)
    (fun i T' hi hI => by
      refine ⟨u1 T' 12 i (T'.1 12 (i + 4)), ?_, Sm_u1 hI.1 (by decide), fun j => ?_⟩
      · unfold g_X12_mend_112 b_X12_mend_112
        rw [if_neg (by exact nI_ge (b := 160) (by omega) (by omega)), show nI (i + 4) - (4 : Int32) = nI i from by rw [show (4 : Int32) = nI 4 from rfl, pk_sub (by omega)]; rfl]
        simp (disch := omega) only [zb_an, zb_l, cl_n, nI_1]
      · have q := hI.2 (i + 4)
        rw [if_neg (by omega)] at q
        rw [rd_1, if_pos rfl, q, hI.2 j]
        by_cases hj : j = i
        · subst hj; rw [if_pos rfl, if_pos (by omega)]
        · rw [if_neg hj]
          by_cases hl : j < i
          · rw [if_pos hl, if_pos (by omega)]
          · rw [if_neg hl, if_neg (by omega)])
    (fun T' hI => ⟨T', by unfold g_X12_mend_112 b_X12_mend_112; rw [if_pos (by show (160 : Int32) ≤ nI (156 + 4); decide)], hI⟩) FU 0 T (by omega) ⟨Sm_rf, fun i => by rw [if_neg (by omega)]⟩ (FU_lt (by omega) 0)
  exact ⟨r, h1, h2, fun i hi => by rw [h3 i, if_pos hi]⟩
end OPS6
