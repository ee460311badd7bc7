variable {S T : St}
/-- the purse, the things' numbers and what is led change: all else stays -/
theorem RR_led {n m t c e d : Nat} {S' T' : St} (hs : Rs n S' T') (ht : Rt m S' T') (hm : Rm S' T') (hp : Rp t S T) (hch : Rc c e n m S T) (hi : Ri n m S T) (hd : Rd d S T) (hh : Rh d S T) (hx0 : RxC 0 S T) (hx1 : RxC 1 S T) (h1 : ∀ a, a ∉ [6, 11, 39] → S'.1 a = S.1 a) (h1' : S'.2 = S.2) (h2 : ∀ a, a ∉ [0, 5, 9] → T'.1 a = T.1 a) (h2' : T'.2 = T.2) (h3 : ∀ j, j ∉ [14, 15, 16] → T'.1 0 j = T.1 0 j) : RR RxC S' T' := by
  refine ⟨n, m, t, c, e, d, hs, ht, hm, ?_, ?_, ?_, ?_, ?_, ?_, ?_⟩
  · unfold Rp
    rw [h1 18 (by decide), h1 19 (by decide), h2 11 (by decide), h3 18 (by decide)]
    exact hp
  · unfold Rc
    rw [h1 25 (by decide), h1 26 (by decide), h1 27 (by decide), h1 28 (by decide), h1 29 (by decide), h2 12 (by decide), h3 20 (by decide), h3 21 (by decide)]
    exact hch
  · unfold Ri
    rw [h1 30 (by decide), h1 31 (by decide), h1 32 (by decide), h1 33 (by decide), h2 26 (by decide), h2 27 (by decide), h2 28 (by decide), h3 42 (by decide), h3 43 (by decide), h3 44 (by decide)]
    exact hi
  · unfold Rd
    rw [h1 34 (by decide), h1 35 (by decide), h1 36 (by decide), h2 29 (by decide), h2 30 (by decide), h3 48 (by decide), h3 50 (by decide)]
    exact hd
  · exact Rh_keep hh (fun k hk => h1 k (by simp; omega)) h1' (h2 31 (by decide)) (h2 32 (by decide)) (by rw [h2'])
  · exact fx_keep FxC hx0 (fun k g1 g2 _ => h1 k (by simp; omega)) (fun k g1 g2 => h2 k (by simp; omega))
  · exact fx_keep FxC hx1 (fun k g1 g2 _ => h1 k (by simp; omega)) (fun k g1 g2 => h2 k (by simp; omega))
theorem op_give (a : Int32) (h : RR RxC S T) : OK RxC (f_X11_give a S) (f_X12_give a T) := by
  obtain ⟨n, m, t, c, e, d, hs, ht, hm, hp, hch, hi, hd, hh, hx0, hx1⟩ := id h
  obtain ⟨hn, hS, hT, hv⟩ := id hs
  obtain ⟨w, w1, w2⟩ := qp_worth hs a
  unfold f_X11_give f_X12_give
  simp only [q_isLand, p_isLand, zb_2, ite01, w1, w2]
  refine ok_if Iff.rfl (fun _ => ok_r _ h) (fun h1 => ?_)
  rw [zb_a _ (by decide)]
  obtain ⟨⟨r, S'⟩, T', u1', u2', u3, u4, u5, u6, u7, u8, u9⟩ := wl_two (g_X1_emptyOut_4 a) (g_X12_give_17 a w) (fun s t => ∃ v i S1 T1, s = (v, nI i, S1) ∧ t = (nI i, T1) ∧ i ≤ n ∧ Sm [6] S S1 ∧ (∀ a, a ∉ [0, 5] → T1.1 a = T.1 a) ∧ (∀ j, j ≠ 16 → T1.1 0 j = T.1 0 j) ∧ T1.2 = T.2 ∧ T1.1 0 16 = T.1 0 16 + v ∧ ∀ k, k < n → T1.1 5 k = S1.1 6 k ∧ rg (S1.1 6 k) 0 6) (fun s => n - s.2.1.toNatClampNeg) (fun r T1 => Sm [6] S r.2 ∧ (∀ a, a ∉ [0, 5] → T1.1 a = T.1 a) ∧ (∀ j, j ≠ 16 → T1.1 0 j = T.1 0 j) ∧ T1.2 = T.2 ∧ T1.1 0 16 = T.1 0 16 + r.1 ∧ (∀ k, k < n → T1.1 5 k = r.2.1 6 k) ∧ ∀ k, k < n → rg (r.2.1 6 k) 0 6)
    (fun s t hI => by
      obtain ⟨v, i, S1, T1, rfl, rfl, hi, mS, mT, mT0, mT2, hg, hk⟩ := hI
      unfold g_X1_emptyOut_4 b_X1_emptyOut_4 g_X12_give_17 b_X12_give_17
      simp only [mS.1 1 (by decide), mT0 0 (by decide), hS, hT]
      by_cases hin : i = n
      · subst hin
        rw [if_pos (nI_le (Nat.le_refl i) (by omega)), if_pos (nI_le (Nat.le_refl i) (by omega))]
        exact Or.inr ⟨_, _, rfl, rfl, mS, mT, mT0, mT2, hg, fun k q => (hk k q).1, fun k q => (hk k q).2⟩
      · have hin' : i < n := by omega
        have hle : ¬ nI n ≤ nI i := nI_ge hin' (by omega)
        have hmu : n - (nI (i + 1)).toNatClampNeg < n - i := by rw [cl_n (by omega)]; omega
        rw [if_neg hle, if_neg hle]
        unfold f_X1_emptyOut_38i4 f_X12_give_50i17 f_X12_give_79i17
        simp (disch := omega) only [zb_an, cl_n, zb_l, mS.1 2 (by decide), mT 1 (by decide), (hv i hin').1.1, ne_u1, nI_1, (hk i hin').1]
        refine Or.inl ?_
        by_cases q : S.1 2 i = a
        · rw [if_pos q, if_pos q, if_pos q]
          refine ⟨_, _, rfl, rfl, ⟨_, i + 1, _, _, rfl, rfl, by omega, Sm_u1 mS (by decide), fun b hb => ?_, fun j hj => ?_, mT2, ?_, fun k hkn => ?_⟩, hmu⟩
          · simp only [List.mem_cons, List.not_mem_nil, or_false, not_or] at hb
            rw [ne_u1 _ _ _ hb.2, ne_u1 _ _ _ hb.1]; exact mT b (by simp; omega)
          · simp only [rd_1, reduceIte, Nat.reduceEqDiff, hj]; exact mT0 j hj
          · simp only [rd_1, reduceIte, Nat.reduceEqDiff]; rw [hg, Int32.add_assoc]
          · simp only [rd_1, reduceIte, Nat.reduceEqDiff]
            by_cases z : k = i
            · rw [if_pos z, if_pos z]; exact ⟨rfl, by decide, by decide⟩
            · rw [if_neg z, if_neg z]; exact hk k hkn
        · rw [if_neg q, if_neg q, if_neg q]
          refine ⟨_, _, rfl, rfl, ⟨_, i + 1, _, _, rfl, rfl, by omega, mS, fun b hb => ?_, fun j hj => ?_, mT2, ?_, fun k hkn => ?_⟩, hmu⟩
          · simp only [List.mem_cons, List.not_mem_nil, or_false, not_or] at hb
            rw [ne_u1 _ _ _ hb.2, ne_u1 _ _ _ hb.1]; exact mT b (by simp; omega)
          · simp only [rd_1, reduceIte, Nat.reduceEqDiff, hj]; exact mT0 j hj
          · simp only [rd_1, reduceIte, Nat.reduceEqDiff]; rw [hg, Int32.add_zero]
          · simp only [rd_1, reduceIte, Nat.reduceEqDiff]
            by_cases z : k = i
            · rw [if_pos z, z]; exact ⟨rfl, (hk i hin').2⟩
            · rw [if_neg z]; exact hk k hkn)
    FU (0, nI 0, S) (nI 0, T) ⟨0, 0, S, T, rfl, rfl, by omega, Sm_rf, fun _ _ => rfl, fun _ _ => rfl, rfl, by rw [Int32.add_zero], fun k hk => ⟨(hv k hk).1.2.2.2.2, (hv k hk).2.2.2.2.2⟩⟩ (FU_lt (show n - _ < 100000 by omega) 0)
  unfold f_X1_emptyOut f_X1_emptyOut_44 f_X12_give_86
  rw [show ((0 : Int32), (0 : Int32), S) = (0, nI 0, S) from rfl, u1', zb_s, zb_2, zb_a _ (by decide), zb_l, show ((0 : Int32), T) = (nI 0, T) from rfl, u2', zb_s]
  have c2 : Int32.toNatClampNeg (2 : Int32) = 2 := rfl
  rw [c2]
  have hS1 : ∀ a, a ∉ [6, 39] → (u1 S' 39 2 (S.1 39 2 + r)).1 a = S.1 a := fun a ha => by
    simp only [List.mem_cons, List.not_mem_nil, or_false, not_or] at ha
    rw [ne_u1 _ _ _ ha.2]; exact u3.1 a (by simp; omega)
  refine ok_mk rfl (RR_led (n := n) (m := m) ⟨hn, ?_, ?_, fun i hi1 => ?_⟩ ?_ ?_ hp hch hi hd hh hx0 hx1 (fun a ha => hS1 a (by simp at ha ⊢; omega)) u3.2 (fun a ha => u4 a (by simp at ha ⊢; omega)) u6 (fun j hj => u5 j (by simp at hj; omega)))
  · rw [hS1 1 (by decide)]; exact hS
  · rw [u5 0 (by decide)]; exact hT
  · have q := hv i hi1
    rw [hS1 2 (by decide), hS1 3 (by decide), hS1 4 (by decide), hS1 5 (by decide), u4 1 (by decide), u4 2 (by decide), u4 3 (by decide), u4 4 (by decide), show (u1 S' 39 2 (S.1 39 2 + r)).1 6 = S'.1 6 from ne_u1 _ _ _ (by decide)]
    exact ⟨⟨q.1.1, q.1.2.1, q.1.2.2.1, q.1.2.2.2.1, u8 i hi1⟩, q.2.1, q.2.2.1, q.2.2.2.1, q.2.2.2.2.1, u9 i hi1⟩
  · unfold Rt
    rw [hS1 7 (by decide), hS1 8 (by decide), hS1 9 (by decide), hS1 10 (by decide), hS1 11 (by decide), u5 6 (by decide), u4 6 (by decide), u4 7 (by decide), u4 8 (by decide), u4 9 (by decide)]
    exact ht
  · unfold Rm
    obtain ⟨a1, a2, a3, a4, a5, a6⟩ := hm
    refine ⟨by rw [hS1 38 (by decide), u4 10 (by decide)]; exact a1, by rw [hS1 21 (by decide), u5 12 (by decide)]; exact a2, by rw [hS1 21 (by decide), u5 13 (by decide)]; exact a3, ?_, ?_, ?_⟩
    · rw [u5 14 (by decide), a4]; simp only [rd_1, reduceIte, Nat.reduceEqDiff]; rw [u3.1 39 (by decide)]
    · rw [u5 15 (by decide), a5]; simp only [rd_1, reduceIte, Nat.reduceEqDiff]; rw [u3.1 39 (by decide)]
    · rw [u7, a6]; simp only [rd_1, reduceIte]
