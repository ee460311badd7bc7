section OPS7
variable {Rx : Nat → St → St → Prop} {S T : St}
theorem q_add13 {c : Nat} (hc : c < 40) (hS : S.1 25 4 = nI c) (k w a b : Int32) : ∃ S', f_X0_add_13 k w a b S = some S' ∧ Sm [25, 26, 27, 28, 29] S S' ∧ S'.1 25 4 = nI (c + 1) ∧ S'.1 25 5 = nI (c + 1) ∧ ∀ i, S'.1 26 i = (if i = c then k else S.1 26 i) ∧ S'.1 27 i = (if i = c then w else S.1 27 i) ∧ S'.1 28 i = (if i = c then a else S.1 28 i) ∧ S'.1 29 i = (if i = c then b else S.1 29 i) := by
  unfold f_X0_add_13
  simp (disch := omega) only [↓zb_l, zb_an, cl_n, rd_1, reduceIte, Nat.reduceEqDiff, hS, nI_1]
  refine ⟨_, rfl, ?_, ?_, ?_, fun i => ?_⟩
  · refine Sm_u1 (Sm_u1 (Sm_u1 (Sm_u1 (Sm_u1 (Sm_u1 Sm_rf ?_) ?_) ?_) ?_) ?_) ?_ <;> decide
  · simp only [rd_1, reduceIte, Nat.reduceEqDiff]
  · simp only [rd_1, reduceIte, Nat.reduceEqDiff]
  · simp only [rd_1, reduceIte, Nat.reduceEqDiff]
    exact ⟨trivial, trivial, trivial, trivial⟩
theorem p_152 {c n m : Nat} {k w v : Int32} {S : St} (hc : c < 40) (hT : T.1 0 20 = nI c) (hs : Rs n S T) (ht : Rt m S T) (hV : Vc n m k w v) : ∃ r S' T', f_X12_held k w T = some (r, T) ∧ Vc n m k w r ∧ f_X11_mendable k w S = some (r, S) ∧ f_X11_tell k w v S = some S' ∧ f_X12_mend_152 k w v T = some (r, T') ∧ Rs n S' T' ∧ Rt m S' T' ∧ Sm [3, 4, 5, 9, 10] S S' ∧ (∀ a, a ∉ [0, 2, 3, 4, 7, 8, 12] → T'.1 a = T.1 a) ∧ T'.2 = T.2 ∧ (∀ j, j ≠ 20 → j ≠ 21 → T'.1 0 j = T.1 0 j) ∧ T'.1 0 20 = nI (c + 1) ∧ T'.1 0 21 = nI 0 ∧ (∀ i, i < c → T'.1 12 (4 * i) = T.1 12 (4 * i) ∧ T'.1 12 (4 * i + 1) = T.1 12 (4 * i + 1) ∧ T'.1 12 (4 * i + 2) = T.1 12 (4 * i + 2) ∧ T'.1 12 (4 * i + 3) = T.1 12 (4 * i + 3)) ∧ T'.1 12 (4 * c) = k ∧ T'.1 12 (4 * c + 1) = w ∧ T'.1 12 (4 * c + 2) = r ∧ T'.1 12 (4 * c + 3) = v := by
  obtain ⟨r, e1, e2, hVr⟩ := qp_held hs ht hV
  obtain ⟨T1, hT1⟩ : ∃ z, z = u1 (u1 (u1 (u1 (u1 (u1 T 12 (4 * c) k) 12 (4 * c + 1) w) 12 (4 * c + 2) r) 12 (4 * c + 3) v) 0 20 (nI (c + 1))) 0 21 0 := ⟨_, rfl⟩
  have hs1 : Rs n S T1 := by rw [hT1]; exact hs
  have ht1 : Rt m S T1 := by rw [hT1]; exact ht
  obtain ⟨S', T', e3, e4, hs', ht', mS, mT⟩ := qp_tell hs1 ht1 hV
  have e5 : f_X12_mend_152 k w v T = some (r, T') := by
    unfold f_X12_mend_152
    rw [e2, zb_2]
    simp (disch := omega) only [↓zb_l, zb_an, cl_n, rd_1, reduceIte, Nat.reduceEqDiff, hT, nI_1, m4, nk (4 * c) 1 1 rfl, nk (4 * c) 2 2 rfl, nk (4 * c) 3 3 rfl]
    rw [← hT1, e4, zb_s]
  have w0 : ∀ a, a ≠ 0 → a ≠ 12 → T1.1 a = T.1 a := fun a h1 h2 => by rw [hT1]; simp (disch := omega) only [ne_u1]
  refine ⟨r, S', T', e2, hVr, e1, e3, e5, hs', ht', mS, fun a ha => ?_, ?_, fun j h1 h2 => ?_, ?_, ?_, fun i hi => ?_, ?_, ?_, ?_, ?_⟩
  · rw [mT.1 a (by simp at ha ⊢; omega), w0 a (by simp at ha; omega) (by simp at ha; omega)]
  · rw [mT.2, hT1]; rfl
  · rw [mT.1 0 (by decide), hT1]; simp only [rd_1, reduceIte, h1, h2, Nat.reduceEqDiff]
  · rw [mT.1 0 (by decide), hT1]; simp only [rd_1, reduceIte, Nat.reduceEqDiff]
  · rw [mT.1 0 (by decide), hT1]; simp only [rd_1, reduceIte]; rfl
  · rw [mT.1 12 (by decide), hT1]
    simp only [rd_1, reduceIte, Nat.reduceEqDiff]
    refine ⟨?_, ?_, ?_, ?_⟩ <;> rw [if_neg (by omega), if_neg (by omega), if_neg (by omega), if_neg (by omega)]
  · rw [mT.1 12 (by decide), hT1]
    simp only [rd_1, reduceIte, Nat.reduceEqDiff]
    rw [if_neg (by omega), if_neg (by omega), if_neg (by omega)]
  · rw [mT.1 12 (by decide), hT1]
    simp only [rd_1, reduceIte, Nat.reduceEqDiff]
    rw [if_neg (by omega), if_neg (by omega)]
  · rw [mT.1 12 (by decide), hT1]
    simp only [rd_1, reduceIte, Nat.reduceEqDiff]
    rw [if_neg (by omega)]
  · rw [mT.1 12 (by decide), hT1]
    simp only [rd_1, reduceIte, Nat.reduceEqDiff]
theorem rest_keep2 {n m t c' e' d : Nat} {S T S' T' : St} (hF : Fx Rx) (hs : Rs n S' T') (ht : Rt m S' T') (hch' : Rc c' e' n m S' T') (hm : Rm S T) (hp : Rp t S T) (hi : Ri n m S T) (hd : Rd d S T) (hh : Rh d S T) (hx0 : Rx 0 S T) (hx1 : Rx 1 S T) (h1 : ∀ a, a ∉ [3, 4, 5, 9, 10, 25, 26, 27, 28, 29] → S'.1 a = S.1 a) (h1' : S'.2 = S.2) (h2 : ∀ a, a ∉ [0, 2, 3, 4, 7, 8, 12] → T'.1 a = T.1 a) (h2' : T'.2 = T.2) (h3 : ∀ j, j ≠ 20 → j ≠ 21 → T'.1 0 j = T.1 0 j) : RR Rx S' T' := by
  refine ⟨n, m, t, c', e', d, hs, ht, ?_, ?_, hch', ?_, ?_, ?_, ?_, ?_⟩
  · unfold Rm
    rw [h3 12 (by omega) (by omega), h3 13 (by omega) (by omega), h3 14 (by omega) (by omega), h3 15 (by omega) (by omega), h3 16 (by omega) (by omega), h2 10 (by decide), h1 38 (by decide), h1 39 (by decide), h1 21 (by decide)]
    exact hm
  · unfold Rp
    rw [h3 18 (by omega) (by omega), h2 11 (by decide), h1 18 (by decide), h1 19 (by decide)]
    exact hp
  · unfold Ri
    rw [h3 42 (by omega) (by omega), h3 43 (by omega) (by omega), h3 44 (by omega) (by omega), h2 26 (by decide), h2 27 (by decide), h2 28 (by decide), h1 30 (by decide), h1 31 (by decide), h1 32 (by decide), h1 33 (by decide)]
    exact hi
  · unfold Rd
    rw [h3 48 (by omega) (by omega), h3 50 (by omega) (by omega), h2 29 (by decide), h2 30 (by decide), h1 34 (by decide), h1 35 (by decide), h1 36 (by decide)]
    exact hd
  · exact Rh_keep hh (fun k hk => h1 k (by simp; omega)) h1' (h2 31 (by decide)) (h2 32 (by decide)) (by rw [h2'])
  · exact fx_keep hF hx0 (fun k g1 g2 _ => h1 k (by simp; omega)) (fun k g1 g2 => h2 k (by simp; omega))
  · exact fx_keep hF hx1 (fun k g1 g2 _ => h1 k (by simp; omega)) (fun k g1 g2 => h2 k (by simp; omega))
theorem mend_core {n m t c e d : Nat} {k w v : Int32} (hF : Fx Rx) (hs : Rs n S T) (ht : Rt m S T) (hm : Rm S T) (hp : Rp t S T) (hch : Rc c e n m S T) (hi : Ri n m S T) (hd : Rd d S T) (hh : Rh d S T) (hx0 : Rx 0 S T) (hx1 : Rx 1 S T) (hV : Vc n m k w v) : OK Rx (f_X11_mend_65 k w v S) (jx_b2 (f_X12_held k w T) (fun r_23 S_21 => (if r_23 = v then some (v, S_21) else (if (S_21.1 0 20) = (40 : Int32) then jx_b (jx_w (g_X12_mend_112 k w v) FU ((4 : Int32), S_21)) (fun z => f_X12_mend_142 k w v z) else f_X12_mend_152 k w v S_21)))) := by
  have h : RR Rx S T := ⟨n, m, t, c, e, d, hs, ht, hm, hp, hch, hi, hd, hh, hx0, hx1⟩
  obtain ⟨ce, he, c1, c2, c3, c4, cv⟩ := id hch
  obtain ⟨r, e1, e2, hVr⟩ := qp_held hs ht hV
  unfold f_X11_mend_65
  rw [e1, e2, zb_2, zb_2]
  by_cases hrv : r = v
  · rw [if_pos hrv, if_pos hrv, hrv]; exact ok_r _ h
  · rw [if_neg hrv, if_neg hrv, c3]
    by_cases h40 : c = 40
    · subst h40
      have he40 : e = 40 := by omega
      subst he40
      rw [if_pos (show nI 40 = (40 : Int32) from rfl)]
      obtain ⟨Tf, f1, f2, f3⟩ := p_shift4 k w v T
      rw [show ((4 : Int32), T) = (nI 4, T) from rfl, f1, zb_s]
      unfold f_X12_mend_142
      rw [zb_l]
      have tf0 : Tf.1 0 = T.1 0 := f2.1 0 (by decide)
      rw [tf0, c3, show nI 40 - (1 : Int32) = nI 39 from rfl]
      obtain ⟨Tg, hTg⟩ : ∃ z, z = u1 Tf 0 20 (nI 39) := ⟨_, rfl⟩
      rw [← hTg]
      have g0 : ∀ a, a ≠ 0 → Tg.1 a = Tf.1 a := fun a ha => by rw [hTg]; exact ne_u1 _ _ _ ha
      have g00 : ∀ j, j ≠ 20 → Tg.1 0 j = T.1 0 j := fun j hj => by rw [hTg, rd_1, if_pos rfl, if_neg hj, tf0]
      have g20 : Tg.1 0 20 = nI 39 := by rw [hTg, rd_1, if_pos rfl, if_pos rfl]
      have g2 : Tg.2 = T.2 := by rw [hTg]; exact f2.2
      have hsg : Rs n S Tg := by
        unfold Rs
        rw [g00 0 (by omega), g0 1 (by omega), g0 2 (by omega), g0 3 (by omega), g0 4 (by omega), g0 5 (by omega), f2.1 1 (by decide), f2.1 2 (by decide), f2.1 3 (by decide), f2.1 4 (by decide), f2.1 5 (by decide)]
        exact hs
      have htg : Rt m S Tg := by
        unfold Rt
        rw [g00 6 (by omega), g0 6 (by omega), g0 7 (by omega), g0 8 (by omega), g0 9 (by omega), f2.1 6 (by decide), f2.1 7 (by decide), f2.1 8 (by decide), f2.1 9 (by decide)]
        exact ht
      obtain ⟨r', S1, T', -, -, k1, k2, k3, hs', ht', mS, w1, w2, w3, w4, w5, w6, w7, w8, w9, w10⟩ := p_152 (by omega) g20 hsg htg hV
      have er : r' = r := by rw [e1] at k1; exact (Prod.mk.inj (Option.some.inj k1)).1.symm
      subst er
      rw [k2, k3, zb_s]
      unfold f_X0_add
      rw [mS.1 25 (by decide), c1, if_neg (show ¬ nI 40 < (40 : Int32) by decide)]
      obtain ⟨S2, q1, q2, q3, q4, q5⟩ := q_forget S1
      rw [q1, zb_s]
      obtain ⟨S3, a1, a2, a3, a4, a5⟩ := q_add13 (c := 39) (by omega) q4 k w r' v
      rw [a1, zb_s]
      have s3 : ∀ a, a ∉ [25, 26, 27, 28, 29] → S3.1 a = S1.1 a := fun a ha => (a2.1 a ha).trans (q2.1 a ha)
      refine ok_mk rfl ?_
      refine rest_keep2 (c' := 40) (e' := 40) hF (S := S) (T := T) ?_ ?_ ⟨by omega, by omega, a3, a4, w4, w5, fun i hi1 => ?_⟩ hm hp hi hd hh hx0 hx1 ?_ ?_ ?_ ?_ ?_
      · unfold Rs
        rw [s3 1 (by decide), s3 2 (by decide), s3 3 (by decide), s3 4 (by decide), s3 5 (by decide), s3 6 (by decide)]
        exact hs'
      · unfold Rt
        rw [s3 7 (by decide), s3 8 (by decide), s3 9 (by decide), s3 10 (by decide), s3 11 (by decide)]
        exact ht'
      · have q := a5 i
        by_cases hi39 : i = 39
        · subst hi39
          simp only [reduceIte] at q
          rw [q.1, q.2.1, q.2.2.1, q.2.2.2]
          exact ⟨⟨w7, w8, w9, w10⟩, hVr, hV⟩
        · simp only [hi39, reduceIte] at q
          have q5' := q5 i (by omega)
          rw [q.1, q.2.1, q.2.2.1, q.2.2.2, q5'.1, q5'.2.1, q5'.2.2.1, q5'.2.2.2, mS.1 26 (by decide), mS.1 27 (by decide), mS.1 28 (by decide), mS.1 29 (by decide)]
          have w6' := w6 i (by omega)
          rw [w6'.1, w6'.2.1, w6'.2.2.1, w6'.2.2.2, g0 12 (by omega), f3 _ (by omega), f3 _ (by omega), f3 _ (by omega), f3 _ (by omega)]
          have cvi := cv (i + 1) (by omega)
          rw [show 4 * i + 4 = 4 * (i + 1) by omega, show 4 * i + 1 + 4 = 4 * (i + 1) + 1 by omega, show 4 * i + 2 + 4 = 4 * (i + 1) + 2 by omega, show 4 * i + 3 + 4 = 4 * (i + 1) + 3 by omega]
          exact cvi
      · intro a ha
        rw [s3 a (by simp at ha ⊢; omega)]; exact mS.1 a (by simp at ha ⊢; omega)
      · rw [a2.2, q2.2, mS.2]
      · intro a ha
        rw [w1 a ha, g0 a (by simp at ha; omega)]; exact f2.1 a (by simp at ha ⊢; omega)
      · rw [w2, g2]
      · intro j h1 h2
        rw [w3 j h1 h2, g00 j h1]
    · have hlt : c < 40 := by omega
      rw [if_neg (show ¬ nI c = (40 : Int32) from fun q => h40 ((nI_eq (b := 40) (by omega) (by omega)).mp q))]
      obtain ⟨r', S1, T', -, -, k1, k2, k3, hs', ht', mS, w1, w2, w3, w4, w5, w6, w7, w8, w9, w10⟩ := p_152 hlt c3 hs ht hV
      have er : r' = r := by rw [e1] at k1; exact (Prod.mk.inj (Option.some.inj k1)).1.symm
      subst er
      rw [k2, k3, zb_s]
      unfold f_X0_add
      have s25 : S1.1 25 4 = nI c := by rw [mS.1 25 (by decide), c1]
      rw [s25, if_pos (show nI c < (40 : Int32) from nI_lt (b := 40) hlt (by omega))]
      obtain ⟨S3, a1, a2, a3, a4, a5⟩ := q_add13 hlt s25 k w r' v
      rw [a1, zb_s]
      refine ok_mk rfl ?_
      refine rest_keep2 (c' := c + 1) (e' := c + 1) hF (S := S) (T := T) ?_ ?_ ⟨by omega, by omega, a3, a4, w4, by rw [w5]; congr 1; omega, fun i hi1 => ?_⟩ hm hp hi hd hh hx0 hx1 ?_ ?_ w1 w2 w3
      · unfold Rs
        rw [a2.1 1 (by decide), a2.1 2 (by decide), a2.1 3 (by decide), a2.1 4 (by decide), a2.1 5 (by decide), a2.1 6 (by decide)]
        exact hs'
      · unfold Rt
        rw [a2.1 7 (by decide), a2.1 8 (by decide), a2.1 9 (by decide), a2.1 10 (by decide), a2.1 11 (by decide)]
        exact ht'
      · have q := a5 i
        by_cases hic : i = c
        · subst hic
          simp only [reduceIte] at q
          rw [q.1, q.2.1, q.2.2.1, q.2.2.2]
          exact ⟨⟨w7, w8, w9, w10⟩, hVr, hV⟩
        · simp only [hic, reduceIte] at q
          rw [q.1, q.2.1, q.2.2.1, q.2.2.2, mS.1 26 (by decide), mS.1 27 (by decide), mS.1 28 (by decide), mS.1 29 (by decide)]
          have w6' := w6 i (by omega)
          rw [w6'.1, w6'.2.1, w6'.2.2.1, w6'.2.2.2]
          exact cv i (by omega)
      · intro a ha
        rw [a2.1 a (by simp at ha ⊢; omega)]; exact mS.1 a (by simp at ha ⊢; omega)
      · rw [a2.2, mS.2]
theorem ok_sw {p q : Prop} [dp : Decidable p] [dq : Decidable q] {dp' : Decidable p} {dq' : Decidable q} {A A' B B' : Option (Int32 × St)} (hr : OK Rx B B') (hk : ¬ p → ¬ q → OK Rx A A') : OK Rx (if p then B else if q then B else A) (if q then B' else if p then B' else A') := by
  by_cases hp : p
  · rw [if_pos hp]
    by_cases hq : q
    · rw [if_pos hq]; exact hr
    · rw [if_neg hq, if_pos hp]; exact hr
  · rw [if_neg hp]
    by_cases hq : q
    · rw [if_pos hq, if_pos hq]; exact hr
    · rw [if_neg hq, if_neg hq, if_neg hp]; exact hk hp hq
theorem op_mend (hF : Fx Rx) (a b v : Int32) (h : RR Rx S T) : OK Rx (f_X11_mend a b v S) (f_X12_mend a b v T) := by
  obtain ⟨n, m, t, c, e, d, hs, ht, hm, hp, hch, hi, hd, hh, hx0, hx1⟩ := id h
  unfold f_X11_mend f_X12_mend
  rw [q_within, p_in, zb_2, zb_2, show (5 : Int32) - 1 = 4 from rfl]
  refine ok_if Iff.rfl (fun _ => ok_r _ h) (fun h1 => ?_)
  rw [ite01] at h1
  obtain ⟨j, hj, -, rfl⟩ := ix_lit (k := 4) (by omega) rfl (nn h1)
  have core : ∀ w, Vc n m a w v → OK Rx (f_X11_mend_65 a w v S) _ := fun w hV => mend_core hF hs ht hm hp hch hi hd hh hx0 hx1 hV
  have hn := hs.1
  have hn9 := ht.1
  rw [zb_an _ (by omega) (by omega), zb_an _ (by omega) (by omega), cl_n (by omega), q_within, zb_2]
  unfold f_X12_mend_35 f_X12_mend_44 f_X12_mend_49 f_X12_mend_73
  simp only [q_knows hs.2.1 (by omega), q_knows9 ht.2.1 (by omega), p_isSort hs.2.2.1 (by omega), p_isThing ht.2.2.1 (by omega), zb_2, ite01, p_in]
  have hj5 : j = 0 ∨ j = 1 ∨ j = 2 ∨ j = 3 ∨ j = 4 := by omega
  rcases hj5 with rfl | rfl | rfl | rfl | rfl
  · have e0 : nI 0 = 0 := rfl
    simp (decide := true) only [e0, reduceIte, show st_MEND_LEAST 0 = 1 from rfl, show st_MEND_MOST 0 = 40 from rfl]
    exact ok_sw (ok_r _ h) (fun h2 hk => core 0 (Or.inl ⟨rfl, ix_of (nn hk) (by omega), rg_of (nn h2) rfl rfl⟩))
  · have e0 : nI 1 = 1 := rfl
    simp (decide := true) only [e0, reduceIte, show st_MEND_LEAST 1 = 0 from rfl, show st_MEND_MOST 1 = 99 from rfl]
    exact ok_sw (ok_r _ h) (fun h2 hk => core 1 (Or.inr (Or.inl ⟨Or.inl rfl, ix_of (nn hk) (by omega), rg_of (nn h2) rfl rfl⟩)))
  · have e0 : nI 2 = 2 := rfl
    simp (decide := true) only [e0, reduceIte, show st_MEND_LEAST 2 = 0 from rfl, show st_MEND_MOST 2 = 99 from rfl]
    exact ok_sw (ok_r _ h) (fun h2 hk => core 2 (Or.inr (Or.inl ⟨Or.inr rfl, ix_of (nn hk) (by omega), rg_of (nn h2) rfl rfl⟩)))
  · have e0 : nI 3 = 3 := rfl
    simp (decide := true) only [e0, reduceIte, show st_MEND_LEAST 3 = 1 from rfl, show st_MEND_MOST 3 = 200 from rfl]
    exact ok_sw (ok_r _ h) (fun h2 hk => core 3 (Or.inr (Or.inr (Or.inl ⟨rfl, ix_of (nn hk) (by omega), rg_of (nn h2) rfl rfl⟩))))
  · have e0 : nI 4 = 4 := rfl
    simp (decide := true) only [e0, reduceIte, show st_MEND_LEAST 4 = 0 from rfl, show st_MEND_MOST 4 = 99 from rfl]
    exact ok_sw (ok_r _ h) (fun h2 hk => core 4 (Or.inr (Or.inr (Or.inr ⟨rfl, ix_of (nn hk) (by omega), rg_of (nn h2) rfl rfl⟩))))
end OPS7
