variable {S T S0 T0 S' T' : St} {t p : Nat}
/-! the text becomes the office's -/
theorem q_become {w n : Nat} (hw : w < 2) (hn : n ≤ 128) : ∃ S', f_X8_become w (nI n) S = some S' ∧ S'.1 (40 + 4 * w) 3 = nI n ∧ S'.1 (40 + 4 * w) 4 = 1 ∧ (∀ i, i < n → S'.1 (40 + 4 * w + 1) i = S.1 20 i) ∧ (∀ a, a ≠ 40 + 4 * w → a ≠ 40 + 4 * w + 1 → S'.1 a = S.1 a) ∧ S'.2 = S.2 := by
  obtain ⟨r, w1, k, w2, w3, w4, w5, w6⟩ := wl_for (g_X8_become_7 w (nI n)) (fun i (κ : St) => (nI i, κ)) (fun i κ => κ.1 (40 + 4 * w) 3 = nI i ∧ (∀ j, j < i → κ.1 (40 + 4 * w + 1) j = S.1 20 j) ∧ (∀ a, a ≠ 40 + 4 * w → a ≠ 40 + 4 * w + 1 → κ.1 a = S.1 a) ∧ κ.2 = S.2) n (fun r => ∃ k : St, r = k ∧ k.1 (40 + 4 * w) 3 = nI n ∧ (∀ j, j < n → k.1 (40 + 4 * w + 1) j = S.1 20 j) ∧ (∀ a, a ≠ 40 + 4 * w → a ≠ 40 + 4 * w + 1 → k.1 a = S.1 a) ∧ k.2 = S.2)
    (fun i κ hi hI => by
      obtain ⟨i1, i2, i3, i4⟩ := hI
      refine ⟨u1 (u1 κ (40 + 4 * w + 1) i (S.1 20 i)) (40 + 4 * w) 3 (nI (i + 1)), ?_, ?_, fun j hj => ?_, fun a h1 h2 => ?_, i4⟩
      · show b_X8_become_7 w (nI n) (nI i) κ = _
        unfold b_X8_become_7
        rw [if_neg (nI_ge hi (by omega)), if_neg (show ¬ (128 : Int32) ≤ nI i from nI_ge (b := 128) (by omega) (by omega)), if_neg (show ¬ (128 : Int32) ≤ nI i from nI_ge (b := 128) (by omega) (by omega)), zb_an _ (by omega) (by omega), zb_an _ (by omega) (by omega), cl_n (by omega), i3 20 (by omega) (by omega), zb_l, ne_u1 _ _ _ (show 40 + 4 * w ≠ 40 + 4 * w + 1 by omega), i1]
        show some (Sum.inl (nI i + 1, u1 (u1 κ (40 + 4 * w + 1) i (S.1 20 i)) (40 + 4 * w) 3 (nI i + 1))) = _
        rw [nI_1]
      · rw [rd_1, if_pos rfl, if_pos rfl]
      · rw [ne_u1 _ _ _ (by omega), rd_1, if_pos rfl]
        split
        · rename_i e; rw [e]
        · exact i2 j (by omega)
      · rw [ne_u1 _ _ _ h1, ne_u1 _ _ _ h2]; exact i3 a h1 h2)
    (fun κ hI => ⟨κ, by
      show b_X8_become_7 w (nI n) (nI n) κ = _
      unfold b_X8_become_7
      rw [if_pos (nI_le (Nat.le_refl _) (by omega))], κ, rfl, hI.1, hI.2.1, hI.2.2.1, hI.2.2.2⟩)
    FU 0 (u1 S (40 + 4 * w) 3 0) (by omega) ⟨by rw [rd_1, if_pos rfl, if_pos rfl]; rfl, fun j hj => by omega, fun a h1 _ => by rw [ne_u1 _ _ _ h1], rfl⟩ (FU_lt (by omega) 0)
  subst w2
  refine ⟨u1 r (40 + 4 * w) 4 1, ?_, by rw [rd_1, if_pos rfl, if_neg (by decide)]; exact w3, by rw [rd_1, if_pos rfl, if_pos rfl], fun i hi => by rw [ne_u1 _ _ _ (by omega)]; exact w4 i hi, fun a h1 h2 => by rw [ne_u1 _ _ _ h1]; exact w5 a h1 h2, w6⟩
  unfold f_X8_become
  rw [zb_l, show ((0 : Int32), u1 S (40 + 4 * w) 3 0) = (nI 0, u1 S (40 + 4 * w) 3 0) from rfl, w1, zb_s]
  rfl
theorem p_copy1 {w : Nat} (hw : w < 2) : ∃ T', jx_w (g_X12_law_44 (nI w)) FU (0, T) = some T' ∧ (∀ j, j < 64 → T'.1 14 (64 * w + j) = T.1 14 (128 + j) ∧ T'.1 15 (64 * w + j) = T.1 15 (128 + j) ∧ T'.1 16 (64 * w + j) = T.1 16 (128 + j)) ∧ (∀ j, j < 64 * w ∨ 64 * w + 64 ≤ j → T'.1 14 j = T.1 14 j ∧ T'.1 15 j = T.1 15 j ∧ T'.1 16 j = T.1 16 j) ∧ (∀ a, a ≠ 14 → a ≠ 15 → a ≠ 16 → T'.1 a = T.1 a) ∧ T'.2 = T.2 := by
  obtain ⟨r, w1, k, w2, w3, w4, w5, w6⟩ := wl_for (g_X12_law_44 (nI w)) (fun i (κ : St) => (nI i, κ)) (fun i κ => (∀ j, j < i → κ.1 14 (64 * w + j) = T.1 14 (128 + j) ∧ κ.1 15 (64 * w + j) = T.1 15 (128 + j) ∧ κ.1 16 (64 * w + j) = T.1 16 (128 + j)) ∧ (∀ j, j < 64 * w ∨ 64 * w + 64 ≤ j → κ.1 14 j = T.1 14 j ∧ κ.1 15 j = T.1 15 j ∧ κ.1 16 j = T.1 16 j) ∧ (∀ a, a ≠ 14 → a ≠ 15 → a ≠ 16 → κ.1 a = T.1 a) ∧ κ.2 = T.2) 64 (fun r => ∃ k : St, r = k ∧ (∀ j, j < 64 → k.1 14 (64 * w + j) = T.1 14 (128 + j) ∧ k.1 15 (64 * w + j) = T.1 15 (128 + j) ∧ k.1 16 (64 * w + j) = T.1 16 (128 + j)) ∧ (∀ j, j < 64 * w ∨ 64 * w + 64 ≤ j → k.1 14 j = T.1 14 j ∧ k.1 15 j = T.1 15 j ∧ k.1 16 j = T.1 16 j) ∧ (∀ a, a ≠ 14 → a ≠ 15 → a ≠ 16 → k.1 a = T.1 a) ∧ k.2 = T.2)
    (fun i κ hi hI => by
      obtain ⟨i1, i2, i3, i4⟩ := hI
      obtain ⟨s1, s2, s3⟩ := i2 (128 + i) (by omega)
      refine ⟨u1 (u1 (u1 κ 14 (64 * w + i) (T.1 14 (128 + i))) 15 (64 * w + i) (T.1 15 (128 + i))) 16 (64 * w + i) (T.1 16 (128 + i)), ?_, fun j hj => ?_, fun j hj => ?_, fun a h1 h2 h3 => ?_, i4⟩
      · show b_X12_law_44 (nI w) (nI i) κ = _
        unfold b_X12_law_44
        rw [if_neg (show ¬ (64 : Int32) ≤ nI i from nI_ge (b := 64) (by omega) (by omega)), show (128 : Int32) + nI i = nI (128 + i) from nI_add 128 i, show (64 : Int32) * nI w + nI i = nI (64 * w + i) by rw [show (64 : Int32) * nI w = nI (64 * w) from pk_mul 64 w, nI_add]]
        simp (disch := omega) only [zb_an, cl_n, zb_l, nI_1]
        rw [s1, ne_u1 κ (64 * w + i) _ (show (15 : Nat) ≠ 14 by decide), s2, ne_u1 (u1 κ 14 (64 * w + i) (T.1 14 (128 + i))) (64 * w + i) _ (show (16 : Nat) ≠ 15 by decide), ne_u1 κ (64 * w + i) _ (show (16 : Nat) ≠ 14 by decide), s3]
      · simp only [rd_1, reduceIte, Nat.reduceEqDiff]
        by_cases e : j = i
        · rw [if_pos (by omega), if_pos (by omega), if_pos (by omega), e]; exact ⟨rfl, rfl, rfl⟩
        · rw [if_neg (by omega), if_neg (by omega), if_neg (by omega)]; exact i1 j (by omega)
      · simp only [rd_1, reduceIte, Nat.reduceEqDiff]
        rw [if_neg (by omega), if_neg (by omega), if_neg (by omega)]; exact i2 j hj
      · rw [ne_u1 _ _ _ h3, ne_u1 _ _ _ h2, ne_u1 _ _ _ h1]; exact i3 a h1 h2 h3)
    (fun κ hI => ⟨κ, by
      show b_X12_law_44 (nI w) (nI 64) κ = _
      unfold b_X12_law_44
      rw [if_pos (by decide)], κ, rfl, hI.1, hI.2.1, hI.2.2.1, hI.2.2.2⟩)
    FU 0 T (by omega) ⟨fun j hj => by omega, fun _ _ => ⟨rfl, rfl, rfl⟩, fun _ _ _ _ => rfl, rfl⟩ (FU_lt (by omega) 0)
  subst w2
  exact ⟨r, w1, w3, w4, w5, w6⟩
theorem p_copy2 {w : Nat} (hw : w < 2) : ∃ T', jx_w (g_X12_law_121 (nI w)) FU (0, T) = some T' ∧ (∀ j, j < 128 → T'.1 17 (128 * w + j) = T.1 17 (256 + j)) ∧ (∀ j, j < 128 * w ∨ 128 * w + 128 ≤ j → T'.1 17 j = T.1 17 j) ∧ (∀ a, a ≠ 17 → T'.1 a = T.1 a) ∧ T'.2 = T.2 := by
  obtain ⟨r, w1, k, w2, w3, w4, w5, w6⟩ := wl_for (g_X12_law_121 (nI w)) (fun i (κ : St) => (nI i, κ)) (fun i κ => (∀ j, j < i → κ.1 17 (128 * w + j) = T.1 17 (256 + j)) ∧ (∀ j, j < 128 * w ∨ 128 * w + 128 ≤ j → κ.1 17 j = T.1 17 j) ∧ (∀ a, a ≠ 17 → κ.1 a = T.1 a) ∧ κ.2 = T.2) 128 (fun r => ∃ k : St, r = k ∧ (∀ j, j < 128 → k.1 17 (128 * w + j) = T.1 17 (256 + j)) ∧ (∀ j, j < 128 * w ∨ 128 * w + 128 ≤ j → k.1 17 j = T.1 17 j) ∧ (∀ a, a ≠ 17 → k.1 a = T.1 a) ∧ k.2 = T.2)
    (fun i κ hi hI => by
      obtain ⟨i1, i2, i3, i4⟩ := hI
      have s1 := i2 (256 + i) (by omega)
      refine ⟨u1 κ 17 (128 * w + i) (T.1 17 (256 + i)), ?_, fun j hj => ?_, fun j hj => ?_, fun a h1 => ?_, i4⟩
      · show b_X12_law_121 (nI w) (nI i) κ = _
        unfold b_X12_law_121
        rw [if_neg (show ¬ (128 : Int32) ≤ nI i from nI_ge (b := 128) (by omega) (by omega)), show (256 : Int32) + nI i = nI (256 + i) from nI_add 256 i, show (128 : Int32) * nI w + nI i = nI (128 * w + i) by rw [show (128 : Int32) * nI w = nI (128 * w) from pk_mul 128 w, nI_add]]
        simp (disch := omega) only [zb_an, cl_n, zb_l, nI_1]
        rw [s1]
      · simp only [rd_1, reduceIte]
        by_cases e : j = i
        · rw [if_pos (by omega), e]
        · rw [if_neg (by omega)]; exact i1 j (by omega)
      · simp only [rd_1, reduceIte]
        rw [if_neg (by omega)]; exact i2 j hj
      · rw [ne_u1 _ _ _ h1]; exact i3 a h1)
    (fun κ hI => ⟨κ, by
      show b_X12_law_121 (nI w) (nI 128) κ = _
      unfold b_X12_law_121
      rw [if_pos (by decide)], κ, rfl, hI.1, hI.2.1, hI.2.2.1, hI.2.2.2⟩)
    FU 0 T (by omega) ⟨fun j hj => by omega, fun _ _ => rfl, fun _ _ => rfl, rfl⟩ (FU_lt (by omega) 0)
  subst w2
  exact ⟨r, w1, w3, w4, w5, w6⟩
theorem LM_shift {w : Nat} (h1 : ∀ j, j < 64 → T'.1 14 (64 * w + j) = T.1 14 (128 + j) ∧ T'.1 15 (64 * w + j) = T.1 15 (128 + j) ∧ T'.1 16 (64 * w + j) = T.1 16 (128 + j)) (h2 : ∀ j, j < 128 → T'.1 17 (128 * w + j) = T.1 17 (256 + j)) : ∀ {L : Lns} {k o : Nat}, k + L.length ≤ 64 → o + szM L ≤ 128 → LM T 2 k o L → LM T' w k o L
  | [], _, _, _, _, _ => trivial
  | l :: r, k, o, hk, ho, h => by
    have e : szM (l :: r) = l.1.length + l.2.length + szM r := rfl
    rw [e] at ho
    rw [List.length_cons] at hk
    obtain ⟨a1, a2, a3, a4, a5, a6⟩ := h
    obtain ⟨b1, b2, b3⟩ := h1 k (by omega)
    have key : ∀ (c : List Nat) (q : Nat), q + c.length ≤ 128 → cdA (T.1 17) (128 * 2 + q) c → cdA (T'.1 17) (128 * w + q) c := fun c => by
      induction c with
      | nil => exact fun _ _ _ => trivial
      | cons x c ih =>
        intro q hq hc
        rw [List.length_cons] at hq
        exact ⟨by rw [h2 q (by omega)]; exact hc.1, ih (q + 1) (by omega) hc.2⟩
    exact ⟨by rw [b1]; exact a1, by rw [b2]; exact a2, by rw [b3]; exact a3, key _ _ (by rw [List.length_map]; omega) a4, key _ _ (by rw [List.length_map]; omega) a5, LM_shift h1 h2 (by omega) (by omega) a6⟩
theorem RR_core (h : RR RxC S T) (fS : ∀ a, a ∉ [18, 20, 40, 41, 44, 45] → S'.1 a = S.1 a) (sp : Rp p S' T') (s2 : S'.2 = S.2) (fT : ∀ a, a ∉ [0, 13, 14, 15, 16, 17, 18, 19] → T'.1 a = T.1 a) (fT0 : ∀ j, j ∉ [18, 27, 28, 30, 31, 33] → T'.1 0 j = T.1 0 j) (t2 : T'.2 = T.2) (hx0 : RxC 0 S' T') (hx1 : RxC 1 S' T') : RR RxC S' T' := by
  obtain ⟨n, m, t, c, e, d, hs, ht, hm, hp, hch, hi, hd, hh, -, -⟩ := h
  refine ⟨n, m, p, c, e, d, ?_, ?_, ?_, sp, ?_, ?_, ?_, ?_, hx0, hx1⟩
  · unfold Rs
    rw [fS 1 (by decide), fS 2 (by decide), fS 3 (by decide), fS 4 (by decide), fS 5 (by decide), fS 6 (by decide), fT 1 (by decide), fT 2 (by decide), fT 3 (by decide), fT 4 (by decide), fT 5 (by decide), fT0 0 (by decide)]
    exact hs
  · unfold Rt
    rw [fS 7 (by decide), fS 8 (by decide), fS 9 (by decide), fS 10 (by decide), fS 11 (by decide), fT 6 (by decide), fT 7 (by decide), fT 8 (by decide), fT 9 (by decide), fT0 6 (by decide)]
    exact ht
  · unfold Rm
    rw [fS 38 (by decide), fS 39 (by decide), fS 21 (by decide), fT 10 (by decide), fT0 12 (by decide), fT0 13 (by decide), fT0 14 (by decide), fT0 15 (by decide), fT0 16 (by decide)]
    exact hm
  · unfold Rc
    rw [fS 25 (by decide), fS 26 (by decide), fS 27 (by decide), fS 28 (by decide), fS 29 (by decide), fT 12 (by decide), fT0 20 (by decide), fT0 21 (by decide)]
    exact hch
  · unfold Ri
    rw [fS 30 (by decide), fS 31 (by decide), fS 32 (by decide), fS 33 (by decide), fT 26 (by decide), fT 27 (by decide), fT 28 (by decide), fT0 42 (by decide), fT0 43 (by decide), fT0 44 (by decide)]
    exact hi
  · unfold Rd
    rw [fS 34 (by decide), fS 35 (by decide), fS 36 (by decide), fT 29 (by decide), fT 30 (by decide), fT0 48 (by decide), fT0 50 (by decide)]
    exact hd
  · intro x hx
    have := hh x hx
    rw [fT 31 (by decide), fT 32 (by decide), t2, s2, fS (48 + 2 * x) (by simp; omega)]
    exact this
theorem TX_other {w : Nat} {L : Lns} (hL : TX w L S T) (h0 : S'.1 (40 + 4 * w) = S.1 (40 + 4 * w)) (h1 : S'.1 (40 + 4 * w + 1) = S.1 (40 + 4 * w + 1)) (h3 : S'.1 (40 + 4 * w + 3) = S.1 (40 + 4 * w + 3)) (t13 : T'.1 13 w = T.1 13 w) (tL : ∀ a j, a = 14 ∨ a = 15 ∨ a = 16 → 64 * w ≤ j → j < 64 * w + 64 → T'.1 a j = T.1 a j) (t17 : ∀ j, 128 * w ≤ j → j < 128 * w + 128 → T'.1 17 j = T.1 17 j) : TX w L S' T' := by
  obtain ⟨a1, a2, a3, a4, a5, a6, a7, a8, a9⟩ := hL
  have hfl := flat_len L
  exact ⟨by rw [h0]; exact a1, by rw [h0]; exact a2, a3, a4, by rw [h1]; exact a5, by rw [t13]; exact a6, LM_agree (fun a i ha i1 i2 => tL a i ha (by omega) (by omega)) (fun i i1 i2 => t17 i (by omega) (by omega)) a7, a8, by rw [h3]; exact a9⟩
theorem Rp_zero (hS : S'.1 18 2 = 0) (hT : T'.1 0 18 = 0) : Rp 0 S' T' := ⟨by omega, hS, hT, fun i hi => absurd hi (by omega)⟩
theorem law_ok {w : Nat} {L : Lns} {S5 T7 : St} (hw : w < 2) (h : RR RxC S T) (xe : XE S S5) (mt : MT T T7) (a1 : S5.1 18 3 = nI (flat L).length) (a2 : cdA (S5.1 20) 0 (flat L)) (a3 : (flat L).length ≤ 121) (a4 : L.length ≤ 61) (a5 : L ≠ []) (a6 : LM T7 2 0 0 L) (a7 : T7.1 13 2 = nI L.length) (a8 : WFl L) : OK RxC (f_X11_law_46 w S5) (jx_b (jx_w (g_X12_law_44 (nI w)) FU ((0 : Int32), u1 (u1 T7 0 18 0) 13 w (nI L.length))) (fun z => f_X12_law_119 (nI w) z)) := by
  obtain ⟨n, m, t, c, e, d, hs, ht, hm, hp, hch, hi, hd, hh, hx0, hx1⟩ := id h
  obtain ⟨xe1, xe2, xe3⟩ := xe
  obtain ⟨m1, m2, m3, m4, m5, m6⟩ := mt
  have hfl := flat_len L
  obtain ⟨S6, b1, b2, b3, b4, b5, b6⟩ := q_become (S := S5) (n := (flat L).length) hw (by omega)
  obtain ⟨T8, e8⟩ : ∃ T8, T8 = u1 (u1 T7 0 18 0) 13 w (nI L.length) := ⟨_, rfl⟩
  rw [← e8]
  have n13 : ∀ a, a ≠ 0 → a ≠ 13 → T8.1 a = T7.1 a := fun a h0 h13 => by rw [e8, ne_u1 _ _ _ h13, ne_u1 _ _ _ h0]
  obtain ⟨T9, c1, c2, c3, c4, c5⟩ := p_copy1 (T := T8) hw
  obtain ⟨T10, d1, d2, d3, d4, d5⟩ := p_copy2 (T := T9) hw
  unfold f_X11_law_46 f_X12_law_119 f_X12_law_156
  rw [a1, b1, zb_s, c1, zb_s, d1, zb_s]
  have g13 : T10.1 13 = T8.1 13 := by rw [d4 13 (by decide), c4 13 (by decide) (by decide) (by decide)]
  have g0 : T10.1 0 = T8.1 0 := by rw [d4 0 (by decide), c4 0 (by decide) (by decide) (by decide)]
  have lm : LM T10 w 0 0 L := by
    refine LM_shift (fun j hj => ?_) (fun j hj => ?_) (by omega) (by omega) a6
    · rw [d4 14 (by decide), d4 15 (by decide), d4 16 (by decide)]
      have := c2 j hj
      rw [n13 14 (by decide) (by decide), n13 15 (by decide) (by decide), n13 16 (by decide) (by decide)] at this
      exact this
    · rw [d2 j hj, c4 17 (by decide) (by decide) (by decide), n13 17 (by decide) (by decide)]
  have cd : cdA (S6.1 (40 + 4 * w + 1)) 0 (flat L) := cdA_congr (fun i _ i2 => b4 i (by omega)) a2
  have sx : ∀ a, a ≠ 18 → a ≠ 20 → a ≠ 40 + 4 * w → a ≠ 40 + 4 * w + 1 → S6.1 a = S.1 a := fun a h1 h2 h3 h4 => by rw [b5 a h3 h4, xe1 a h1 h2]
  have nw : TX w L S6 T10 := by
    obtain ⟨L0, hL0⟩ : ∃ L0, TX w L0 S T := by
      have : w = 0 ∨ w = 1 := by omega
      rcases this with q | q <;> subst q
      · exact hx0 (by omega)
      · exact hx1 (by omega)
    refine ⟨by rw [b3, if_neg a5], b2, by omega, by omega, cd, by rw [g13, e8, rd_1, if_pos rfl, if_pos rfl], lm, a8, ?_⟩
    rw [sx (40 + 4 * w + 3) (by omega) (by omega) (by omega) (by omega)]
    exact hL0.2.2.2.2.2.2.2.2
  have ot : ∀ v L1, v < 2 → v ≠ w → TX v L1 S T → TX v L1 S6 T10 := fun v L1 hv hvw hL1 => by
    refine TX_other hL1 (sx _ (by omega) (by omega) (by omega) (by omega)) (sx _ (by omega) (by omega) (by omega) (by omega)) (sx _ (by omega) (by omega) (by omega) (by omega)) ?_ (fun a j ha j1 j2 => ?_) (fun j j1 j2 => ?_)
    · rw [g13, e8, rd_1, if_pos rfl, if_neg hvw, ne_u1 _ _ _ (by decide)]
      exact m3 v hv
    · have k1 := c3 j (by omega)
      rw [n13 14 (by decide) (by decide), n13 15 (by decide) (by decide), n13 16 (by decide) (by decide)] at k1
      have k2 := m4 j (by omega)
      rw [d4 a (by omega)]
      rcases ha with q | q | q <;> subst q
      · rw [k1.1, k2.1]
      · rw [k1.2.1, k2.2.1]
      · rw [k1.2.2, k2.2.2]
    · rw [d3 j (by omega), c4 17 (by decide) (by decide) (by decide), n13 17 (by decide) (by decide)]
      exact m5 j (by omega)
  have hR : RxC 0 S6 T10 ∧ RxC 1 S6 T10 := by
    obtain ⟨L0, hL0⟩ := hx0 (by omega)
    obtain ⟨L1, hL1⟩ := hx1 (by omega)
    have : w = 0 ∨ w = 1 := by omega
    rcases this with q | q
    · subst q; exact ⟨fun _ => ⟨L, nw⟩, fun _ => ⟨L1, ot 1 L1 (by omega) (by omega) hL1⟩⟩
    · subst q; exact ⟨fun _ => ⟨L0, ot 0 L0 (by omega) (by omega) hL0⟩, fun _ => ⟨L, nw⟩⟩
  refine ok_mk rfl (RR_core (p := 0) h (fun a ha => ?_) (Rp_zero ?_ ?_) ?_ (fun a ha => ?_) (fun j hj => ?_) ?_ hR.1 hR.2)
  · simp only [List.mem_cons, List.not_mem_nil, or_false, not_or] at ha
    exact sx a (by omega) (by omega) (by omega) (by omega)
  · rw [b5 18 (by omega) (by omega)]; exact xe2
  · rw [g0, e8, ne_u1 _ _ _ (by decide), rd_1, if_pos rfl, if_pos rfl]
  · rw [b6, xe3]
  · simp only [List.mem_cons, List.not_mem_nil, or_false, not_or] at ha
    rw [d4 a (by omega), c4 a (by omega) (by omega) (by omega), n13 a (by omega) (by omega)]
    exact m1 a (by omega) (by omega) (by omega) (by omega) (by omega) (by omega) (by omega) (by omega)
  · rw [g0, e8, ne_u1 _ _ _ (by decide), rd_1, if_pos rfl, if_neg (fun q => hj (by rw [q]; decide))]
    exact m2 j (fun q => hj (List.mem_cons_of_mem _ q))
  · rw [d5, c5, e8]; exact m6
theorem op_law (a : Int32) (h : RR RxC S T) : OK RxC (f_X11_law a S) (f_X12_law a T) := by
  obtain ⟨n, m, t, c, e, d, hs, ht, hm, hp, hch, hi, hd, hh, hx0, hx1⟩ := id h
  unfold f_X11_law f_X12_law
  simp only [q_within, p_in, zb_2, ite01]
  refine ok_if Iff.rfl (fun _ => ok_r _ h) (fun h1 => ?_)
  obtain ⟨w, w1, w2, rfl⟩ := ix_lit (k := 1) (by omega) rfl (nn h1)
  rcases qp_parse hp with ⟨f, S5, T7, e1, e2, e3, e4, e5⟩ | ⟨L, S5, T7, e1, e2, e3, e4, a1, a2, a3, a4, a5, a6, a7, a8⟩
  · rw [e1, e4, zb_2, zb_2, zb_l, if_neg (nI_pos (by omega)), if_neg (nI_pos (by omega))]
    obtain ⟨x1, x2, x3⟩ := e3
    obtain ⟨m1, m2, m3, m4, m5, m6⟩ := e5
    have hR : ∀ v L1, v < 2 → TX v L1 S T → TX v L1 S5 (u1 T7 0 18 0) := fun v L1 hv hL1 => by
      refine TX_other hL1 (x1 _ (by omega) (by omega)) (x1 _ (by omega) (by omega)) (x1 _ (by omega) (by omega)) ?_ (fun a j ha j1 j2 => ?_) (fun j j1 j2 => ?_)
      · rw [ne_u1 _ _ _ (by decide)]; exact m3 v hv
      · rw [ne_u1 _ _ _ (by omega)]
        have k2 := m4 j (by omega)
        rcases ha with q | q | q <;> subst q
        · exact k2.1
        · exact k2.2.1
        · exact k2.2.2
      · rw [ne_u1 _ _ _ (by decide)]; exact m5 j (by omega)
    obtain ⟨L0, hL0⟩ := hx0 (by omega)
    obtain ⟨L1, hL1⟩ := hx1 (by omega)
    refine ok_mk rfl (RR_core (p := 0) h (fun a ha => ?_) (Rp_zero x2 ?_) x3 (fun a ha => ?_) (fun j hj => ?_) m6 (fun _ => ⟨L0, hR 0 L0 (by omega) hL0⟩) (fun _ => ⟨L1, hR 1 L1 (by omega) hL1⟩))
    · simp only [List.mem_cons, List.not_mem_nil, or_false, not_or] at ha
      exact x1 a (by omega) (by omega)
    · rw [rd_1, if_pos rfl, if_pos rfl]
    · simp only [List.mem_cons, List.not_mem_nil, or_false, not_or] at ha
      rw [ne_u1 _ _ _ (by omega)]
      exact m1 a (by omega) (by omega) (by omega) (by omega) (by omega) (by omega) (by omega) (by omega)
    · rw [rd_1, if_pos rfl, if_neg (fun q => hj (by rw [q]; decide))]
      exact m2 j (fun q => hj (List.mem_cons_of_mem _ q))
  · have z23 : ∀ {β : Type} (k : Option β), jx_a (2 : Int32) 3 k = k := fun k => zb_an (j := 2) k (by omega) (by omega)
    rw [e1, e2, zb_2, zb_2, zb_l, if_pos (show (-1 : Int32) < 0 by decide), if_pos (show (-1 : Int32) < 0 by decide), z23, zb_an _ (by omega) (by omega), cl_n (by omega), show Int32.toNatClampNeg (2 : Int32) = 2 from rfl, show (u1 T7 0 18 0).1 13 2 = nI L.length by rw [ne_u1 _ _ _ (by decide)]; exact a7, zb_l]
    have key := law_ok (w := w) (by omega) h e3 e4 a1 a2 a3 a4 a5 a6 a7 a8
    have : w = 0 ∨ w = 1 := by omega
    rcases this with q | q
    · subst q; rw [if_pos (show nI 0 = 0 from rfl)]; exact key
    · subst q; rw [if_neg (show ¬ nI 1 = 0 by decide)]; exact key
