section OPS4
variable {Rx : Nat → St → St → Prop} {S T : St}
/-- a row is filled place by place -/
theorem lp_fill {g : (Int32 × St) → Option ((Int32 × St) ⊕ St)} {k e : Nat} (v : Nat → Int32) (S : St) (he : e < 1000) (hs : ∀ (i : Nat) (S' : St), i < e → Sm [k] S S' → g (nI i, S') = some (.inl (nI (i + 1), u1 S' k i (v i)))) (hx : ∀ S' : St, Sm [k] S S' → g (nI e, S') = some (.inr S')) : ∃ S', jx_w g FU (nI 0, S) = some S' ∧ Sm [k] S S' ∧ ∀ i, S'.1 k i = if i < e then v i else S.1 k i := by
  obtain ⟨r, h1, h2⟩ := wl_for g (fun i S => (nI i, S)) (fun j S' => Sm [k] S S' ∧ ∀ i, S'.1 k i = if i < j then v i else S.1 k i) e (fun S' => Sm [k] S S' ∧ ∀ i, S'.1 k i = if i < e then v i else S.1 k i)
    (fun i S' hi hI => ⟨_, hs i S' hi hI.1, Sm_u1 hI.1 (List.mem_singleton.mpr rfl), fun j => by
      rw [rd_1, if_pos rfl, hI.2 j]
      by_cases hj : j = i
      · subst hj; rw [if_pos rfl, if_pos (by omega)]
      · rw [if_neg hj]
        by_cases hl : j < i
        · rw [if_pos hl, if_pos (by omega)]
        · rw [if_neg hl, if_neg (by omega)]⟩)
    (fun S' hI => ⟨_, hx S' hI.1, hI⟩) FU 0 S (by omega) ⟨Sm_rf, fun i => by rw [if_neg (by omega)]⟩ (FU_lt (by omega) 0)
  exact ⟨r, h1, h2⟩
theorem ble_ge {a b : Nat} (h : b ≤ a) (ha : a < 2 ^ 31) : nI b ≤ nI a := nI_le h ha
theorem q_restore {n m a b : Nat} (hn : n ≤ 8) (hm : m ≤ 10) (hS : S.1 1 5 = nI n) (hS9 : S.1 7 4 = nI m) (ha : a ≤ n) (hb : b ≤ m) (h3 : S.1 30 3 = nI a) (h4 : S.1 30 4 = nI b) : ∃ S', f_X4_restore S = some S' ∧ Sm [6, 11, 39] S S' ∧ (∀ i, i < n → S'.1 6 i = if i < a then S.1 31 i else 0) ∧ (∀ i, S'.1 11 i = if i < b then S.1 32 i else S.1 11 i) ∧ (∀ i, i < 3 → S'.1 39 i = S.1 33 i) := by
  unfold f_X4_restore
  obtain ⟨S1, e1, m1, v1⟩ := lp_fill (g := g_X4_restore_3) (k := 6) (e := n) (fun i => if i < a then S.1 31 i else 0) S (by omega) (fun i S' hi hI => by
    unfold g_X4_restore_3 b_X4_restore_3 f_X4_restore_38i3
    rw [hI.1 1 (by decide), hI.1 30 (by decide), hI.1 31 (by decide), hS, h3]
    rw [if_neg (nI_ge hi (by omega))]
    by_cases hia : i < a
    · rw [if_neg (nI_ge hia (by omega)), zb_an _ (by omega) (by omega), zb_an _ (by omega) (by omega), zb_l, zb_l, cl_n (by omega), nI_1, if_pos hia]
    · rw [if_pos (nI_le (by omega) (by omega)), zb_an _ (by omega) (by omega), zb_l, zb_l, cl_n (by omega), nI_1, if_neg hia]) (fun S' hI => by
    unfold g_X4_restore_3 b_X4_restore_3
    rw [hI.1 1 (by decide), hS, if_pos (nI_le (Nat.le_refl n) (by omega))])
  rw [show ((0 : Int32), S) = (nI 0, S) from rfl, e1, zb_s]
  unfold f_X4_restore_45
  obtain ⟨S2, e2, m2, v2⟩ := lp_fill (g := g_X4_restore_48) (k := 11) (e := b) (fun i => S.1 32 i) S1 (by omega) (fun i S' hi hI => by
    unfold g_X4_restore_48 b_X4_restore_48
    rw [hI.1 7 (by decide), hI.1 30 (by decide), hI.1 32 (by decide), m1.1 7 (by decide), m1.1 30 (by decide), m1.1 32 (by decide), hS9, h4]
    rw [if_neg (nI_ge (by omega) (by omega)), if_neg (nI_ge hi (by omega)), zb_an _ (by omega) (by omega), zb_an _ (by omega) (by omega), zb_l, zb_l, cl_n (by omega), nI_1]) (fun S' hI => by
    unfold g_X4_restore_48 b_X4_restore_48
    rw [hI.1 7 (by decide), hI.1 30 (by decide), m1.1 7 (by decide), m1.1 30 (by decide), hS9, h4]
    by_cases hbm : m ≤ b
    · rw [if_pos (nI_le hbm (by omega))]
    · rw [if_neg (nI_ge (by omega) (by omega)), if_pos (nI_le (Nat.le_refl b) (by omega))])
  rw [show ((0 : Int32), S1) = (nI 0, S1) from rfl, e2, zb_s]
  unfold f_X4_restore_86
  rw [zb_c _ (by decide), zb_l]
  have w : ∀ k, k ∉ [6, 11] → S2.1 k = S.1 k := fun k hk => (m2.1 k (by simp at hk ⊢; omega)).trans (m1.1 k (by simp at hk ⊢; omega))
  refine ⟨_, rfl, ⟨fun k hk => ?_, ?_⟩, fun i hi => ?_, fun i => ?_, fun i hi => ?_⟩
  · rw [rd_s1, if_neg (by simp at hk; omega)]; exact w k (by simp at hk ⊢; omega)
  · show S2.2 = S.2
    rw [m2.2, m1.2]
  · rw [rd_s1, if_neg (by decide), m2.1 6 (by decide), v1 i, if_pos hi]
  · rw [rd_s1, if_neg (by decide), v2 i, m1.1 11 (by decide)]
  · rw [rd_s1, if_pos rfl, pk_cpy_in (by show 0 ≤ i; omega) (by show i < 0 + 3; omega)]
    show S2.1 33 (0 + (i - 0)) = _
    rw [Nat.zero_add, Nat.sub_zero, w 33 (by decide)]
theorem p_back {n m a b : Nat} (hn : n ≤ 8) (hm : m ≤ 10) (hT : T.1 0 0 = nI n) (ha : a ≤ n) (hb : b ≤ m) (h0 : ¬ T.1 0 42 = 0) (h3 : T.1 0 43 = nI a) (h4 : T.1 0 44 = nI b) : ∃ T', f_X12_back T = some (nI n, T') ∧ (∀ k, k ∉ [0, 5, 9] → T'.1 k = T.1 k) ∧ T'.2 = T.2 ∧ (∀ j, j < 14 ∨ 16 < j → T'.1 0 j = T.1 0 j) ∧ T'.1 0 14 = T.1 28 0 ∧ T'.1 0 15 = T.1 28 1 ∧ T'.1 0 16 = T.1 28 2 ∧ (∀ i, i < 8 → T'.1 5 i = if i < a then T.1 26 i else 0) ∧ (∀ i, T'.1 9 i = if i < b then T.1 27 i else T.1 9 i) := by
  unfold f_X12_back
  rw [if_neg h0]
  obtain ⟨T1, e1, m1, v1⟩ := lp_fill (g := g_X12_back_12) (k := 5) (e := 8) (fun i => if i < a then T.1 26 i else 0) T (by omega) (fun i S' hi hI => by
    unfold g_X12_back_12 b_X12_back_12 f_X12_back_41i12
    rw [hI.1 0 (by decide), hI.1 26 (by decide), h3]
    rw [if_neg (by exact nI_ge (b := 8) hi (by omega))]
    by_cases hia : i < a
    · rw [if_neg (nI_ge hia (by omega)), zb_an _ (by omega) (by omega), zb_an _ (by omega) (by omega), zb_l, zb_l, cl_n (by omega), nI_1, if_pos hia]
    · rw [if_pos (nI_le (by omega) (by omega)), zb_an _ (by omega) (by omega), zb_l, zb_l, cl_n (by omega), nI_1, if_neg hia]) (fun S' hI => by
    unfold g_X12_back_12 b_X12_back_12
    rw [if_pos (by show (8 : Int32) ≤ nI 8; decide)])
  rw [show ((0 : Int32), T) = (nI 0, T) from rfl, e1, zb_s]
  unfold f_X12_back_48
  obtain ⟨T2, e2, m2, v2⟩ := lp_fill (g := g_X12_back_50) (k := 9) (e := b) (fun i => T.1 27 i) T1 (by omega) (fun i S' hi hI => by
    unfold g_X12_back_50 b_X12_back_50
    rw [hI.1 0 (by decide), hI.1 27 (by decide), m1.1 0 (by decide), m1.1 27 (by decide), h4]
    rw [if_neg (nI_ge hi (by omega)), zb_an _ (by omega) (by omega), zb_an _ (by omega) (by omega), zb_l, zb_l, cl_n (by omega), nI_1]) (fun S' hI => by
    unfold g_X12_back_50 b_X12_back_50
    rw [hI.1 0 (by decide), m1.1 0 (by decide), h4, if_pos (nI_le (Nat.le_refl b) (by omega))])
  rw [show ((0 : Int32), T1) = (nI 0, T1) from rfl, e2, zb_s]
  unfold f_X12_back_76
  rw [zb_a _ (by decide), zb_l, zb_a _ (by decide), zb_l, zb_a _ (by decide), zb_l]
  have w : ∀ k, k ∉ [5, 9] → T2.1 k = T.1 k := fun k hk => (m2.1 k (by simp at hk ⊢; omega)).trans (m1.1 k (by simp at hk ⊢; omega))
  have c0 : Int32.toNatClampNeg (0 : Int32) = 0 := rfl
  have c1 : Int32.toNatClampNeg (1 : Int32) = 1 := rfl
  have c2 : Int32.toNatClampNeg (2 : Int32) = 2 := rfl
  have w0 : T2.1 0 = T.1 0 := w 0 (by decide)
  refine ⟨_, by simp only [rd_1, reduceIte, Nat.reduceEqDiff, w0, hT]; rfl, fun k hk => ?_, ?_, fun j hj => ?_, ?_, ?_, ?_, fun i hi => ?_, fun i => ?_⟩
  · simp only [List.mem_cons, List.not_mem_nil, or_false, not_or] at hk
    rw [ne_u1 _ _ _ hk.1, ne_u1 _ _ _ hk.1, ne_u1 _ _ _ hk.1]; exact w k (by simp; omega)
  · show T2.2 = T.2
    rw [m2.2, m1.2]
  · simp only [rd_1, reduceIte, w0]; rw [if_neg (by omega), if_neg (by omega), if_neg (by omega)]
  · simp only [rd_1, reduceIte, Nat.reduceEqDiff, c0, c1, c2]; rw [w 28 (by decide)]
  · simp only [rd_1, reduceIte, Nat.reduceEqDiff, c0, c1, c2]; rw [w 28 (by decide)]
  · simp only [rd_1, reduceIte, Nat.reduceEqDiff, c0, c1, c2]; rw [w 28 (by decide)]
  · simp only [rd_1, reduceIte, Nat.reduceEqDiff]; rw [m2.1 5 (by decide), v1 i, if_pos hi]
  · simp only [rd_1, reduceIte, Nat.reduceEqDiff]; rw [v2 i, m1.1 9 (by decide)]
theorem op_back (hF : Fx Rx) (h : RR Rx S T) : OK Rx (f_X11_back S) (f_X12_back T) := by
  obtain ⟨n, m, t, c, e, d, hs, ht, hm, hp, hch, hi, hd, hh, hx0, hx1⟩ := id h
  obtain ⟨hn, hS, hT, hv⟩ := id hs
  obtain ⟨hn9, hS9, hT9, hv9⟩ := id ht
  rcases id hi with ⟨i1, i2⟩ | ⟨i1, i2, a, b, ha, hb, i3, i4, i5, i6, i7, i8, i9⟩
  · unfold f_X11_back f_X12_back
    rw [if_pos i1, if_pos i2]
    exact ok_r _ h
  · obtain ⟨S', e1, ms, v1, v2, v3⟩ := q_restore hn hn9 hS hS9 ha hb i3 i5
    obtain ⟨T', e2, mt, mt2, w0, w1, w2, w3, w4, w5⟩ := p_back hn hn9 hT ha hb (by rw [i2]; decide) i4 i6
    unfold f_X11_back
    have s1' : ∀ k, k ∉ [6, 11, 39] → S'.1 k = S.1 k := fun k hk => ms.1 k hk
    rw [if_neg (by rw [i1]; decide), e1, zb_s, e2, s1' 1 (by decide), hS]
    refine ok_mk rfl ⟨n, m, t, c, e, d, ?_, ?_, ?_, ?_, ?_, ?_, ?_, ?_, ?_, ?_⟩
    · refine ⟨hn, by rw [s1' 1 (by decide), hS], by rw [w0 0 (by omega), hT], fun i hi1 => ?_⟩
      have q := hv i hi1
      rw [mt 1 (by decide), mt 2 (by decide), mt 3 (by decide), mt 4 (by decide), s1' 2 (by decide), s1' 3 (by decide), s1' 4 (by decide), s1' 5 (by decide), w4 i (by omega), v1 i hi1]
      refine ⟨⟨q.1.1, q.1.2.1, q.1.2.2.1, q.1.2.2.2.1, ?_⟩, q.2.1, q.2.2.1, q.2.2.2.1, q.2.2.2.2.1, ?_⟩
      · by_cases hia : i < a
        · rw [if_pos hia, if_pos hia, (i7 i hia).1]
        · rw [if_neg hia, if_neg hia]
      · by_cases hia : i < a
        · rw [if_pos hia]; exact (i7 i hia).2
        · rw [if_neg hia]; exact ⟨by decide, by decide⟩
    · refine ⟨hn9, by rw [s1' 7 (by decide), hS9], by rw [w0 6 (by omega), hT9], fun i hi1 => ?_⟩
      have q := hv9 i hi1
      rw [mt 6 (by decide), mt 7 (by decide), mt 8 (by decide), s1' 8 (by decide), s1' 9 (by decide), s1' 10 (by decide), w5 i, v2 i]
      refine ⟨⟨q.1.1, q.1.2.1, q.1.2.2.1, ?_⟩, q.2.1, q.2.2.1, q.2.2.2.1, ?_⟩
      · by_cases hib : i < b
        · rw [if_pos hib, if_pos hib, (i8 i hib).1]
        · rw [if_neg hib, if_neg hib, q.1.2.2.2]
      · by_cases hib : i < b
        · rw [if_pos hib]; exact (i8 i hib).2
        · rw [if_neg hib]; exact q.2.2.2.2
    · unfold Rm
      rw [mt 10 (by decide), s1' 38 (by decide), s1' 21 (by decide), w0 12 (by omega), w0 13 (by omega), w1, w2, w3, v3 0 (by omega), v3 1 (by omega), v3 2 (by omega)]
      exact ⟨hm.1, hm.2.1, hm.2.2.1, i9 0 (by omega), i9 1 (by omega), i9 2 (by omega)⟩
    · unfold Rp
      rw [mt 11 (by decide), s1' 18 (by decide), s1' 19 (by decide), w0 18 (by omega)]
      exact hp
    · unfold Rc
      rw [mt 12 (by decide), s1' 25 (by decide), s1' 26 (by decide), s1' 27 (by decide), s1' 28 (by decide), s1' 29 (by decide), w0 20 (by omega), w0 21 (by omega)]
      exact hch
    · unfold Ri
      rw [mt 26 (by decide), mt 27 (by decide), mt 28 (by decide), s1' 30 (by decide), s1' 31 (by decide), s1' 32 (by decide), s1' 33 (by decide), w0 42 (by omega), w0 43 (by omega), w0 44 (by omega)]
      exact hi
    · unfold Rd
      rw [mt 29 (by decide), mt 30 (by decide), s1' 34 (by decide), s1' 35 (by decide), s1' 36 (by decide), w0 48 (by omega), w0 50 (by omega)]
      exact hd
    · exact Rh_keep hh (fun k hk => s1' k (by simp; omega)) ms.2 (mt 31 (by decide)) (mt 32 (by decide)) (by rw [mt2])
    · exact fx_keep hF hx0 (fun k h1 h2 _ => s1' k (by simp; omega)) (fun k h1 h2 => mt k (by simp; omega))
    · exact fx_keep hF hx1 (fun k h1 h2 _ => s1' k (by simp; omega)) (fun k h1 h2 => mt k (by simp; omega))
end OPS4
