variable {S T : St}
theorem lvl_at {n s k : Nat} (h : s + k + 1 = n) (f : Nat → Nat) : lv n f k = f s := by
  unfold lv
  rw [show n - 1 - k = s by omega]
/-- the table, all rows -/
theorem p_table {how : Bool} {n : Nat} {land am : Int32} {c w : Nat → Nat} (hn : n ≤ 8) (hT : T.1 0 0 = nI n) (hP : Pm T land n c w) : ∃ T1 T2, jx_w (g_X12_payment_12 land am (hI how)) FU (nI 0, T) = some T1 ∧ jx_w (g_X12_payment_60 land am (hI how)) FU (nI n + (-1), T1) = some T2 ∧ T1.1 0 0 = nI n ∧ Sm [23] T T2 ∧ ∀ s, s ≤ n → ∀ i, i ≤ 1920 → EU (U how (lv n c) (lv n w) (n - s) i) (T2.1 23 (1921 * s + i)) := by
  obtain ⟨T1, a1, a2, a3⟩ := wl_for (g_X12_payment_12 land am (hI how)) (fun m T => (nI m, T)) (fun m T1 => Sm [23] T T1 ∧ ∀ i, i < m → T1.1 23 (1921 * n + i) = if i = 0 then 0 else -1) 1921 (fun T1 => Sm [23] T T1 ∧ ∀ i, i < 1921 → T1.1 23 (1921 * n + i) = if i = 0 then 0 else -1)
    (fun m T1 hm hI' => by
      obtain ⟨mT, h1⟩ := hI'
      unfold g_X12_payment_12 b_X12_payment_12 f_X12_payment_45i12
      rw [if_neg (by exact nI_nlt (a := 1920) (by omega) (by omega)), mT.1 0 (by decide), hT, r1921]
      simp (disch := omega) only [zb_an, cl_n, zb_l, nI_1]
      by_cases z : m = 0
      · subst z
        rw [if_pos (show nI 0 = 0 from rfl)]
        refine ⟨_, rfl, Sm_u1 mT (by decide), fun i hi => ?_⟩
        rw [rd_1, if_pos rfl, if_pos (by omega), if_pos (by omega)]
      · rw [if_neg (nI_ne0 (by omega) (by omega))]
        refine ⟨_, rfl, Sm_u1 mT (by decide), fun i hi => ?_⟩
        rw [rd_1, if_pos rfl]
        by_cases e : i = m
        · rw [if_pos (by omega), if_neg (by omega)]
        · rw [if_neg (by omega)]; exact h1 i (by omega))
    (fun T1 hI' => ⟨T1, by unfold g_X12_payment_12 b_X12_payment_12; rw [if_pos (by show (1920 : Int32) < nI 1921; decide)], hI'⟩) FU 0 T (by omega) ⟨Sm_rf, fun i hi => absurd hi (by omega)⟩ (FU_lt (by omega) 0)
  obtain ⟨T2, b1, b2, b3⟩ := wl_one (g_X12_payment_60 land am (hI how)) (fun z => ∃ i T2, i ≤ n ∧ z = (nI i + (-1), T2) ∧ Sm [23] T T2 ∧ ∀ s, i ≤ s → s ≤ n → ∀ m, m ≤ 1920 → EU (U how (lv n c) (lv n w) (n - s) m) (T2.1 23 (1921 * s + m))) (fun z => (z.1 + 1).toNatClampNeg) (fun T2 => Sm [23] T T2 ∧ ∀ s, s ≤ n → ∀ m, m ≤ 1920 → EU (U how (lv n c) (lv n w) (n - s) m) (T2.1 23 (1921 * s + m)))
    (fun z hz => by
      obtain ⟨i, T2, hi, rfl, mT, hr⟩ := hz
      unfold g_X12_payment_60 b_X12_payment_60
      by_cases h0 : i = 0
      · subst h0
        rw [if_pos (show nI 0 + (-1) < 0 by decide)]
        exact Or.inr ⟨_, rfl, mT, fun s hs => hr s (by omega) hs⟩
      · obtain ⟨i, rfl⟩ : ∃ j, i = j + 1 := ⟨i - 1, by omega⟩
        rw [pk_m1, if_neg (nI_pos (by omega))]
        have hP2 : Pm T2 land n c w := fun k hk => by rw [mT.1 1 (by decide), mT.1 5 (by decide), mT.1 2 (by decide)]; exact hP k hk
        obtain ⟨T3, e1, e2, e3, e4⟩ := p_fills (T := T2) (how := how) (n := n) (s := i) (k := n - (i + 1)) hn (by omega) hP2 (fun m hm => hr (i + 1) (by omega) hi m hm)
        rw [e1, zb_s, zb_l]
        refine Or.inl ⟨_, rfl, ⟨i, T3, by omega, rfl, Sm_tr mT e2, fun s hs hsn m hm => ?_⟩, ?_⟩
        · by_cases e : s = i
          · subst e
            have := e3 m hm
            rw [show n - (s + 1) + 1 = n - s by omega] at this
            exact this
          · rw [e4 _ (by omega)]; exact hr s (by omega) hsn m hm
        · show (nI i + (-1) + 1).toNatClampNeg < (nI i + 1).toNatClampNeg
          rw [Int32.add_assoc, show (-1 : Int32) + 1 = 0 from rfl, Int32.add_zero, nI_1, cl_n (by omega), cl_n (by omega)]; omega)
    FU (nI n + (-1), T1) ⟨n, T1, Nat.le_refl n, rfl, a2, fun s hs hsn m hm => by
      have : s = n := by omega
      subst this
      rw [a3 m (by omega), Nat.sub_self]
      show EU (if m = 0 then some 0 else none) _
      by_cases z : m = 0
      · rw [if_pos z, if_pos z]; exact ⟨rfl, by omega⟩
      · rw [if_neg z, if_neg z]; rfl⟩ (by show (nI n + (-1) + 1).toNatClampNeg < FU; rw [Int32.add_assoc, show (-1 : Int32) + 1 = 0 from rfl, Int32.add_zero, cl_n (by omega)]; unfold FU; omega)
  exact ⟨T1, T2, a1, b1, by rw [a2.1 0 (by decide)]; exact hT, b2, b3⟩
/-- how many of one sort are taken -/
theorem p_pick {how : Bool} {n s k m t : Nat} {land all : Int32} {c w : Nat → Nat} (hn : n ≤ 8) (hk : s + k + 1 = n) (hc : ∀ j, j < n → c j ≤ 6) (hw : w s ≤ 40) (hm : m ≤ 1920) (hw2 : T.1 2 s = nI (w s)) (hrow : ∀ s', s' ≤ n → ∀ i, i ≤ 1920 → EU (U how (lv n c) (lv n w) (n - s') i) (T.1 23 (1921 * s' + i))) (ht : U how (lv n c) (lv n w) (k + 1) m = some t) : ∃ T', jx_w (g_X12_payment_143 land all (nI m) (nI s) (nI (c s))) FU (nI 0, u1 T 24 s 0) = some T' ∧ Sm [24] T T' ∧ T'.1 24 s = nI (pick how (lv n c) (lv n w) k m) ∧ ∀ y, y ≠ s → T'.1 24 y = T.1 24 y := by
  have hlc : lv n c k = c s := lvl_at hk c
  have hlw : lv n w k = w s := lvl_at hk w
  have hcs := hc s (by omega)
  have hlc6 : ∀ j, j < n → lv n c j ≤ 6 := fun j hj => hc _ (by omega)
  have hself : T.1 23 (1921 * s + m) = nI t ∧ t ≤ 100 := by
    have := hrow s (by omega) m hm
    rw [show n - s = k + 1 by omega, ht] at this
    exact this
  have hp : pick how (lv n c) (lv n w) k m = pkTo (Uf how (lv n c) (lv n w) k m) t (c s + 1) := by
    unfold pick
    rw [ht, hlc]; rfl
  rw [hp]
  obtain ⟨T', w1, w2, w3, w4⟩ := wl_one (g_X12_payment_143 land all (nI m) (nI s) (nI (c s))) (fun z => ∃ i T', z = (nI i, T') ∧ i ≤ c s + 1 ∧ Sm [24] T T' ∧ T'.1 24 s = nI (pkTo (Uf how (lv n c) (lv n w) k m) t i) ∧ ∀ y, y ≠ s → T'.1 24 y = T.1 24 y) (fun z => c s + 1 - z.1.toNatClampNeg) (fun T' => Sm [24] T T' ∧ T'.1 24 s = nI (pkTo (Uf how (lv n c) (lv n w) k m) t (c s + 1)) ∧ ∀ y, y ≠ s → T'.1 24 y = T.1 24 y)
    (fun z hz => by
      obtain ⟨i, T1, rfl, hi, mT, h24, hy⟩ := hz
      unfold g_X12_payment_143 b_X12_payment_143 f_X12_payment_233i143 f_X12_payment_240i143
      by_cases hic : i = c s + 1
      · subst hic
        rw [if_pos (nI_lt (by omega) (by omega))]
        exact Or.inr ⟨_, rfl, mT, h24, hy⟩
      · have hiw : i * w s ≤ 6 * 40 := Nat.mul_le_mul (by omega) hw
        rw [if_neg (nI_nlt (by omega) (by omega)), zb_an _ (by omega) (by omega), cl_n (by omega), mT.1 2 (by decide), hw2, pk_mul]
        by_cases q : m < i * w s
        · rw [if_pos (nI_lt q (by omega))]
          refine Or.inr ⟨_, rfl, mT, ?_, hy⟩
          rw [pkTo_stop (c := i) (c s + 1) (by omega) (fun j h1 h2 => by
            unfold Uf
            rw [hlw]
            have := Nat.mul_le_mul_right (w s) h1
            exact if_neg (by omega))]
          exact h24
        · have hmu : c s + 1 - (nI (i + 1)).toNatClampNeg < c s + 1 - i := by rw [cl_n (by omega)]; omega
          have hr := hrow (s + 1) (by omega) (m - i * w s) (by omega)
          rw [show n - (s + 1) = k by omega] at hr
          have hf : Uf how (lv n c) (lv n w) k m i = oI i (U how (lv n c) (lv n w) k (m - i * w s)) := by unfold Uf; rw [hlw, if_pos (by omega)]
          have hpk : pkTo (Uf how (lv n c) (lv n w) k m) t (i + 1) = if oI i (U how (lv n c) (lv n w) k (m - i * w s)) = some t then i else pkTo (Uf how (lv n c) (lv n w) k m) t i := by rw [← hf]; rfl
          rw [if_neg (nI_nlt (by omega) (by omega)), zb_an _ (by omega) (by omega), nI_1, r1921, r1921, pk_sub (by omega), show 1921 * (s + 1) + m - i * w s = 1921 * (s + 1) + (m - i * w s) by omega, mT.1 23 (by decide)]
          simp (disch := omega) only [zb_an, cl_n, zb_l, nI_1]
          have skip : Sm [24] T (u1 T1 24 s (T1.1 24 s)) ∧ (u1 T1 24 s (T1.1 24 s)).1 24 s = T1.1 24 s ∧ ∀ y, y ≠ s → (u1 T1 24 s (T1.1 24 s)).1 24 y = T.1 24 y := ⟨Sm_u1 mT (by decide), by rw [rd_1, if_pos rfl, if_pos rfl], fun y hys => by rw [rd_1, if_pos rfl, if_neg hys]; exact hy y hys⟩
          cases hU : U how (lv n c) (lv n w) k (m - i * w s) with
          | none =>
            rw [hU] at hr hpk
            rw [if_pos (show T.1 23 (1921 * (s + 1) + (m - i * w s)) = -1 from hr)]
            refine Or.inl ⟨_, rfl, ⟨i + 1, _, rfl, by omega, skip.1, ?_, skip.2.2⟩, hmu⟩
            rw [skip.2.1, hpk, if_neg (by simp [oI]), h24]
          | some u =>
            rw [hU] at hr hpk
            obtain ⟨hr1, hr2⟩ := hr
            rw [hr1, if_neg (m1_ne (by omega)), hself.1, nI_add]
            by_cases z : i + u = t
            · rw [if_pos (by rw [z])]
              refine Or.inl ⟨_, rfl, ⟨i + 1, _, rfl, by omega, Sm_u1 mT (by decide), ?_, fun y hys => ?_⟩, hmu⟩
              · rw [rd_1, if_pos rfl, if_pos rfl, hpk, if_pos (by simp only [oI]; rw [z])]
              · rw [rd_1, if_pos rfl, if_neg hys]; exact hy y hys
            · rw [if_neg (fun y => z ((nI_eq (by omega) (by omega)).mp y))]
              refine Or.inl ⟨_, rfl, ⟨i + 1, _, rfl, by omega, skip.1, ?_, skip.2.2⟩, hmu⟩
              rw [skip.2.1, hpk, if_neg (by simp only [oI, Option.some.injEq]; exact z), h24])
    FU (nI 0, u1 T 24 s 0) ⟨0, _, rfl, by omega, Sm_one (by decide), by rw [rd_1, if_pos rfl, if_pos rfl]; rfl, fun y hys => by rw [rd_1, if_pos rfl, if_neg hys]⟩ (FU_lt (show c s + 1 - _ < 100000 by omega) 0)
  exact ⟨T', w1, w2, w3, w4⟩
theorem p_payment {how : Bool} {n m : Nat} {land : Int32} {c w : Nat → Nat} (hn : n ≤ 8) (hT : T.1 0 0 = nI n) (hP : Pm T land n c w) (hm : m ≤ 1920) : ∃ T', Sm [23, 24] T T' ∧ ((U how (lv n c) (lv n w) n m = none ∧ f_X12_payment land (nI m) (hI how) T = some (-1, T')) ∨ ∃ t, U how (lv n c) (lv n w) n m = some t ∧ t ≤ 100 ∧ f_X12_payment land (nI m) (hI how) T = some (nI t, T') ∧ ∀ s, s < n → T'.1 24 s = nI (Ye how (lv n c) (lv n w) n m (n - 1 - s))) := by
  obtain ⟨T1, T2, a1, a2, a3, a4, a5⟩ := p_table (how := how) (am := nI m) hn hT hP
  have e24 : ∀ T3 : St, Sm [24] T2 T3 → Sm [23, 24] T T3 := fun T3 h => Sm_tr ⟨fun a ha => a4.1 a (by simp at ha ⊢; omega), a4.2⟩ ⟨fun a ha => h.1 a (by simp at ha ⊢; omega), h.2⟩
  have e0 := a5 0 (by omega) m hm
  rw [Nat.sub_zero, Nat.mul_zero, Nat.zero_add] at e0
  have pre : ∀ r, (jx_a (nI m) 17289 (jx_l (T2.1 23 (Int32.toNatClampNeg (nI m))) (fun x4_12 => jx_b (jx_w (g_X12_payment_93 land x4_12) FU (nI m, (0 : Int32), T2)) (fun z => f_X12_payment_273 x4_12 z)))) = r → f_X12_payment land (nI m) (hI how) T = r := fun r hr => by
    unfold f_X12_payment
    rw [if_pos (by exact nI_le (b := 1920) hm (by omega)), show ((0 : Int32), T) = (nI 0, T) from rfl, a1, zb_s]
    unfold f_X12_payment_52
    rw [a3, zb_l, show nI n - (1 : Int32) = nI n + (-1) from Int32.sub_eq_add_neg _ _, a2, zb_s]
    exact hr
  cases hU : U how (lv n c) (lv n w) n m with
  | none =>
    rw [hU] at e0
    refine ⟨T2, e24 T2 Sm_rf, Or.inl ⟨rfl, pre _ ?_⟩⟩
    rw [zb_an _ (by omega) (by omega), zb_l, cl_n (by omega), show T2.1 23 m = -1 from e0]
    rw [show jx_w (g_X12_payment_93 land (-1)) FU (nI m, 0, T2) = some T2 from jx_w_end (n := 99999) (by
      unfold g_X12_payment_93 b_X12_payment_93
      rw [if_pos rfl, ite_self])]
    rfl
  | some t =>
    rw [hU] at e0
    obtain ⟨e01, e02⟩ := e0
    obtain ⟨T', w1, w2, w3⟩ := wl_for (g_X12_payment_93 land (nI t)) (fun s (q : Nat × St) => (nI q.1, nI s, q.2)) (fun s q => Sm [24] T2 q.2 ∧ q.1 ≤ 1920 ∧ (∃ u, U how (lv n c) (lv n w) (n - s) q.1 = some u) ∧ (∀ j, j < n - s → Ye how (lv n c) (lv n w) n m j = Ye how (lv n c) (lv n w) (n - s) q.1 j) ∧ ∀ j, j < s → q.2.1 24 j = nI (Ye how (lv n c) (lv n w) n m (n - 1 - j))) n (fun T' => Sm [24] T2 T' ∧ ∀ s, s < n → T'.1 24 s = nI (Ye how (lv n c) (lv n w) n m (n - 1 - s)))
      (fun s q hs hI' => by
        obtain ⟨m1, T3⟩ := q
        obtain ⟨mT, hm1, ⟨u, hu⟩, hYe, h24⟩ := hI'
        obtain ⟨p1, p2, p3, p4, p5⟩ := hP s hs
        have tT : Sm [23, 24] T T3 := e24 T3 mT
        obtain ⟨k, hk⟩ : ∃ k, s + k + 1 = n := ⟨n - s - 1, by omega⟩
        rw [show n - s = k + 1 by omega] at hu hYe
        have hc6 : ∀ j, j < n → c j ≤ 6 := fun j hj => (hP j hj).2.1
        obtain ⟨T4, f1, f2, f3, f4⟩ := p_pick (T := T3) (how := how) (n := n) (s := s) (k := k) (m := m1) (t := u) (land := land) (all := nI t) hn hk hc6 p5 hm1 (by rw [tT.1 2 (by decide)]; exact p3) (fun s' hs' i hi => by rw [mT.1 23 (by decide)]; exact a5 s' hs' i hi) hu
        have hlw : lv n w k = w s := lvl_at hk w
        have hlc6 : ∀ j, j < n → lv n c j ≤ 6 := fun j hj => hc6 _ (by omega)
        obtain ⟨y1, y2, y3⟩ := Y_1 (k + 1) m1 u hu
        have hpe : Ye how (lv n c) (lv n w) (k + 1) m1 k = pick how (lv n c) (lv n w) k m1 := Ye_new
        have hpc : pick how (lv n c) (lv n w) k m1 ≤ 6 := by
          rw [← hpe]
          have := y1 k (by omega)
          have := hlc6 k (by omega)
          omega
        have hpw : pick how (lv n c) (lv n w) k m1 * w s ≤ m1 := by
          have : sumw (Ye how (lv n c) (lv n w) (k + 1) m1) (lv n w) k + Ye how (lv n c) (lv n w) (k + 1) m1 k * lv n w k = m1 := y2
          rw [hpe, hlw] at this
          omega
        have hpw2 : pick how (lv n c) (lv n w) k m1 * w s ≤ 6 * 40 := Nat.mul_le_mul hpc p5
        have hnext : ∃ u', U how (lv n c) (lv n w) k (m1 - pick how (lv n c) (lv n w) k m1 * w s) = some u' := by
          rw [U_succ] at hu
          obtain ⟨z1, z2, -⟩ := pkTo_in (f := Uf how (lv n c) (lv n w) k m1) (t := u) (lv n c k + 1) (bestTo_in _ hu)
          have hp : pick how (lv n c) (lv n w) k m1 = pkTo (Uf how (lv n c) (lv n w) k m1) u (lv n c k + 1) := by
            unfold pick
            rw [U_succ, hu]; rfl
          rw [← hp] at z2
          obtain ⟨-, v, v1, -⟩ := Uf_some z2
          rw [hlw] at v1
          exact ⟨v, v1⟩
        refine ⟨(m1 - pick how (lv n c) (lv n w) k m1 * w s, T4), ?_, Sm_tr mT f2, by show m1 - _ ≤ 1920; omega, ?_, fun j hj => ?_, fun j hj => ?_⟩
        · have run : f_X12_payment_130i93 land (nI t) (nI m1) (nI s) (nI (c s)) T3 = some (.inl (nI (m1 - pick how (lv n c) (lv n w) k m1 * w s), nI (s + 1), T4)) := by
            unfold f_X12_payment_130i93 f_X12_payment_247i93
            rw [zb_an _ (by omega) (by omega), zb_l, cl_n (by omega), show ((0 : Int32), u1 T3 24 s 0) = (nI 0, u1 T3 24 s 0) from rfl, f1, zb_s, zb_an _ (by omega) (by omega), zb_an _ (by omega) (by omega), zb_l, zb_l, f3, f2.1 2 (by decide), tT.1 2 (by decide), p3, pk_mul, pk_sub hpw, nI_1]
          unfold g_X12_payment_93 b_X12_payment_93
          rw [tT.1 0 (by decide), hT, if_neg (nI_ge hs (by omega)), if_neg (m1_ne (by omega)), zb_an _ (by omega) (by omega), cl_n (by omega), tT.1 1 (by decide), tT.1 5 (by decide)]
          rcases p1 with ⟨q1, q2⟩ | ⟨q1, q2⟩
          · rw [if_pos q1, zb_an _ (by omega) (by omega), q2]; exact run
          · rw [if_neg q1]; rw [q2] at run; exact run
        · rw [show n - (s + 1) = k by omega]; exact hnext
        · rw [show n - (s + 1) = k by omega] at hj ⊢
          rw [hYe j (by omega), Ye_old hj, hlw]
        · show T4.1 24 j = _
          by_cases e : j = s
          · rw [e, f3, ← hpe, ← hYe k (by omega), show n - 1 - s = k by omega]
          · rw [f4 j e]; exact h24 j (by omega))
      (fun q hI' => ⟨q.2, by
        unfold g_X12_payment_93 b_X12_payment_93
        rw [(e24 q.2 hI'.1).1 0 (by decide), hT, if_pos (nI_le (Nat.le_refl n) (by omega))], hI'.1, hI'.2.2.2.2⟩) FU 0 (m, T2) (by omega) ⟨Sm_rf, hm, ⟨t, by rw [Nat.sub_zero]; exact hU⟩, fun j _ => by rw [Nat.sub_zero], fun j hj => absurd hj (by omega)⟩ (FU_lt (by omega) 0)
    refine ⟨T', e24 T' w2, Or.inr ⟨t, rfl, e02, pre _ ?_, w3⟩⟩
    rw [zb_an _ (by omega) (by omega), zb_l, cl_n (by omega), e01, show (nI m, (0 : Int32), T2) = (nI (m, T2).1, nI 0, (m, T2).2) from rfl, w1, zb_s]
    rfl
