variable {S T : St}
def wIn (L : Lns) (S : St) (s j : Nat) (d : Int32) : Nat := (S.1 3 j).toNatClampNeg * rN L (S.1 2 j) (S.1 2 s) d / 1000
theorem w40 {n j : Nat} (hs : Rs n S T) (hj : j < n) : ∃ w, 1 ≤ w ∧ w ≤ 40 ∧ S.1 3 j = nI w ∧ (S.1 3 j).toNatClampNeg = w := by
  obtain ⟨hn, hS, hT, hv⟩ := hs
  obtain ⟨w, w1, w2⟩ := ix_of (x := S.1 3 j) (n := 41) ⟨by have := (hv j hj).2.2.1.1; omega, by have := (hv j hj).2.2.1.2; omega⟩ (by omega)
  refine ⟨w, ?_, by omega, w2, by rw [w2, cl_n (by omega)]⟩
  have := (hv j hj).2.2.1.1
  rw [w2, nI_toInt (by omega)] at this
  omega
theorem q_exchanged {L : Lns} {x : Nat} (h : TX 0 L S T) (hx : x ≤ 10000) (a b d : Int32) : ∃ S', f_X10_exchanged (nI x) a b d S = some (nI (x * rN L a b d / 1000), S') ∧ KX S S' ∧ Sm [42, 43] S S' := by
  obtain ⟨S', e, k, ms⟩ := q_rateS h a b d
  obtain ⟨r1, r2⟩ := rN_le L a b d
  refine ⟨S', ?_, k, ms⟩
  unfold f_X10_exchanged
  rw [e, zb_2, e1000, r1]
  generalize rN L a b d = r at r2 ⊢
  have hm : x * r ≤ x * 9999 := Nat.mul_le_mul_left x r2
  rw [nI_l (by omega), nI_l (by omega), lN_mul, show (1000 : Int64) = lN 1000 from rfl, pk_lDiv (by omega) (by omega) (by omega), lN_i]
theorem d1000 {β : Type} (k : Option β) : jx_d 1000 k = k := zb_d k (by decide)
theorem p_worthIn {L : Lns} {n j s : Nat} {T' : St} (hs : Rs n S T) (hj : j < n) (hsn : s < n) (h : TX 0 L S T') (h1 : T'.1 1 = T.1 1) (h2 : T'.1 2 = T.1 2) (d : Int32) : ∃ T2, f_X12_worthIn (nI j) (T.1 1 s) d T' = some (nI (wIn L S s j d), T2) ∧ KM T' T2 ∧ Sm [20, 21] T' T2 := by
  obtain ⟨w, w1, w2, w3, w4⟩ := w40 hs hj
  obtain ⟨hn, hS, hT, hv⟩ := hs
  obtain ⟨T2, e, k, ms⟩ := p_rateS h (S.1 2 j) (S.1 2 s) d
  obtain ⟨r1, r2⟩ := rN_le L (S.1 2 j) (S.1 2 s) d
  refine ⟨T2, ?_, k, ms⟩
  unfold f_X12_worthIn wIn
  simp (disch := omega) only [zb_an, cl_n, h1, h2, (hv j hj).1.1, (hv s hsn).1.1, (hv j hj).1.2.1, e, zb_2, r1, w3, w4, d1000]
  generalize rN L (S.1 2 j) (S.1 2 s) d = r at r2 ⊢
  have hm : w * r ≤ w * 9999 := Nat.mul_le_mul_left w r2
  rw [pk_mul, show (1000 : Int32) = nI 1000 from rfl, pk_div (by omega) (by omega) (by omega)]
theorem op_standIn (a g d w : Int32) (h : RR RxC S T) : OK RxC (f_X11_standIn a g d w S) (f_X12_standIn a g d w T) := by
  obtain ⟨n, m, t, c, e, d', hs, ht, hm, hp, hch, hi, hd, hh, hx0, hx1⟩ := id h
  obtain ⟨hn, hS, hT, hv⟩ := id hs
  obtain ⟨L, hL⟩ := hx0 (by decide)
  unfold f_X11_standIn f_X12_standIn f_X12_standIn_35
  simp only [q_knows hS (by omega), p_isSort hT (by omega), q_within, p_in, q_isDay, p_isDay, zb_2, ite01]
  refine ok_if Iff.rfl (fun _ => ok_r _ h) (fun h1 => ok_if Iff.rfl (fun _ => ok_r _ h) (fun h2 => ok_if Iff.rfl (fun _ => ok_r _ h) (fun h3 => ok_if Iff.rfl (fun _ => ok_r _ h) (fun h4 => ?_))))
  obtain ⟨s, hsn, rfl⟩ := ix_of (nn h1) (by omega)
  rw [q_alike hs hsn, zb_2]
  have hWb : ∀ j, j < n → wIn L S s j d < 2 ^ 31 := fun j hj => by
    obtain ⟨w, w1, w2, w3, w4⟩ := w40 hs hj
    unfold wIn
    rw [w4]
    have := Nat.mul_le_mul_left w (rN_le L (S.1 2 j) (S.1 2 s) d).2
    omega
  obtain ⟨⟨x6, x7, S'⟩, ⟨y5, T'⟩, u1, u2, u3, u4, u5⟩ := wl_two (g_X11_standIn_61 (nI s) d w (nI (lkB S s g n))) (g_X12_standIn_45 (nI s) g d w) (fun x y => ∃ f l i S1 T1, x = (f, l, nI i, S1) ∧ y = (f, nI i, T1) ∧ i ≤ n ∧ KX S S1 ∧ KM T T1 ∧ Sm [42, 43] S S1 ∧ Sm [20, 21] T T1 ∧ (f = -1 ∨ ∃ j, j < n ∧ f = nI j ∧ l = nI (wIn L S s j d))) (fun x => n - x.2.2.1.toNatClampNeg) (fun x y => x.1 = y.1 ∧ (KX S x.2.2 ∧ KM T y.2) ∧ (x.1 = -1 ∨ ∃ j, j < n ∧ x.1 = nI j ∧ x.2.1 = nI (wIn L S s j d)))
    (fun x y hI => by
      obtain ⟨f, l, i, S1, T1, rfl, rfl, hi, kS, kT, mS, mT, hf⟩ := hI
      have hL' := TX_keep (by decide) hL kS kT
      unfold g_X11_standIn_61 b_X11_standIn_61 g_X12_standIn_45 b_X12_standIn_45
      simp only [mS.1 1 (by decide), mT.1 0 (by decide), hS, hT]
      by_cases hin : i = n
      · subst hin
        rw [if_pos (nI_le (Nat.le_refl i) (by omega)), if_pos (nI_le (Nat.le_refl i) (by omega))]
        exact Or.inr ⟨_, _, rfl, rfl, rfl, ⟨kS, kT⟩, hf⟩
      · have hin' : i < n := by omega
        have hle : ¬ nI n ≤ nI i := nI_ge hin' (by omega)
        have hmu : n - (nI (i + 1)).toNatClampNeg < n - (nI i).toNatClampNeg := by rw [cl_n (by omega), cl_n (by omega)]; omega
        have hmu2 : n - (nI (i + 1)).toNatClampNeg < n - i := by rw [cl_n (by omega)]; omega
        rw [if_neg hle, if_neg hle]
        unfold f_X11_standIn_143i61 f_X11_standIn_151i61 f_X12_standIn_75i45 f_X12_standIn_76i45 f_X12_standIn_123i45 f_X12_standIn_118i45 f_X12_standIn_125i45
        simp only [zb_l, nI_1, reduceIte, one_ne]
        refine Or.inl ?_
        by_cases hise : i = s
        · subst hise
          simp only [reduceIte]
          exact ⟨_, _, rfl, rfl, ⟨f, l, i + 1, S1, T1, rfl, rfl, by omega, kS, kT, mS, mT, hf⟩, hmu⟩
        · have hne : ¬ nI i = nI s := fun q => hise ((nI_eq (by omega) (by omega)).mp q)
          rw [if_neg hne, if_neg hne, sh_bit i (by omega) _ (by have := lkB_lt S s g n; have : 2 ^ n ≤ 2 ^ 8 := Nat.pow_le_pow_right (by omega) hn; omega), lkB_bit S s g i n hin', p_isLike hs hsn hin' g T1 (mT.1 3 (by decide)) (mT.1 4 (by decide)), zb_2]
          by_cases hlk : lkP S s i g
          · rw [if_pos hlk, if_neg (show ¬ nI 1 = 0 by decide), if_pos hlk, if_neg one_ne]
            obtain ⟨wv, v1, v2, v3, v4⟩ := w40 hs hin'
            obtain ⟨S2, e1, k1, m1⟩ := q_exchanged (x := wv) hL' (by omega) (S.1 2 i) (S.1 2 s) d
            have ew : wv * rN L (S.1 2 i) (S.1 2 s) d / 1000 = wIn L S s i d := by unfold wIn; rw [v4]
            rw [ew] at e1
            simp (disch := omega) only [zb_an, cl_n, mS.1 3 (by decide), mS.1 2 (by decide), mT.1 1 (by decide)]
            rw [v3, e1, zb_2]
            rcases hf with hf | ⟨j, hj, rfl, rfl⟩
            · subst hf
              rw [if_pos (by decide), if_pos rfl]
              exact ⟨_, _, rfl, rfl, ⟨_, _, i + 1, S2, T1, rfl, rfl, by omega, KX_tr kS k1, kT, Sm_tr mS m1, mT, Or.inr ⟨i, hin', rfl, rfl⟩⟩, hmu2⟩
            · rw [if_neg (nI_pos (by omega)), if_neg (show ¬ nI j = -1 from fun q => by have := congrArg Int32.toInt q; rw [nI_toInt (by omega), show (-1 : Int32).toInt = -1 from rfl] at this; omega)]
              have hL1 : TX 0 L S T1 := TX_keep (by decide) hL KX_rf kT
              obtain ⟨T2, f1, f2, f3⟩ := p_worthIn (L := L) hs hin' hsn hL1 (mT.1 1 (by decide)) (mT.1 2 (by decide)) d
              have hL2 : TX 0 L S T2 := TX_keep (by decide) hL1 KX_rf f2
              have m2 := Sm_tr mT f3
              obtain ⟨T3, g1, g2, g3⟩ := p_worthIn (L := L) hs hj hsn hL2 (m2.1 1 (by decide)) (m2.1 2 (by decide)) d
              rw [f1, zb_2, f3.1 1 (by decide), mT.1 1 (by decide), g1, zb_2]
              by_cases q : wIn L S s j d ≤ wIn L S s i d
              · rw [if_pos ((nI_leI (hWb j hj) (hWb i hin')).mpr q), if_pos ((nI_leI (hWb j hj) (hWb i hin')).mpr q)]
                exact ⟨_, _, rfl, rfl, ⟨_, _, i + 1, S2, T3, rfl, rfl, by omega, KX_tr kS k1, KM_tr (KM_tr kT f2) g2, Sm_tr mS m1, Sm_tr m2 g3, Or.inr ⟨j, hj, rfl, rfl⟩⟩, hmu2⟩
              · rw [if_neg (fun z => q ((nI_leI (hWb j hj) (hWb i hin')).mp z)), if_neg (fun z => q ((nI_leI (hWb j hj) (hWb i hin')).mp z))]
                exact ⟨_, _, rfl, rfl, ⟨_, _, i + 1, S2, T3, rfl, rfl, by omega, KX_tr kS k1, KM_tr (KM_tr kT f2) g2, Sm_tr mS m1, Sm_tr m2 g3, Or.inr ⟨i, hin', rfl, rfl⟩⟩, hmu2⟩
          · rw [if_neg hlk, if_pos (show nI 0 = 0 from rfl), if_neg hlk, if_pos rfl]
            exact ⟨_, _, rfl, rfl, ⟨f, l, i + 1, S1, T1, rfl, rfl, by omega, kS, kT, mS, mT, hf⟩, hmu⟩)
    FU (-1, 0, nI 0, S) (-1, nI 0, T) ⟨-1, 0, 0, S, T, rfl, rfl, by omega, KX_rf, KM_rf, Sm_rf, Sm_rf, Or.inl rfl⟩ (FU_lt (show n - _ < 100000 by omega) 0)
  rw [show ((-1 : Int32), (0 : Int32), (0 : Int32), S) = (-1, 0, nI 0, S) from rfl, u1, zb_s, show ((-1 : Int32), (0 : Int32), T) = (-1, nI 0, T) from rfl, u2, zb_s]
  simp only at u3 u4 u5
  subst u3
  have hR := RR_keep h u4.1 u4.2
  unfold f_X11_standIn_157 f_X11_standIn_167 f_X12_standIn_133
  rcases u5 with rfl | ⟨j, hj, rfl, rfl⟩
  · rw [if_pos rfl, if_neg (show ¬ (0 : Int32) ≤ -1 by decide), ite_self]
    exact ok_r _ hR
  · rw [if_neg (show ¬ nI j = -1 from fun q => by have := congrArg Int32.toInt q; rw [nI_toInt (by omega), show (-1 : Int32).toInt = -1 from rfl] at this; omega), if_pos (nI_pos' (by omega))]
    refine ok_if Iff.rfl (fun _ => ok_r _ hR) (fun _ => ?_)
    have hL1 : TX 0 L S T' := TX_keep (by decide) hL KX_rf u4.2
    obtain ⟨T2, f1, f2, f3⟩ := p_worthIn (L := L) hs hj hsn hL1 (u4.2.1 1 (by decide)) (u4.2.1 2 (by decide)) d
    rw [zb_an _ (by omega) (by omega), zb_an _ (by omega) (by omega), zb_an _ (by omega) (by omega), cl_n (by omega), u4.2.1 1 (by decide), f1, zb_2, u4.2.1 2 (by decide), u4.1.1 3 (by decide), (hv s hsn).1.2.1]
    exact ok_mk rfl (RR_keep h u4.1 (KM_tr u4.2 f2))
