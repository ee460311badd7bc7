def Cmp (n m t c e d : Nat) (S T : St) : Prop := Rs n S T ∧ Rt m S T ∧ Rm S T ∧ Rp t S T ∧ Rc c e n m S T ∧ Ri n m S T ∧ Rd d S T ∧ Rh d S T ∧ RxC 0 S T ∧ RxC 1 S T
theorem Cmp_keep {n m t c e d : Nat} {S T S' T' : St} (h : Cmp n m t c e d S T) (hS : KX S S') (hT : KM T T') : Cmp n m t c e d S' T' := by
  obtain ⟨hs, ht, hm, hp, hch, hi, hd, hh, hx0, hx1⟩ := h
  have kS := hS.1
  have kT := hT.1
  have kT0 := hT.2.1
  refine ⟨?_, ?_, ?_, ?_, ?_, ?_, ?_, ?_, ?_, ?_⟩
  · unfold Rs
    rw [kS 1 (by decide), kS 2 (by decide), kS 3 (by decide), kS 4 (by decide), kS 5 (by decide), kS 6 (by decide), kT 1 (by decide), kT 2 (by decide), kT 3 (by decide), kT 4 (by decide), kT 5 (by decide), kT0 0 (by decide)]
    exact hs
  · unfold Rt
    rw [kS 7 (by decide), kS 8 (by decide), kS 9 (by decide), kS 10 (by decide), kS 11 (by decide), kT 6 (by decide), kT 7 (by decide), kT 8 (by decide), kT 9 (by decide), kT0 6 (by decide)]
    exact ht
  · unfold Rm
    rw [kS 38 (by decide), kS 39 (by decide), hS.2.2.1, hS.2.2.2.1, kT 10 (by decide), kT0 12 (by decide), kT0 13 (by decide), kT0 14 (by decide), kT0 15 (by decide), kT0 16 (by decide)]
    exact hm
  · unfold Rp
    rw [hS.2.1, kS 19 (by decide), kT 11 (by decide), kT0 18 (by decide)]
    exact hp
  · unfold Rc
    rw [kS 25 (by decide), kS 26 (by decide), kS 27 (by decide), kS 28 (by decide), kS 29 (by decide), kT 12 (by decide), kT0 20 (by decide), kT0 21 (by decide)]
    exact hch
  · unfold Ri
    rw [kS 30 (by decide), kS 31 (by decide), kS 32 (by decide), kS 33 (by decide), kT 26 (by decide), kT 27 (by decide), kT 28 (by decide), kT0 42 (by decide), kT0 43 (by decide), kT0 44 (by decide)]
    exact hi
  · unfold Rd
    rw [hS.2.2.2.2.1, hS.2.2.2.2.2.1, kS 35 (by decide), kS 36 (by decide), kT 29 (by decide), kT 30 (by decide), kT0 48 (by decide), kT0 50 (by decide)]
    exact hd
  · intro x hx
    have := hh x hx
    rw [kT 31 (by decide), kT 32 (by decide), hT.2.2, hS.2.2.2.2.2.2.2.2 (49 + 2 * x) (by omega), kS (48 + 2 * x) (by simp; omega)]
    exact this
  · intro z
    obtain ⟨L, hL⟩ := hx0 z
    exact ⟨L, TX_keep z hL hS hT⟩
  · intro z
    obtain ⟨L, hL⟩ := hx1 z
    exact ⟨L, TX_keep z hL hS hT⟩
variable {S T : St}
theorem qp_back {n due : Nat} {land : Int32} (hdue : due < 2 ^ 31) : ∀ (d i cm : Nat) (S T : St), i + d = 48 → Rs n S T → cm ≤ due → i ≤ hsum S n → ∃ r came S' T', (∀ N, jx_w (g_X1_bringBack_5 land (nI due)) (N + d + 1) (nI cm, nI i, S) = some r) ∧ Sum.elim (fun z => f_X1_bringBack_57 z.1 z.2) (fun z => f_X1_bringBack_27 z.1 z.2) r = some (nI came, S') ∧ (∀ N, jx_w (g_X12_comesBack_5 land (nI due)) (N + d + 2) (nI (due - cm), 1, T) = some (nI (due - came), T')) ∧ came ≤ due ∧ Rs n S' T' ∧ Sm [6] S S' ∧ Sm [5] T T' := by
  intro d
  induction d with
  | zero =>
    intro i cm S T hi hs hcm hsm
    have hn := hs.1
    have full := hsum_full hs (by omega)
    obtain ⟨r, p1, p2⟩ := p_gw (x2 := nI due) hs land (due - cm) (by omega)
    have hr : r = -1 := by
      rcases p2 with ⟨a1, a2⟩ | ⟨f, f0, f1, f2, f3, f4⟩
      · exact a1
      · exact absurd f3.2.2 (full f f1)
    subst hr
    refine ⟨.inl (nI cm, S), cm, S, T, fun N => jx_w_end ?_, rfl, fun N => ?_, hcm, hs, Sm_rf, Sm_rf⟩
    · unfold g_X1_bringBack_5 b_X1_bringBack_5
      rw [show i = 48 by omega, if_pos (show (48 : Int32) ≤ nI 48 by decide)]
    · show jx_w _ (N + 1 + 1) _ = _
      rw [jx_w_step (s' := (nI (due - cm), 0, T)) (by
        unfold g_X12_comesBack_5 b_X12_comesBack_5
        rw [if_neg one_ne, hs.2.2.1, show nI n - (1 : Int32) = nI n + (-1) from Int32.sub_eq_add_neg _ _, zb_l, p1, zb_s]
        unfold f_X12_comesBack_110i5 f_X12_comesBack_121i5 f_X12_comesBack_149i5
        rw [if_pos rfl, if_pos rfl]), jx_w_end (r := (nI (due - cm), T)) (by
        unfold g_X12_comesBack_5 b_X12_comesBack_5
        rw [if_pos rfl])]
  | succ d ih =>
    intro i cm S T hi hs hcm hsm
    have hn := hs.1
    obtain ⟨r, q1, q2⟩ := q_gw hs land (due - cm) (by omega)
    obtain ⟨r', p1, p2⟩ := p_gw (x2 := nI due) hs land (due - cm) (by omega)
    have er := Best_one p2 q2
    subst er
    have mstep : ∀ res, f_X12_comesBack_110i5 land (nI due) (nI (due - cm)) r' T = res → g_X12_comesBack_5 land (nI due) (nI (due - cm), 1, T) = res := fun res hres => by
      unfold g_X12_comesBack_5 b_X12_comesBack_5
      rw [if_neg one_ne, hs.2.2.1, show nI n - (1 : Int32) = nI n + (-1) from Int32.sub_eq_add_neg _ _, zb_l, p1, zb_s]
      exact hres
    rcases q2 with ⟨a1, -⟩ | ⟨f, f0, f1, f2, f3, -⟩
    · subst a1
      refine ⟨.inr (nI cm, S), cm, S, T, fun N => jx_w_end ?_, rfl, fun N => ?_, hcm, hs, Sm_rf, Sm_rf⟩
      · unfold g_X1_bringBack_5 b_X1_bringBack_5
        rw [if_neg (show ¬ (48 : Int32) ≤ nI i from nI_ge (b := 48) (by omega) (by omega)), pk_sub hcm, q1, zb_2, if_neg (by decide)]
      · show jx_w _ (N + (d + 1) + 1 + 1) _ = _
        rw [jx_w_step (s' := (nI (due - cm), 0, T)) (mstep _ (by
          unfold f_X12_comesBack_110i5 f_X12_comesBack_121i5 f_X12_comesBack_149i5
          rw [if_pos rfl, if_pos rfl])), jx_w_end (r := (nI (due - cm), T)) (by
          unfold g_X12_comesBack_5 b_X12_comesBack_5
          rw [if_pos rfl])]
    · subst f2
      obtain ⟨w, u1', u2', u3', u4'⟩ := w40 hs f1
      obtain ⟨c, c1, c2, c3⟩ := h6 hs f1
      have hv := (hs.2.2.2 f f1).1
      have f31 := f3.2.1
      have f32 := f3.2.2
      rw [u4'] at f31
      rw [c3] at f32
      have hs' : Rs n (u1 S 6 f (nI (c + 1))) (u1 T 5 f (nI (c + 1))) := by
        refine ⟨hs.1, by rw [ne_u1 _ _ _ (by decide)]; exact hs.2.1, by rw [ne_u1 _ _ _ (by decide)]; exact hs.2.2.1, fun s hsn => ?_⟩
        have q := hs.2.2.2 s hsn
        simp only [rd_1, reduceIte, Nat.reduceEqDiff]
        by_cases e : s = f
        · rw [if_pos e, if_pos e]
          exact ⟨⟨q.1.1, q.1.2.1, q.1.2.2.1, q.1.2.2.2.1, rfl⟩, q.2.1, q.2.2.1, q.2.2.2.1, q.2.2.2.2.1, by unfold rg; rw [nI_toInt (by omega)]; omega⟩
        · rw [if_neg e, if_neg e]; exact q
      have hsum' : i + 1 ≤ hsum (u1 S 6 f (nI (c + 1))) n := by
        have : hsum (u1 S 6 f (nI (c + 1))) n = hsum S n + 1 := sumTo_upd (f := fun s => (S.1 6 s).toNatClampNeg) (f' := fun s => ((u1 S 6 f (nI (c + 1))).1 6 s).toNatClampNeg) (a := f) (by
          show ((u1 S 6 f (nI (c + 1))).1 6 f).toNatClampNeg = (S.1 6 f).toNatClampNeg + 1
          rw [rd_1, if_pos rfl, if_pos rfl, cl_n (by omega), c3]) (fun s hsf => by
          show ((u1 S 6 f (nI (c + 1))).1 6 s).toNatClampNeg = _
          rw [rd_1, if_pos rfl, if_neg hsf]) n f1
        omega
      obtain ⟨r, came, S', T', g1, g2, g3, g4, g5, g6, g7⟩ := ih (i + 1) (cm + w) (u1 S 6 f (nI (c + 1))) (u1 T 5 f (nI (c + 1))) (by omega) hs' (by omega) hsum'
      refine ⟨r, came, S', T', fun N => ?_, g2, fun N => ?_, g4, g5, Sm_tr (Sm_one (by decide)) g6, Sm_tr (Sm_one (by decide)) g7⟩
      · show jx_w _ (N + d + 1 + 1) _ = _
        rw [jx_w_step (s' := (nI (cm + w), nI (i + 1), u1 S 6 f (nI (c + 1)))) (by
          unfold g_X1_bringBack_5 b_X1_bringBack_5
          rw [if_neg (show ¬ (48 : Int32) ≤ nI i from nI_ge (b := 48) (by omega) (by omega)), pk_sub hcm, q1, zb_2, if_pos (nI_pos' (by omega))]
          simp (disch := omega) only [zb_an, cl_n, zb_l, c2, nI_1, ne_u1, u3', nI_add])]
        exact g1 N
      · show jx_w _ (N + d + 2 + 1) _ = _
        rw [jx_w_step (s' := (nI (due - (cm + w)), 1, u1 T 5 f (nI (c + 1)))) (mstep _ (by
          unfold f_X12_comesBack_110i5 f_X12_comesBack_121i5 f_X12_comesBack_149i5
          rw [if_neg (m1_ne (by omega)), if_neg one_ne]
          simp (disch := omega) only [zb_an, cl_n, zb_l, hv.2.2.2.2, c2, nI_1, ne_u1, hv.2.1, u3']
          rw [pk_sub (by omega), Nat.sub_sub]))]
        exact g3 N
theorem qp_takeOut {n : Nat} {land a2 a3 : Int32} {y : Nat → Nat} (hs : Rs n S T) (hy : ∀ s, s < n → S.1 16 s = nI (y s) ∧ T.1 24 s = nI (y s) ∧ y s ≤ cnS S 6 land s) (a1 : Int32) : ∃ S' T', f_X1_takeOut S = some S' ∧ jx_w (g_X12_buy_93 a1 a2 a3) FU (nI 0, T) = some T' ∧ Rs n S' T' ∧ Sm [6] S S' ∧ Sm [5] T T' := by
  obtain ⟨hn, hS, hT, hv⟩ := id hs
  unfold f_X1_takeOut f_X1_takeOut_34
  obtain ⟨S', T', w1, w2, w3, w4, w5⟩ := wl_two g_X1_takeOut_2 (g_X12_buy_93 a1 a2 a3) (fun x z => ∃ i S1 T1, x = (nI i, S1) ∧ z = (nI i, T1) ∧ i ≤ n ∧ Sm [6] S S1 ∧ Sm [5] T T1 ∧ (∀ k, k < n → T1.1 5 k = S1.1 6 k ∧ rg (S1.1 6 k) 0 6) ∧ ∀ k, i ≤ k → S1.1 6 k = S.1 6 k) (fun x => n - x.1.toNatClampNeg) (fun S1 T1 => Sm [6] S S1 ∧ Sm [5] T T1 ∧ ∀ k, k < n → T1.1 5 k = S1.1 6 k ∧ rg (S1.1 6 k) 0 6)
    (fun x z hI' => by
      obtain ⟨i, S1, T1, rfl, rfl, hi, mS, mT, hk, hr⟩ := hI'
      unfold g_X1_takeOut_2 b_X1_takeOut_2 g_X12_buy_93 b_X12_buy_93
      rw [mS.1 1 (by decide), mT.1 0 (by decide), hS, hT]
      by_cases hin : i = n
      · subst hin
        rw [if_pos (nI_le (Nat.le_refl i) (by omega)), if_pos (nI_le (Nat.le_refl i) (by omega))]
        exact Or.inr ⟨_, _, rfl, rfl, mS, mT, hk⟩
      · have hin' : i < n := by omega
        have hle : ¬ nI n ≤ nI i := nI_ge hin' (by omega)
        obtain ⟨c, c1, c2, c3⟩ := h6 hs hin'
        obtain ⟨y1, y2, y3⟩ := hy i hin'
        have hyc : y i ≤ c := by
          unfold cnS at y3
          split at y3
          · omega
          · omega
        have hmu : n - (nI (i + 1)).toNatClampNeg < n - i := by rw [cl_n (by omega)]; omega
        rw [if_neg hle, if_neg hle, if_neg (show ¬ (8 : Int32) ≤ nI i from nI_ge (b := 8) (by omega) (by omega))]
        simp (disch := omega) only [zb_an, cl_n, zb_l, mS.1 16 (by decide), mT.1 24 (by decide), y1, y2, (hk i hin').1, hr i (Nat.le_refl i), c2, nI_1]
        rw [pk_sub hyc]
        refine Or.inl ⟨_, _, rfl, rfl, ⟨i + 1, _, _, rfl, rfl, by omega, Sm_u1 mS (by decide), Sm_u1 mT (by decide), fun k hkn => ?_, fun k hik => ?_⟩, hmu⟩
        · simp only [rd_1, reduceIte]
          by_cases e : k = i
          · rw [if_pos e, if_pos e]; exact ⟨rfl, by unfold rg; rw [nI_toInt (by omega)]; omega⟩
          · rw [if_neg e, if_neg e]; exact hk k hkn
        · simp only [rd_1, reduceIte]
          rw [if_neg (by omega)]; exact hr k (by omega))
    FU (nI 0, S) (nI 0, T) ⟨0, S, T, rfl, rfl, by omega, Sm_rf, Sm_rf, fun k hkn => ⟨(hv k hkn).1.2.2.2.2, (hv k hkn).2.2.2.2.2⟩, fun _ _ => rfl⟩ (FU_lt (show n - _ < 100000 by omega) 0)
  rw [show ((0 : Int32), S) = (nI 0, S) from rfl, w1, zb_s]
  refine ⟨S', T', rfl, w2, ⟨hn, by rw [w3.1 1 (by decide)]; exact hS, by rw [w4.1 0 (by decide)]; exact hT, fun k hk => ?_⟩, w3, w4⟩
  have q := hv k hk
  rw [w3.1 2 (by decide), w3.1 3 (by decide), w3.1 4 (by decide), w3.1 5 (by decide), w4.1 1 (by decide), w4.1 2 (by decide), w4.1 3 (by decide), w4.1 4 (by decide)]
  exact ⟨⟨q.1.1, q.1.2.1, q.1.2.2.1, q.1.2.2.2.1, (w5 k hk).1⟩, q.2.1, q.2.2.1, q.2.2.2.1, q.2.2.2.2.1, (w5 k hk).2⟩
