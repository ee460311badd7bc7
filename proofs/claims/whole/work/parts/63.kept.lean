variable {S T : St}
/-! kept -/
def nmY (w l s y : Int32) : Nat → Int32 := fun k => if k = 3 then w else if k = 4 then l else if k = 5 then s else if k = 6 then y else 0
def yv (L : Lns) (w l s y : Int32) : Int32 := clI 0 9999 (tv (nmY w l s y) L)
theorem q_years {L : Lns} {n j : Nat} (hs : Rs n S T) (hj : j < n) (h : TX 1 L S T) (y : Int32) : ∃ S', f_X11_yearsWorth (nI j) y S = some (yv L (S.1 3 j) (S.1 2 j) (S.1 4 j) y, S') ∧ KX S S' ∧ Sm [46, 47] S S' := by
  obtain ⟨hn, hS, hT, hv⟩ := hs
  obtain ⟨a1, a2, a3, a4, a5, a6, a7, a8, a9⟩ := h
  have c3 : Int32.toNatClampNeg (3 : Int32) = 3 := rfl
  have c4 : Int32.toNatClampNeg (4 : Int32) = 4 := rfl
  have c5 : Int32.toNatClampNeg (5 : Int32) = 5 := rfl
  have c6 : Int32.toNatClampNeg (6 : Int32) = 6 := rfl
  unfold f_X11_yearsWorth yv
  rw [zb_an _ (by omega) (by omega), zb_a _ (by decide), zb_l, zb_an _ (by omega) (by omega), zb_a _ (by decide), zb_l, zb_an _ (by omega) (by omega), zb_a _ (by decide), zb_l, zb_a _ (by decide), zb_l, cl_n (by omega)]
  generalize hS1 : u1 (u1 (u1 (u1 S (40 + 4 * 1 + 3) (Int32.toNatClampNeg 3) (S.1 3 j)) (40 + 4 * 1 + 3) (Int32.toNatClampNeg 4) ((u1 S (40 + 4 * 1 + 3) (Int32.toNatClampNeg 3) (S.1 3 j)).1 2 j)) (40 + 4 * 1 + 3) (Int32.toNatClampNeg 5) ((u1 (u1 S (40 + 4 * 1 + 3) (Int32.toNatClampNeg 3) (S.1 3 j)) (40 + 4 * 1 + 3) (Int32.toNatClampNeg 4) ((u1 S (40 + 4 * 1 + 3) (Int32.toNatClampNeg 3) (S.1 3 j)).1 2 j)).1 4 j)) (40 + 4 * 1 + 3) (Int32.toNatClampNeg 6) y = S1
  have hS1' : S1 = u1 (u1 (u1 (u1 S 47 3 (S.1 3 j)) 47 4 (S.1 2 j)) 47 5 (S.1 4 j)) 47 6 y := by rw [← hS1]; rfl
  have k1 : KX S S1 := by
    rw [hS1']
    exact KX_tr (KX_tr (KX_tr (KX_u1 (by unfold okX; decide)) (KX_u1 (by unfold okX; decide))) (KX_u1 (by unfold okX; decide))) (KX_u1 (by unfold okX; decide))
  have m0 : Sm [46, 47] S S1 := by rw [hS1']; exact Sm_u1 (Sm_u1 (Sm_u1 (Sm_one (by decide)) (by decide)) (by decide)) (by decide)
  have m1 : ∀ a, a ≠ 47 → S1.1 a = S.1 a := fun a ha => by rw [hS1', ne_u1 _ _ _ ha, ne_u1 _ _ _ ha, ne_u1 _ _ _ ha, ne_u1 _ _ _ ha]
  obtain ⟨S2, w1, w2⟩ := q_worked (t := 1) (L := L) (S := S1) (by rw [m1 _ (by decide)]; exact a2) a3 (by rw [m1 _ (by decide)]; exact a5) a8
  have hn : tv (S1.1 (40 + 4 * 1 + 3)) L = tv (nmY (S.1 3 j) (S.1 2 j) (S.1 4 j) y) L := tv_congr (fun k hk => by
    rw [hS1']
    simp only [rd_1, reduceIte, Nat.reduceMul, Nat.reduceAdd]
    unfold nmY
    rcases lt7 hk with e | e | e | e | e | e | e <;> subst e
    · exact a9 _ hk (by decide)
    · exact a9 _ hk (by decide)
    · exact a9 _ hk (by decide)
    all_goals rfl) a8
  rw [w1, zb_2, hn, q_bounded (by decide), zb_2]
  exact ⟨S2, rfl, KX_tr k1 (KX_Sm w2 (by decide)), Sm_tr m0 ⟨fun a ha => w2.1 a (by simp at ha ⊢; omega), w2.2⟩⟩
/-- the worth of all sorts in a year: both loops step alike -/
theorem qp_year {L : Lns} {n : Nat} (hs : Rs n S T) (hL : TX 1 L S T) (y : Int32) : ∃ r S' T', f_X11_purseInYear y S = some (r, S') ∧ f_X12_keptFor y T = some (r, T') ∧ KX S S' ∧ KM T T' := by
  obtain ⟨hn, hS, hT, hv⟩ := id hs
  obtain ⟨⟨r, S'⟩, ⟨r2, T'⟩, e1, e2, e3, e4, e5⟩ := wl_two (g_X11_purseInYear_4 y) (g_X12_keptFor_4 y) (fun s t => ∃ v i S1 T1, s = (v, nI i, S1) ∧ t = (v, nI i, T1) ∧ i ≤ n ∧ KX S S1 ∧ KM T T1 ∧ Sm [46, 47] S S1 ∧ Sm [20, 21] T T1) (fun s => n - s.2.1.toNatClampNeg) (fun r r2 => r.1 = r2.1 ∧ KX S r.2 ∧ KM T r2.2)
    (fun s t hI => by
      obtain ⟨v, i, S1, T1, rfl, rfl, hi, kS, kT, mS, mT⟩ := hI
      have hL' := TX_keep (by decide) hL kS kT
      unfold g_X11_purseInYear_4 b_X11_purseInYear_4 g_X12_keptFor_4 b_X12_keptFor_4
      simp only [mS.1 1 (by decide), mT.1 0 (by decide), hS, hT]
      by_cases hin : i = n
      · subst hin
        rw [if_pos (nI_le (Nat.le_refl i) (by omega)), if_pos (nI_le (Nat.le_refl i) (by omega))]
        exact Or.inr ⟨_, _, rfl, rfl, rfl, kS, kT⟩
      · have hin' : i < n := by omega
        have hvi := hv i hin'
        have hle : ¬ nI n ≤ nI i := nI_ge hin' (by omega)
        have hmu : n - (nI (i + 1)).toNatClampNeg < n - i := by rw [cl_n (by omega)]; omega
        rw [if_neg hle, if_neg hle]
        obtain ⟨T2, f1, m2, v0, v1, v2, v3, v4, v5, v6⟩ := p_names (T := T1) 0 0 0 (S.1 3 i) (S.1 2 i) (S.1 4 i) y
        have k2 : KM T1 T2 := KM_Sm m2 (by decide)
        unfold f_X11_purseInYear_56i4 f_X12_keptFor_75i4
        simp (disch := omega) only [zb_an, cl_n, zb_l, mS.1 3 (by decide), mS.1 6 (by decide), mT.1 2 (by decide), mT.1 1 (by decide), mT.1 3 (by decide), mT.1 5 (by decide), f1, zb_s, m2.1 5 (by decide), m2.1 2 (by decide), m2.1 13 (by decide), hvi.1.1, hvi.1.2.1, hvi.1.2.2.1, hvi.1.2.2.2.2, nI_1]
        rw [zb_a _ (by decide), show T1.1 13 (Int32.toNatClampNeg 1) = nI L.length from hL'.2.2.2.2.2.1, show S1.1 (40 + 4 * 1) 4 = (if L = [] then 0 else 1) from hL'.1]
        refine Or.inl ?_
        by_cases z : L = []
        · rw [if_pos z, if_pos rfl, if_pos (by rw [z]; rfl)]
          exact ⟨_, _, rfl, rfl, ⟨_, i + 1, S1, T2, rfl, rfl, by omega, kS, KM_tr kT k2, mS, Sm_tr mT ⟨fun a ha => m2.1 a (by simp at ha ⊢; omega), m2.2⟩⟩, hmu⟩
        · have hl : L.length ≠ 0 := fun e => z (List.eq_nil_of_length_eq_zero e)
          have hl64 : L.length ≤ 64 := hL'.2.2.2.1
          rw [if_neg z, if_neg one_ne, if_neg (nI_ne0 (by omega) (by omega))]
          have m12 : Sm [20, 21] T1 T2 := ⟨fun a ha => m2.1 a (by simp at ha ⊢; omega), m2.2⟩
          obtain ⟨T3, t1, t2⟩ := p_told (w := 1) (L := L) (T := T2) (by decide) (LM_congr (fun a x y => m2.1 a (by simp; omega)) hL'.2.2.2.2.2.2.1) hL'.2.2.2.2.2.2.2.1 hl64 (by have := flat_len L; have := hL'.2.2.1; omega) (by rw [m2.1 13 (by decide)]; exact hL'.2.2.2.2.2.1)
          have m23 : Sm [20, 21] T2 T3 := ⟨fun a ha => t2.1 a (by simp at ha ⊢; omega), t2.2⟩
          have hnm : tv (T2.1 20) L = tv (nmY (S.1 3 i) (S.1 2 i) (S.1 4 i) y) L := tv_congr (fun k hk => by
            rcases lt7 hk with e | e | e | e | e | e | e <;> subst e
            · exact v0
            · exact v1
            · exact v2
            · exact v3
            · exact v4
            · exact v5
            · exact v6) hL'.2.2.2.2.2.2.2.1
          rw [show (1 : Int32) = nI 1 from rfl, t1, zb_2, hnm, p_within (by decide), zb_2]
          by_cases h0 : S.1 6 i ≤ 0
          · have e0 : S.1 6 i = 0 := Int32.toInt_inj.mp (by have := hvi.2.2.2.2.2.1; rw [i32_le] at h0; have z0 : (0 : Int32).toInt = 0 := rfl; omega)
            rw [if_pos h0, e0, Int32.zero_mul, Int32.zero_mul]
            exact ⟨_, _, rfl, rfl, ⟨_, i + 1, S1, T3, rfl, rfl, by omega, kS, KM_tr (KM_tr kT k2) (KM_Sm t2 (by decide)), mS, Sm_tr (Sm_tr mT m12) m23⟩, hmu⟩
          · rw [if_neg h0]
            have hs1 : Rs n S1 T := ⟨hn, by rw [mS.1 1 (by decide)]; exact hS, hT, by rw [mS.1 2 (by decide), mS.1 3 (by decide), mS.1 4 (by decide), mS.1 5 (by decide), mS.1 6 (by decide)]; exact hv⟩
            obtain ⟨S2, g1, g2, g3⟩ := q_years (L := L) hs1 hin' (TX_keep (by decide) hL kS KM_rf) y
            rw [g1, zb_2, g3.1 6 (by decide), mS.1 6 (by decide), mS.1 3 (by decide), mS.1 2 (by decide), mS.1 4 (by decide)]
            exact ⟨_, _, rfl, rfl, ⟨_, i + 1, S2, T3, rfl, rfl, by omega, KX_tr kS g2, KM_tr (KM_tr kT k2) (KM_Sm t2 (by decide)), Sm_tr mS g3, Sm_tr (Sm_tr mT m12) m23⟩, hmu⟩)
    FU (0, nI 0, S) (0, nI 0, T) ⟨0, 0, S, T, rfl, rfl, by omega, KX_rf, KM_rf, Sm_rf, Sm_rf⟩ (FU_lt (show n - _ < 100000 by omega) 0)
  simp only at e3 e4 e5
  subst e3
  unfold f_X11_purseInYear f_X12_keptFor
  rw [show ((0 : Int32), (0 : Int32), S) = (0, nI 0, S) from rfl, e1, show ((0 : Int32), (0 : Int32), T) = (0, nI 0, T) from rfl, e2]
  exact ⟨r, S', T', rfl, rfl, e4, e5⟩
theorem RR_in {S' T' : St} {n : Nat} {L : Lns} (hs : Rs n S T) (hL : TX 1 L S T) (hS : KX S S') (hT : KM T T') : Rs n S' T' ∧ TX 1 L S' T' := by
  refine ⟨?_, TX_keep (by decide) hL hS hT⟩
  unfold Rs
  rw [hS.1 1 (by decide), hS.1 2 (by decide), hS.1 3 (by decide), hS.1 4 (by decide), hS.1 5 (by decide), hS.1 6 (by decide), hT.1 1 (by decide), hT.1 2 (by decide), hT.1 3 (by decide), hT.1 4 (by decide), hT.1 5 (by decide), hT.2.1 0 (by decide)]
  exact hs
theorem op_kept (a : Int32) (h : RR RxC S T) : OK RxC (f_X11_kept a S) (f_X12_kept a T) := by
  obtain ⟨n, m, t, c, e, d, hs, ht, hm, hp, hch, hi, hd, hh, hx0, hx1⟩ := id h
  obtain ⟨L, hL⟩ := hx1 (by decide)
  unfold f_X11_kept f_X12_kept
  simp only [q_within, p_in, zb_2, ite01]
  refine ok_if Iff.rfl (fun _ => ok_if Iff.rfl (fun _ => ok_r _ h) (fun h2 => ?_)) (fun h1 => ?_)
  · obtain ⟨r, S1, T1, e1, e2, e3, e4⟩ := qp_year hs hL 0
    rw [e1, e2, zb_2, zb_2]
    obtain ⟨⟨b, m1, S2⟩, ⟨b2, m2, T2⟩, w1, w2, w3, w4, w5, w6⟩ := wl_two (g_X11_kept_40 a) (g_X12_kept_40 a) (fun s t => ∃ b m i S1 T1, s = (b, m, nI i, S1) ∧ t = (b, m, nI i, T1) ∧ i ≤ 61 ∧ KX S S1 ∧ KM T T1) (fun s => 61 - s.2.2.1.toNatClampNeg) (fun r r2 => r.1 = r2.1 ∧ r.2.1 = r2.2.1 ∧ KX S r.2.2 ∧ KM T r2.2.2)
      (fun s t hI => by
        obtain ⟨b, mm, i, S1, T1, rfl, rfl, hi, kS, kT⟩ := hI
        unfold g_X11_kept_40 b_X11_kept_40 g_X12_kept_40 b_X12_kept_40
        by_cases h61 : i = 61
        · subst h61
          rw [if_pos (show (60 : Int32) < nI 61 by decide), if_pos (show (60 : Int32) < nI 61 by decide)]
          exact Or.inr ⟨_, _, rfl, rfl, rfl, rfl, kS, kT⟩
        · have hn : ¬ (60 : Int32) < nI i := nI_nlt (a := 60) (b := i) (by omega) (by omega)
          rw [if_neg hn, if_neg hn]
          obtain ⟨hs', hL'⟩ := RR_in hs hL kS kT
          obtain ⟨r, S2, T2, e1, e2, e3, e4⟩ := qp_year hs' hL' (nI i)
          have hmu : 61 - (nI (i + 1)).toNatClampNeg < 61 - (nI i).toNatClampNeg := by rw [cl_n (by omega), cl_n (by omega)]; omega
          rw [e1, e2, zb_2, zb_2]
          unfold f_X11_kept_67i40 f_X12_kept_67i40 f_X12_kept_80i40
          simp only [zb_l, nI_1]
          refine Or.inl ?_
          by_cases q : r ≤ mm
          · rw [if_pos q, if_pos q, if_pos q]
            exact ⟨_, _, rfl, rfl, ⟨_, _, i + 1, S2, T2, rfl, rfl, by omega, KX_tr kS e3, KM_tr kT e4⟩, hmu⟩
          · rw [if_neg q, if_neg q, if_neg q]
            exact ⟨_, _, rfl, rfl, ⟨_, _, i + 1, S2, T2, rfl, rfl, by omega, KX_tr kS e3, KM_tr kT e4⟩, hmu⟩)
      FU (0, r, nI 1, S1) (0, r, nI 1, T1) ⟨0, r, 1, S1, T1, rfl, rfl, by omega, e3, e4⟩ (FU_lt (show 61 - _ < 100000 by omega) 0)
    rw [show ((0 : Int32), r, (1 : Int32), S1) = (0, r, nI 1, S1) from rfl, w1, show ((0 : Int32), r, (1 : Int32), T1) = (0, r, nI 1, T1) from rfl, w2, zb_s, zb_s]
    simp only at w3 w4 w5 w6
    subst w3; subst w4
    have hR := RR_keep h w5 w6
    unfold f_X11_kept_73 f_X12_kept_87
    exact ok_if Iff.rfl (fun _ => ok_r _ hR) (fun _ => ok_r _ hR)
  · obtain ⟨r, S1, T1, e1, e2, e3, e4⟩ := qp_year hs hL a
    rw [e1, e2, zb_2, zb_2]
    exact ok_mk rfl (RR_keep h e3 e4)
