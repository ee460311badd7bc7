variable {S T : St}
/-- the least amount from a price on -/
theorem qp_least {R : Nat → Bool} {p r : Nat} {land x1 : Int32} (hp : p ≤ 200) (hS : Wd R (S.2 13)) (hT : Wd R (T.2 22)) (hl : ∃ j, j < 4 ∧ land = nI j ∧ T.1 10 j = nI r) (hr : r ≤ 2) : ∃ a, p ≤ a ∧ a ≤ 1921 ∧ jx_w (g_X12_buy_41 x1 land) FU (nI p, T) = some (nI a, T) ∧ (r = 0 → a = p) ∧ (r ≠ 0 → (a = 1921 ∧ f_X5_leastFrom (nI p) S = some (-2, S)) ∨ (a ≤ 1920 ∧ R a = true ∧ f_X5_leastFrom (nI p) S = some (nI a, S))) := by
  obtain ⟨j, hj, rfl, hrl⟩ := hl
  by_cases h0 : r = 0
  · subst h0
    refine ⟨p, Nat.le_refl p, by omega, jx_w_end (n := 99999) ?_, fun _ => rfl, fun z => absurd rfl z⟩
    unfold g_X12_buy_41 b_X12_buy_41
    rw [zb_an _ hj (by omega), cl_n (by omega), hrl, if_pos (by decide)]
  · obtain ⟨rX, rM, w1, w2, a, a1, a2, a3, a4⟩ := wl_two g_X5_leastFrom_2 (g_X12_buy_41 x1 (nI j)) (fun x z => ∃ a, p ≤ a ∧ a ≤ 1921 ∧ x = (nI a, S) ∧ z = (nI a, T)) (fun x => 1922 - x.1.toNatClampNeg) (fun rX rM => ∃ a, p ≤ a ∧ a ≤ 1921 ∧ rM = (nI a, T) ∧ ((a = 1921 ∧ rX = .inl S) ∨ (a ≤ 1920 ∧ R a = true ∧ rX = .inr (nI a, S))))
      (fun x z hI' => by
        obtain ⟨a, a1, a2, rfl, rfl⟩ := hI'
        unfold g_X5_leastFrom_2 b_X5_leastFrom_2 g_X12_buy_41 b_X12_buy_41
        rw [zb_an _ hj (by omega), cl_n (by omega), hrl, if_neg (nI_nle (by omega) (by omega))]
        by_cases h1 : a = 1921
        · subst h1
          rw [if_pos (show (1920 : Int32) < nI 1921 by decide), if_pos (show (1920 : Int32) < nI 1921 by decide)]
          exact Or.inr ⟨_, _, rfl, rfl, 1921, a1, a2, rfl, Or.inl ⟨rfl, rfl⟩⟩
        · have hle : ¬ (1920 : Int32) < nI a := nI_nlt (a := 1920) (by omega) (by omega)
          rw [if_neg hle, if_neg hle, q_can hS (by omega), p_canPay hT (by omega), zb_2, zb_2]
          by_cases z : R a = true
          · rw [if_pos (⟨by omega, z⟩ : a ≤ 1920 ∧ R a = true), if_neg one_ne, if_neg one_ne]
            exact Or.inr ⟨_, _, rfl, rfl, a, a1, a2, rfl, Or.inr ⟨by omega, z, rfl⟩⟩
          · rw [if_neg (fun y : a ≤ 1920 ∧ R a = true => z y.2), if_pos rfl, if_pos rfl, zb_l, zb_l, nI_1]
            exact Or.inl ⟨_, _, rfl, rfl, ⟨a + 1, by omega, by omega, rfl, rfl⟩, by show 1922 - (nI (a + 1)).toNatClampNeg < 1922 - (nI a).toNatClampNeg; rw [cl_n (by omega), cl_n (by omega)]; omega⟩)
      FU (nI p, S) (nI p, T) ⟨p, Nat.le_refl p, by omega, rfl, rfl⟩ (FU_lt (show 1922 - _ < 100000 by omega) 0)
    subst a3
    refine ⟨a, a1, a2, w2, fun z => absurd z h0, fun _ => ?_⟩
    unfold f_X5_leastFrom
    rw [w1, zb_s]
    rcases a4 with ⟨e, rfl⟩ | ⟨e, e2, rfl⟩
    · exact Or.inl ⟨e, rfl⟩
    · exact Or.inr ⟨e, e2, rfl⟩
theorem buy_end {n m t c e d j q : Nat} {S T S5 T4 : St} {lo sp : Int32} (hC : Cmp n m t c e d S T) (hj : j < m) (hq9 : q ≤ 9) (hq : S.1 11 j = nI (q + 1)) (hs5 : Rs n S5 T4) (hS : ∀ a, a ∉ [6, 11] → S5.1 a = S.1 a) (h11 : ∀ i, S5.1 11 i = if i = j then nI q else S.1 11 i) (hS2 : S5.2 = S.2) (hT : Sm [5] T T4) : RR RxC (u1 (u1 S5 39 0 (S5.1 39 0 + lo)) 39 1 ((u1 S5 39 0 (S5.1 39 0 + lo)).1 39 1 + sp)) (u1 (u1 (u1 T4 9 j (nI q)) 0 14 ((u1 T4 9 j (nI q)).1 0 14 + lo)) 0 15 ((u1 (u1 T4 9 j (nI q)) 0 14 ((u1 T4 9 j (nI q)).1 0 14 + lo)).1 0 15 + sp)) := by
  obtain ⟨hs, ht, hm, hp, hch, hi, hd, hh, hx0, hx1⟩ := hC
  refine RR_led (n := n) (m := m) (S := S) (T := T) ?_ ?_ ?_ hp hch hi hd hh hx0 hx1 (fun a ha => ?_) hS2 (fun a ha => ?_) hT.2 (fun i hi' => ?_)
  · refine ⟨hs5.1, ?_, ?_, fun i hi1 => ?_⟩
    · simp (disch := omega) only [ne_u1]; exact hs5.2.1
    · simp only [rd_1, reduceIte, Nat.reduceEqDiff]; exact hs5.2.2.1
    · have q := hs5.2.2.2 i hi1
      simp only [rd_1, reduceIte, Nat.reduceEqDiff]
      exact q
  · refine ⟨ht.1, ?_, ?_, fun i hi1 => ?_⟩
    · simp only [rd_1, reduceIte, Nat.reduceEqDiff]
      rw [hS 7 (by decide)]; exact ht.2.1
    · simp only [rd_1, reduceIte, Nat.reduceEqDiff]
      rw [hT.1 0 (by decide)]; exact ht.2.2.1
    · have qq := ht.2.2.2 i hi1
      simp only [rd_1, reduceIte, Nat.reduceEqDiff]
      rw [hS 8 (by decide), hS 9 (by decide), hS 10 (by decide), h11, hT.1 6 (by decide), hT.1 7 (by decide), hT.1 8 (by decide), hT.1 9 (by decide)]
      by_cases z : i = j
      · rw [if_pos z, if_pos z]
        subst z
        exact ⟨⟨qq.1.1, qq.1.2.1, qq.1.2.2.1, rfl⟩, qq.2.1, qq.2.2.1, qq.2.2.2.1, by unfold rg; rw [nI_toInt (by omega)]; omega⟩
      · rw [if_neg z, if_neg z]; exact qq
  · obtain ⟨a1, a2, a3, a4, a5, a6⟩ := hm
    refine ⟨?_, ?_, ?_, ?_, ?_, ?_⟩
    · simp only [rd_1, reduceIte, Nat.reduceEqDiff]; rw [hS 38 (by decide), hT.1 10 (by decide)]; exact a1
    · simp only [rd_1, reduceIte, Nat.reduceEqDiff]; rw [hS 21 (by decide), hT.1 0 (by decide)]; exact a2
    · simp only [rd_1, reduceIte, Nat.reduceEqDiff]; rw [hS 21 (by decide), hT.1 0 (by decide)]; exact a3
    · simp only [rd_1, reduceIte, Nat.reduceEqDiff]; rw [hS 39 (by decide), hT.1 0 (by decide), a4]
    · simp only [rd_1, reduceIte, Nat.reduceEqDiff]; rw [hS 39 (by decide), hT.1 0 (by decide), a5]
    · simp only [rd_1, reduceIte, Nat.reduceEqDiff]; rw [hS 39 (by decide), hT.1 0 (by decide), a6]
  · simp only [List.mem_cons, List.not_mem_nil, or_false, not_or] at ha
    rw [ne_u1 _ _ _ ha.2.2, ne_u1 _ _ _ ha.2.2]; exact hS a (by simp; omega)
  · simp only [List.mem_cons, List.not_mem_nil, or_false, not_or] at ha
    rw [ne_u1 _ _ _ ha.1, ne_u1 _ _ _ ha.1, ne_u1 _ _ _ ha.2.2]; exact hT.1 a (by simp; omega)
  · simp only [List.mem_cons, List.not_mem_nil, or_false, not_or] at hi'
    simp only [rd_1, reduceIte, Nat.reduceEqDiff, hi'.1, hi'.2.1]
    rw [hT.1 0 (by decide)]
theorem op_buy (a : Int32) (h : RR RxC S T) : OK RxC (f_X11_buy a S) (f_X12_buy a T) := by
  obtain ⟨n, m, t, c, e, d, hC⟩ := id h
  obtain ⟨hs, ht, hm, hp, hch, hi, hd, hh, hx0, hx1⟩ := id hC
  obtain ⟨hm10, hS, hT, hv⟩ := id ht
  unfold f_X11_buy f_X12_buy
  simp only [q_knows9 hS (by omega), p_isThing hT (by omega), zb_2, ite01]
  refine ok_if Iff.rfl (fun _ => ok_r _ h) (fun h1 => ?_)
  obtain ⟨j, hj, rfl⟩ := ix_of (nn h1) (by omega)
  obtain ⟨⟨p, p1, p2, p3, p4⟩, ⟨q, q1, q2, q3⟩⟩ := t_rg ht hj
  have hvj := hv j hj
  obtain ⟨l, hl, hle⟩ := ix_of (x := S.1 8 j) (n := 4) ⟨hvj.2.1.1, by have := hvj.2.1.2; omega⟩ (by omega)
  have hrl := hm.1 l hl
  obtain ⟨r, hr, hre⟩ := ix_of (x := S.1 38 l) (n := 3) ⟨hrl.2.1, by have := hrl.2.2; omega⟩ (by omega)
  simp (disch := omega) only [zb_an, cl_n, zb_l, hvj.1.2.2.2, hvj.1.1, hle, p3, q2, hre]
  refine ok_if Iff.rfl (fun _ => ok_r _ h) (fun hq0 => ?_)
  have hq0' : q ≠ 0 := fun z => hq0 (by rw [z]; rfl)
  obtain ⟨S1, T1, L, e1, e2, e3, e4, e5, e6, e7, e8⟩ := qp_pays hs (nI l)
  have k1 := Fb_KX e6
  have j1 := Fb_KM e7
  have hC1 := Cmp_keep hC k1 j1
  have hR1 := RR_keep h k1 j1
  have hs1 := hC1.1
  rw [e1, e2, zb_s, zb_s, e7.1, hvj.1.2.1, p3]
  obtain ⟨am, a1, a2, a3, a4, a5⟩ := qp_least (S := S1) (T := T1) (x1 := nI j) (land := nI l) (p := p) (r := r) p2 e4 e5 ⟨l, hl, rfl, by rw [e7.1, hrl.1]; exact hre⟩ (by omega)
  rw [a3, zb_s]
  -- both pay, or both can't
  obtain ⟨S2, T2, s1, s2, s3⟩ := qp_pay (how := true) (land := nI l) (m := am) hs1 (by omega)
  have hcn := cnS_keep k1 (nI l)
  have k2 := KX_Sm s1 (by decide)
  have j2 := KM_Sm s2 (by decide)
  have hC2 := Cmp_keep hC1 k2 j2
  have hR2 := RR_keep hR1 k2 j2
  have iff : rch L am = (V (pl (cnS S1 6 (nI l)) (wnS S1) (Mh true) g8 n) am).isSome := by
    rw [e3, ← hcn.1, ← hcn.2, cl_pl (cnS S1 6 (nI l)) (wnS S1) (Mh true) g8 n, rch_V]
  have h38 : T2.1 10 l = nI r := by rw [j2.1 10 (by decide), j1.1 10 (by decide), hrl.1]; exact hre
  have can := p_canPay e5 (m := am) (by omega)
  by_cases ok : am ≤ 1920 ∧ rch L am = true
  · -- it is paid
    have hpay : ∃ (t : Nat) (y : Nat → Nat), t ≤ 100 ∧ f_X5_pay (nI l) (nI am) (hI true) S1 = some (nI t, S2) ∧ f_X12_payment (nI l) (nI am) (hI true) T1 = some (nI t, T2) ∧ ∀ s, s < n → S2.1 16 s = nI (y s) ∧ T2.1 24 s = nI (y s) ∧ y s ≤ cnS S1 6 (nI l) s := by
      rcases s3 with ⟨z | z, -⟩ | ⟨t, y, z1, z2, z3, z4, z5, z6⟩
      · rw [z] at iff; rw [iff] at ok; exact absurd ok.2 (by decide)
      · omega
      · exact ⟨t, y, z3, z4, z5, z6⟩
    obtain ⟨tt, y, y1, y2, y3, y4⟩ := hpay
    have hcn2 : cnS S2 6 (nI l) = cnS S1 6 (nI l) := (cnS_keep k2 (nI l)).1
    obtain ⟨S3, T3, f1, f2, f3, f4, f5⟩ := qp_takeOut (land := nI l) (a2 := nI l) (a3 := nI am) (y := y) hC2.1 (fun s hs' => by rw [hcn2]; exact y4 s hs') (nI j)
    obtain ⟨qq, rfl⟩ : ∃ z, q = z + 1 := ⟨q - 1, by omega⟩
    have h11 : S2.1 11 j = nI (qq + 1) := by rw [k2.1 11 (by decide), k1.1 11 (by decide)]; exact q2
    have m311 : S3.1 11 j = nI (qq + 1) := by rw [f4.1 11 (by decide)]; exact h11
    have t39 : T3.1 9 j = nI (qq + 1) := by rw [f5.1 9 (by decide), j2.1 9 (by decide), j1.1 9 (by decide), hvj.1.2.2.2]; exact q2
    have t37 : T3.1 7 j = nI p := by rw [f5.1 7 (by decide), j2.1 7 (by decide), j1.1 7 (by decide), hvj.1.2.1]; exact p3
    have hs4 : Rs n (u1 S3 11 j (nI qq)) T3 := ⟨f3.1, by rw [ne_u1 _ _ _ (by decide)]; exact f3.2.1, f3.2.2.1, fun i hi1 => by
      have := f3.2.2.2 i hi1
      simp only [rd_1, reduceIte, Nat.reduceEqDiff]
      exact this⟩
    obtain ⟨rr, came, S5, T4, g1, g2, g3, g4, g5, g6, g7⟩ := qp_back (n := n) (due := am - p) (land := nI l) (by omega) 48 0 0 (u1 S3 11 j (nI qq)) T3 rfl hs4 (by omega) (Nat.zero_le _)
    -- what stays from S2 to the end
    have keep : ∀ (S5 T4 : St) (cm : Nat), Rs n S5 T4 → Sm [6] (u1 S3 11 j (nI qq)) S5 → Sm [5] T3 T4 → OK RxC (f_X11_buy_173 (nI am) (nI (am - p)) (nI cm) S5) (f_X12_buy_152 (nI j) (nI am) (nI cm) T4) := fun S5 T4 cm w1 w2 w3 => by
      have c0 : Int32.toNatClampNeg (0 : Int32) = 0 := rfl
      have c1 : Int32.toNatClampNeg (1 : Int32) = 1 := rfl
      have t49 : T4.1 9 j = nI (qq + 1) := by rw [w3.1 9 (by decide)]; exact t39
      have t47 : T4.1 7 j = nI p := by rw [w3.1 7 (by decide)]; exact t37
      unfold f_X11_buy_173 f_X12_buy_152
      rw [zb_a _ (by decide), zb_a _ (by decide), zb_l, zb_a _ (by decide), zb_a _ (by decide), zb_l, c0, c1, zb_an _ (by omega) (by omega), zb_an _ (by omega) (by omega), zb_l, zb_an _ (by omega) (by omega), zb_l, zb_l, cl_n (by omega), t49, nI_pred, show (u1 T4 9 j (nI qq)).1 7 = T4.1 7 from ne_u1 _ _ _ (by decide), t47, pk_sub a1]
      exact ok_mk rfl (buy_end (S := S2) (T := T2) (S5 := S5) (T4 := T4) hC2 hj (by omega) h11 w1 (fun a ha => by
        rw [w2.1 a (by simp at ha ⊢; omega), ne_u1 _ _ _ (by simp at ha; omega)]; exact f4.1 a (by simp at ha ⊢; omega)) (fun i => by
        rw [w2.1 11 (by decide), rd_1, if_pos rfl, f4.1 11 (by decide)]) (by rw [w2.2]; exact f4.2) (Sm_tr f5 w3))
    have X92 : f_X11_buy_92 (nI j) (nI l) (nI p) (nI r) (nI am) S1 = (if nI r = (2 : Int32) then jx_b2 (f_X1_bringBack (nI l) (nI (am - p)) (u1 S3 11 j (nI qq))) (fun r_42 S_40 => f_X11_buy_173 (nI am) (nI (am - p)) r_42 S_40) else f_X11_buy_173 (nI am) (nI (am - p)) (0 : Int32) (u1 S3 11 j (nI qq))) := by
      unfold f_X11_buy_92
      rw [if_neg (nI_pos (by omega)), show f_X5_pay (nI l) (nI am) 1 S1 = some (nI tt, S2) from y2, zb_2, if_pos (nI_pos' (by omega)), f1, zb_s, zb_an _ (by omega) (by omega), zb_an _ (by omega) (by omega), zb_l, zb_l, cl_n (by omega), m311, nI_pred, pk_sub a1]
    have M71 : f_X12_buy_71 (nI j) (nI l) (nI am) T1 = (if nI r = (2 : Int32) then jx_b2 (f_X12_comesBack (nI l) (nI (am - p)) T3) (fun r_41 S_39 => f_X12_buy_152 (nI j) (nI am) r_41 S_39) else f_X12_buy_152 (nI j) (nI am) (0 : Int32) T3) := by
      unfold f_X12_buy_71 f_X12_buy_125
      rw [can, zb_2, if_pos ok, if_neg one_ne, show f_X12_payment (nI l) (nI am) 1 T1 = some (nI tt, T2) from y3, zb_2, show ((0 : Int32), T2) = (nI 0, T2) from rfl, f2, zb_s, zb_an _ (by omega) (by omega), zb_an _ (by omega) (by omega), cl_n (by omega), cl_n (by omega), f5.1 10 (by decide), h38, t37, pk_sub a1]
    have fin : OK RxC (f_X11_buy_92 (nI j) (nI l) (nI p) (nI r) (nI am) S1) (f_X12_buy_71 (nI j) (nI l) (nI am) T1) := by
      rw [X92, M71]
      refine ok_if Iff.rfl (fun _ => ?_) (fun _ => ?_)
      · unfold f_X1_bringBack f_X12_comesBack f_X12_comesBack_152
        have g1' := g1 99951
        have g3' := g3 99950
        rw [Nat.sub_zero] at g3'
        rw [show ((0 : Int32), (0 : Int32), u1 S3 11 j (nI qq)) = (nI 0, nI 0, u1 S3 11 j (nI qq)) from rfl, show FU = 99951 + 48 + 1 from rfl, g1', zb_s, show 99951 + 48 + 1 = 99950 + 48 + 2 from rfl, g3', zb_s]
        show OK RxC (jx_b2 (Sum.elim (fun z => f_X1_bringBack_57 z.1 z.2) (fun z => f_X1_bringBack_27 z.1 z.2) rr) _) (jx_b2 (some (nI (am - p) - nI (am - p - came), T4)) _)
        rw [g2, zb_2, zb_2, pk_sub (by omega), show am - p - (am - p - came) = came by omega]
        exact keep S5 T4 came g5 g6 g7
      · exact keep (u1 S3 11 j (nI qq)) T3 0 hs4 Sm_rf Sm_rf
    by_cases hr0 : r = 0
    · have ea := a4 hr0
      rw [if_pos (show nI r = 0 by rw [hr0]; rfl)]
      rw [ea] at fin ⊢
      exact fin
    · rw [if_neg (nI_ne0 (by omega) (by omega))]
      rcases a5 hr0 with ⟨z, -⟩ | ⟨-, -, z⟩
      · omega
      · rw [z, zb_2]; exact fin
  · -- it can't be paid
    have M : f_X12_buy_71 (nI j) (nI l) (nI am) T1 = some (-2, T1) := by
      unfold f_X12_buy_71
      rw [can, zb_2, if_neg ok, if_pos rfl]
    rw [M]
    by_cases hr0 : r = 0
    · have ea := a4 hr0
      rw [if_pos (show nI r = 0 by rw [hr0]; rfl)]
      rcases s3 with ⟨-, z1, -⟩ | ⟨t, y, z1, ⟨v, z2⟩, -⟩
      · unfold f_X11_buy_92
        rw [if_neg (nI_pos (by omega)), ← ea, show f_X5_pay (nI l) (nI am) 1 S1 = some (-2, S2) from z1, zb_2, if_neg (by decide)]
        exact ok_mk rfl (RR_keep hR1 k2 KM_rf)
      · rw [z2] at iff
        exact absurd ⟨z1, iff⟩ ok
    · rw [if_neg (nI_ne0 (by omega) (by omega))]
      rcases a5 hr0 with ⟨-, z⟩ | ⟨z1, z2, -⟩
      · rw [z, zb_2]
        unfold f_X11_buy_92
        rw [if_pos (by decide)]
        exact ok_r _ hR1
      · exact absurd ⟨z1, z2⟩ ok
