variable {S T : St}
/-! swaps: one gift tried -/
theorem rch_mono {c c' w : Nat → Nat} {n m : Nat} (h : ∀ k, k < n → c' k ≤ c k) (hr : rch (cl c' w n) m = true) : rch (cl c w n) m = true := by
  rw [cl_pl c' w 0 (fun _ => 0) n, rch_V] at hr
  rw [cl_pl c w 0 (fun _ => 0) n, rch_V]
  obtain ⟨v, hv⟩ := Option.isSome_iff_exists.mp hr
  obtain ⟨x, x1, x2, -⟩ := V_specA n m v hv
  obtain ⟨u, u1', -⟩ := V_specB (c := c) (w := w) (M := 0) (g := fun _ => 0) n m x (fun s hs => Nat.le_trans (x1 s hs) (h s hs)) x2
  rw [u1']; rfl
/-- the coins in play behind a gift -/
def cg (S : St) (land : Int32) (s i o j k : Nat) : Nat := if S.1 2 k = land then (if k = o then (S.1 6 k).toNatClampNeg + j else if k = s then (S.1 6 k).toNatClampNeg - i else (S.1 6 k).toNatClampNeg) else 0
/-- the gift may be made -/
def fair (L : Lns) (S : St) (day : Int32) (s i o j : Nat) : Prop := s ≠ o ∧ i ≤ (S.1 6 s).toNatClampNeg ∧ (S.1 6 o).toNatClampNeg + j ≤ 6 ∧ j * (S.1 3 o).toNatClampNeg ≤ i * (S.1 3 s).toNatClampNeg * rN L (S.1 2 s) (S.1 2 o) day / 1000
theorem q_fair {L : Lns} {n s i o j : Nat} (hs : Rs n S T) (hL : TX 0 L S T) (hsn : s < n) (hon : o < n) (hi : 1 ≤ i ∧ i ≤ 3) (hj : 1 ≤ j ∧ j ≤ 3) (day : Int32) : ∃ S', KX S S' ∧ Sm [42, 43] S S' ∧ ((fair L S day s i o j ∧ f_X11_isFair day (nI s) (nI i) (nI o) (nI j) S = some (1, S')) ∨ (¬ fair L S day s i o j ∧ f_X11_isFair day (nI s) (nI i) (nI o) (nI j) S = some (0, S'))) := by
  obtain ⟨hn, hS, hT, hv⟩ := id hs
  obtain ⟨ws, a1, a2, a3, a4⟩ := w40 hs hsn
  obtain ⟨wo, b1, b2, b3, b4⟩ := w40 hs hon
  obtain ⟨cs, c1, c2, c3⟩ := h6 hs hsn
  obtain ⟨co, d1, d2, d3⟩ := h6 hs hon
  unfold f_X11_isFair
  by_cases e : s = o
  · rw [if_pos (by rw [e])]
    exact ⟨S, KX_rf, Sm_rf, Or.inr ⟨fun z => z.1 e, rfl⟩⟩
  · rw [if_neg (fun z => e ((nI_eq (by omega) (by omega)).mp z)), zb_an _ (by omega) (by omega), cl_n (by omega), c2]
    by_cases e1 : cs < i
    · rw [if_pos (nI_lt e1 (by omega))]
      exact ⟨S, KX_rf, Sm_rf, Or.inr ⟨fun z => by have := z.2.1; rw [c3] at this; omega, rfl⟩⟩
    · rw [if_neg (nI_nlt (by omega) (by omega)), zb_an _ (by omega) (by omega), cl_n (by omega), d2, nI_add]
      by_cases e2 : co + j ≤ 6
      · have hmul : i * ws ≤ 3 * 40 := Nat.mul_le_mul hi.2 a2
        obtain ⟨S', f1, f2, f3⟩ := q_exchanged (x := i * ws) hL (by omega) (S.1 2 s) (S.1 2 o) day
        rw [if_pos (by exact nI_le (b := 6) e2 (by omega)), zb_an _ (by omega) (by omega), zb_an _ (by omega) (by omega), zb_an _ (by omega) (by omega), a3, pk_mul, f1, zb_2, zb_an _ (by omega) (by omega), f3.1 3 (by decide), b3, pk_mul]
        have hr := (rN_le L (S.1 2 s) (S.1 2 o) day).2
        have hx : i * ws * rN L (S.1 2 s) (S.1 2 o) day ≤ 3 * 40 * 9999 := Nat.mul_le_mul hmul hr
        have hy : j * wo ≤ 3 * 40 := Nat.mul_le_mul hj.2 b2
        by_cases e3 : j * wo ≤ i * ws * rN L (S.1 2 s) (S.1 2 o) day / 1000
        · rw [if_neg (nI_nlt e3 (by omega))]
          exact ⟨S', f2, f3, Or.inl ⟨by unfold fair; exact ⟨e, by rw [c3]; omega, by rw [d3]; exact e2, by rw [a4, b4]; exact e3⟩, rfl⟩⟩
        · rw [if_pos (nI_lt (by omega) (by omega))]
          exact ⟨S', f2, f3, Or.inr ⟨fun z => by have := z.2.2.2; rw [a4, b4] at this; exact e3 this, rfl⟩⟩
      · rw [if_neg (show ¬ nI (co + j) ≤ (6 : Int32) from fun z => e2 ((nI_leI (b := 6) (by omega) (by omega)).mp z))]
        exact ⟨S, KX_rf, Sm_rf, Or.inr ⟨fun z => by have := z.2.2.1; rw [d3] at this; exact e2 this, rfl⟩⟩
theorem cg_le {n s i o j k : Nat} {land : Int32} (hs : Rs n S T) (hon : o < n) (hk : k < n) (ho : (S.1 6 o).toNatClampNeg + j ≤ 6) : cg S land s i o j k ≤ 6 := by
  obtain ⟨c, c1, c2, c3⟩ := h6 hs hk
  unfold cg
  split
  · split
    · rename_i e; rw [e]; exact ho
    · split <;> omega
  · omega
/-- does the gift help: the class -/
theorem q_helps {n s i o j A : Nat} {la land : Int32} (hs : Rs n S T) (hsn : s < n) (hon : o < n) (hso : s ≠ o) (hi : 1 ≤ i ∧ i ≤ (S.1 6 s).toNatClampNeg) (hj : 1 ≤ j) (ho : (S.1 6 o).toNatClampNeg + j ≤ 6) (e1 : la / 10000 = land) (e2 : la - la / 10000 * 10000 = nI A) (hA : A < 10000) : ∃ S', KX S S' ∧ f_X11_helps la (nI s) (nI i) (nI o) (nI j) S = some (if S.1 2 o = land ∧ (A ≤ 1920 ∧ rch (cl (cg S land s i o j) (wnS S) n) A = true) then 1 else 0, S') := by
  obtain ⟨hn, hS, hT, hv⟩ := id hs
  obtain ⟨cs, c1, c2, c3⟩ := h6 hs hsn
  obtain ⟨co, d1, d2, d3⟩ := h6 hs hon
  unfold f_X11_helps
  rw [c10000, zb_l, e1, zb_an _ (by omega) (by omega), cl_n (by omega)]
  by_cases hl : S.1 2 o = land
  · rw [if_pos hl, zb_c _ (by decide), zb_l]
    have r0 : Int32.toNatClampNeg (0 : Int32) = 0 := rfl
    have r8 : Int32.toNatClampNeg (8 : Int32) = 8 := rfl
    rw [r0, r8]
    generalize hS1 : s1 S 17 (va_cpy (S.1 6) (S.1 17) 0 0 8) = S1
    have h17 : ∀ k, k < 8 → S1.1 17 k = S.1 6 k := fun k hk => by
      rw [← hS1, rd_s1, if_pos rfl, pk_cpy_in (by omega) (by omega), Nat.zero_add, Nat.sub_zero]
    have m1 : Sm [17] S S1 := by rw [← hS1]; exact Sm_s1 Sm_rf (by decide)
    simp (disch := omega) only [zb_an, cl_n, zb_l, h17, c2]
    rw [c3] at hi
    rw [d3] at ho
    rw [pk_sub hi.2]
    rw [show (u1 S1 17 s (nI (cs - i))).1 17 o = nI co from by rw [rd_1, if_pos rfl, if_neg (fun z => hso z.symm), h17 o (by omega), d2], nI_add]
    generalize hS3 : u1 (u1 S1 17 s (nI (cs - i))) 17 o (nI (co + j)) = S3
    have m3 : Sm [17] S S3 := by rw [← hS3]; exact Sm_u1 (Sm_u1 m1 (by decide)) (by decide)
    have h17' : ∀ k, k < 8 → S3.1 17 k = if k = o then nI (co + j) else if k = s then nI (cs - i) else S.1 6 k := fun k hk => by
      rw [← hS3]
      simp only [rd_1, reduceIte]
      rw [h17 k hk]
    have hP : Pn S3 17 land n (cg S land s i o j) (wnS S) := fun k hk => by
      obtain ⟨w, u1', u2', u3', u4'⟩ := w40 hs hk
      obtain ⟨c, v1, v2, v3⟩ := h6 hs hk
      have hcg := cg_le (land := land) (s := s) (i := i) (j := j) hs hon hk (by rw [d3]; exact ho)
      rw [m3.1 2 (by decide), m3.1 3 (by decide)]
      refine ⟨?_, hcg, by unfold wnS; rw [u4']; exact u3', by unfold wnS; omega, by unfold wnS; omega⟩
      by_cases q : S.1 2 k = land
      · refine Or.inl ⟨q, ?_⟩
        rw [h17' k (by omega)]
        unfold cg
        rw [if_pos q]
        by_cases z : k = o
        · rw [if_pos z, if_pos z, z, d3]
        · rw [if_neg z, if_neg z]
          by_cases z2 : k = s
          · rw [if_pos z2, if_pos z2, z2, c3]
          · rw [if_neg z2, if_neg z2, v3]; exact v2
      · refine Or.inr ⟨q, ?_⟩
        unfold cg
        rw [if_neg q]
    obtain ⟨S4, g1, g2, g3⟩ := q_sprspreadc hn (by rw [m3.1 1 (by decide)]; exact hS) hP
    rw [g1, zb_s, c10000]
    rw [e1] at e2
    rw [e2, q_can g2 (by omega), zb_2, zb_zc]
    refine ⟨S4, KX_tr (KX_Sm m3 (by decide)) (Fb_KX g3), ?_⟩
    by_cases z : A ≤ 1920 ∧ rch (cl (cg S land s i o j) (wnS S) n) A = true
    · rw [if_pos z, if_pos ⟨hl, z⟩]
    · rw [if_neg z, if_neg (fun y => z y.2)]
  · rw [if_neg hl]
    exact ⟨S, KX_rf, by rw [if_neg (fun z => hl z.1)]⟩
/-- the reference's trial -/
theorem p_isSwap {L : Lns} {n s i o j A : Nat} {land : Int32} (hs : Rs n S T) (hL : TX 0 L S T) (hsn : s < n) (hon : o < n) (hi : 1 ≤ i ∧ i ≤ 3) (hj : 1 ≤ j ∧ j ≤ 3) (day : Int32) (hA : A < 10000) : ∃ T', KM T T' ∧ ((fair L S day s i o j ∧ f_X12_isSwap land (nI A) day (nI s) (nI i) (nI o) (nI j) T = some (if A ≤ 1920 ∧ rch (cl (cg S land s i o j) (wnS S) n) A = true then 1 else 0, T')) ∨ (¬ fair L S day s i o j ∧ f_X12_isSwap land (nI A) day (nI s) (nI i) (nI o) (nI j) T = some (0, T'))) := by
  obtain ⟨hn, hS, hT, hv⟩ := id hs
  obtain ⟨ws, a1, a2, a3, a4⟩ := w40 hs hsn
  obtain ⟨wo, b1, b2, b3, b4⟩ := w40 hs hon
  obtain ⟨cs, c1, c2, c3⟩ := h6 hs hsn
  obtain ⟨co, d1, d2, d3⟩ := h6 hs hon
  have vs := (hv s hsn).1
  have vo := (hv o hon).1
  unfold f_X12_isSwap
  by_cases e : s = o
  · rw [if_pos (by rw [e])]
    exact ⟨T, KM_rf, Or.inr ⟨fun z => z.1 e, rfl⟩⟩
  · rw [if_neg (fun z => e ((nI_eq (by omega) (by omega)).mp z)), zb_an _ (by omega) (by omega), cl_n (by omega), vs.2.2.2.2, c2]
    by_cases e1 : cs < i
    · rw [if_pos (nI_lt e1 (by omega))]
      exact ⟨T, KM_rf, Or.inr ⟨fun z => by have := z.2.1; rw [c3] at this; omega, rfl⟩⟩
    · rw [if_neg (nI_nlt (by omega) (by omega)), zb_an _ (by omega) (by omega), cl_n (by omega), vo.2.2.2.2, d2, nI_add]
      by_cases e2 : co + j ≤ 6
      · have hmul : i * ws ≤ 3 * 40 := Nat.mul_le_mul hi.2 a2
        obtain ⟨T1, f1, f2, f3⟩ := p_rateS hL (S.1 2 s) (S.1 2 o) day
        obtain ⟨r1, r2⟩ := rN_le L (S.1 2 s) (S.1 2 o) day
        have hx : i * ws * rN L (S.1 2 s) (S.1 2 o) day ≤ 3 * 40 * 9999 := Nat.mul_le_mul hmul r2
        have hy : j * wo ≤ 3 * 40 := Nat.mul_le_mul hj.2 b2
        rw [if_pos (by exact nI_le (b := 6) e2 (by omega)), zb_an _ (by omega) (by omega), zb_an _ (by omega) (by omega), zb_an _ (by omega) (by omega), vs.1, vo.1, f1, zb_2, d1000, zb_an _ (by omega) (by omega), f3.1 2 (by decide), vo.2.1, vs.2.1, a3, b3, pk_mul, pk_mul, r1, pk_mul, show (1000 : Int32) = nI 1000 from rfl, pk_div (by omega) (by omega) (by omega)]
        by_cases e3 : j * wo ≤ i * ws * rN L (S.1 2 s) (S.1 2 o) day / 1000
        · rw [if_pos (nI_le e3 (by omega))]
          have t5 : T1.1 5 = T.1 5 := f3.1 5 (by decide)
          have t5s : T1.1 5 s = nI cs := by rw [t5, vs.2.2.2.2]; exact c2
          have t5o : T1.1 5 o = nI co := by rw [t5, vo.2.2.2.2]; exact d2
          simp (disch := omega) only [zb_an, cl_n, zb_l, t5s]
          rw [pk_sub (show i ≤ cs by omega), show (u1 T1 5 s (nI (cs - i))).1 5 o = nI co from by rw [rd_1, if_pos rfl, if_neg (fun z => e z.symm)]; exact t5o, nI_add]
          generalize hT2 : u1 (u1 T1 5 s (nI (cs - i))) 5 o (nI (co + j)) = T2
          have m2 : Sm [5] T1 T2 := by rw [← hT2]; exact Sm_u1 (Sm_one (by decide)) (by decide)
          have h5 : ∀ k, T2.1 5 k = if k = o then nI (co + j) else if k = s then nI (cs - i) else T.1 5 k := fun k => by
            rw [← hT2]
            simp only [rd_1, reduceIte, t5]
          have hP : Pm T2 land n (cg S land s i o j) (wnS S) := fun k hk => by
            obtain ⟨w, u1', u2', u3', u4'⟩ := w40 hs hk
            obtain ⟨c, v1, v2, v3⟩ := h6 hs hk
            have hcg := cg_le (land := land) (s := s) (i := i) (j := j) hs hon hk (by rw [d3]; exact e2)
            have vk := (hv k hk).1
            rw [m2.1 1 (by decide), m2.1 2 (by decide), f3.1 1 (by decide), f3.1 2 (by decide), vk.1, vk.2.1]
            refine ⟨?_, hcg, by unfold wnS; rw [u4']; exact u3', by unfold wnS; omega, by unfold wnS; omega⟩
            by_cases q : S.1 2 k = land
            · refine Or.inl ⟨q, ?_⟩
              rw [h5 k]
              unfold cg
              rw [if_pos q]
              by_cases z : k = o
              · rw [if_pos z, if_pos z, z, d3]
              · rw [if_neg z, if_neg z]
                by_cases z2 : k = s
                · rw [if_pos z2, if_pos z2, z2, c3]
                · rw [if_neg z2, if_neg z2, vk.2.2.2.2, v3]; exact v2
            · refine Or.inr ⟨q, ?_⟩
              unfold cg
              rw [if_neg q]
          obtain ⟨T3, g1, g2, g3⟩ := p_pays hn (by rw [m2.1 0 (by decide), f3.1 0 (by decide)]; exact hT) hP
          have h3s : T3.1 5 s = nI (cs - i) := by rw [g3.1, h5, if_neg e, if_pos rfl]
          have h3o : (u1 T3 5 s (nI cs)).1 5 o = nI (co + j) := by rw [rd_1, if_pos rfl, if_neg (fun z => e z.symm), g3.1, h5, if_pos rfl]
          rw [g1, zb_s]
          simp (disch := omega) only [zb_an, cl_n, zb_l, h3s]
          rw [nI_add, show cs - i + i = cs by omega, h3o, pk_sub (show j ≤ co + j by omega), show co + j - j = co by omega]
          have hW : Wd (rch (cl (cg S land s i o j) (wnS S) n)) ((u1 (u1 T3 5 s (nI cs)) 5 o (nI co)).2 22) := g2
          rw [p_canPay hW (by omega), zb_2, zb_zc]
          refine ⟨_, ?_, Or.inl ⟨by unfold fair; exact ⟨e, by rw [c3]; omega, by rw [d3]; exact e2, by rw [a4, b4]; exact e3⟩, rfl⟩⟩
          refine ⟨fun a ha => ?_, fun q hq => ?_, ?_⟩
          · by_cases z : a = 5
            · subst z
              funext k
              simp only [rd_1, reduceIte]
              by_cases z1 : k = o
              · rw [if_pos z1, z1, vo.2.2.2.2]; exact d2.symm
              · rw [if_neg z1]
                by_cases z2 : k = s
                · rw [if_pos z2, z2, vs.2.2.2.2]; exact c2.symm
                · rw [if_neg z2, g3.1, h5, if_neg z1, if_neg z2]
            · rw [ne_u1 _ _ _ z, ne_u1 _ _ _ z, g3.1, m2.1 a (by simp; exact z)]
              exact f2.1 a ha
          · rw [ne_u1 _ _ _ (by decide), ne_u1 _ _ _ (by decide), g3.1, m2.1 0 (by decide)]
            exact f2.2.1 q hq
          · show T3.2 33 = T.2 33
            rw [g3.2 33 (by decide), m2.2]; exact f2.2.2
        · rw [if_neg (nI_ge (by omega) (by omega))]
          exact ⟨T1, f2, Or.inr ⟨fun z => by have := z.2.2.2; rw [a4, b4] at this; exact e3 this, rfl⟩⟩
      · rw [if_neg (show ¬ nI (co + j) ≤ (6 : Int32) from fun z => e2 ((nI_leI (b := 6) (by omega) (by omega)).mp z))]
        exact ⟨T, KM_rf, Or.inr ⟨fun z => by have := z.2.2.1; rw [d3] at this; exact e2 this, rfl⟩⟩
theorem fair_keep {L : Lns} {S' : St} {day : Int32} {s i o j : Nat} (h : KX S S') : fair L S' day s i o j ↔ fair L S day s i o j := by
  unfold fair
  rw [h.1 6 (by decide), h.1 3 (by decide), h.1 2 (by decide)]
theorem cg_keep {S' : St} (h : KX S S') (land : Int32) (s i o j : Nat) : cg S' land s i o j = cg S land s i o j := by
  funext k
  unfold cg
  rw [h.1 6 (by decide), h.1 2 (by decide)]
/-- both try one gift alike -/
theorem qp_gift {L : Lns} {n s i o j A : Nat} {la land day : Int32} {S1 T1 : St} (hs : Rs n S T) (hL : TX 0 L S T) (kS : KX S S1) (kT : KM T T1) (hsn : s < n) (hon : o < n) (hi : 1 ≤ i ∧ i ≤ 3) (hj : 1 ≤ j ∧ j ≤ 3) (e1 : la / 10000 = land) (e2 : la - la / 10000 * 10000 = nI A) (hA : A < 10000) (hno : ¬ (A ≤ 1920 ∧ rch (cl (cnS S 6 land) (wnS S) n) A = true)) : ∃ b : Bool, ∃ S2 T2, KX S S2 ∧ KM T T2 ∧ (∀ {β : Type} (K1 K2 : St → Option β), jx_b2 (f_X11_isFair day (nI s) (nI i) (nI o) (nI j) S1) (fun r S35 => if r = 0 then K1 S35 else jx_b2 (f_X11_helps la (nI s) (nI i) (nI o) (nI j) S35) (fun r S40 => if r = 0 then K1 S40 else K2 S40)) = if b = true then K2 S2 else K1 S2) ∧ f_X12_isSwap land (nI A) day (nI s) (nI i) (nI o) (nI j) T1 = some (if b = true then 1 else 0, T2) := by
  have hs1 := Rs_keep hs kS kT
  have hL1 := TX_keep (by decide) hL kS kT
  obtain ⟨S2, a1, a2, a3⟩ := q_fair hs1 hL1 hsn hon hi hj day
  obtain ⟨T2, b1, b2⟩ := p_isSwap (land := land) (A := A) hs1 hL1 hsn hon hi hj day hA
  rcases a3 with ⟨f, a4⟩ | ⟨f, a4⟩
  · rcases b2 with ⟨-, b3⟩ | ⟨g, b3⟩
    · have f' := (fair_keep kS).mp f
      have hs2 := Rs_keep hs (KX_tr kS a1) kT
      have f2 := (fair_keep (KX_tr kS a1)).mpr f'
      obtain ⟨S3, c1, c2⟩ := q_helps (la := la) (land := land) (A := A) hs2 hsn hon f2.1 ⟨hi.1, f2.2.1⟩ hj.1 f2.2.2.1 e1 e2 hA
      rw [cg_keep (KX_tr kS a1), (cnS_keep (KX_tr kS a1) land).2, (KX_tr kS a1).1 2 (by decide)] at c2
      rw [cg_keep kS, (cnS_keep kS land).2] at b3
      by_cases z : A ≤ 1920 ∧ rch (cl (cg S land s i o j) (wnS S) n) A = true
      · have hl : S.1 2 o = land := by
          by_cases q : S.1 2 o = land
          · exact q
          · refine absurd ⟨z.1, rch_mono (fun k hk => ?_) z.2⟩ hno
            unfold cg cnS
            by_cases y : S.1 2 k = land
            · rw [if_pos y, if_pos y]
              by_cases w : k = o
              · rw [w] at y; exact absurd y q
              · rw [if_neg w]; split <;> omega
            · rw [if_neg y, if_neg y]; exact Nat.le_refl _
        refine ⟨true, S3, T2, KX_tr (KX_tr kS a1) c1, KM_tr kT b1, fun K1 K2 => ?_, ?_⟩
        · rw [a4, zb_2, if_neg one_ne, c2, if_pos ⟨hl, z⟩, zb_2, if_neg one_ne, if_pos rfl]
        · rw [b3, if_pos z, if_pos rfl]
      · refine ⟨false, S3, T2, KX_tr (KX_tr kS a1) c1, KM_tr kT b1, fun K1 K2 => ?_, ?_⟩
        · rw [a4, zb_2, if_neg one_ne, c2, if_neg (fun y => z y.2), zb_2, if_pos rfl, if_neg (by decide)]
        · rw [b3, if_neg z, if_neg (by decide)]
    · exact absurd f g
  · rcases b2 with ⟨g, -⟩ | ⟨-, b3⟩
    · exact absurd g f
    · refine ⟨false, S2, T2, KX_tr kS a1, KM_tr kT b1, fun K1 K2 => ?_, ?_⟩
      · rw [a4, zb_2, if_pos rfl, if_neg (by decide)]
      · rw [b3, if_neg (by decide)]
