variable {S T : St}
theorem q_worthN {n : Nat} (hs : Rs n S T) (a : Int32) : f_X1_worthOf a S = some (nI (lsum (cl (cnS S 6 a) (wnS S) n)), S) := by
  obtain ⟨hn, hS, hT, hv⟩ := id hs
  unfold f_X1_worthOf
  obtain ⟨r, w1, w2⟩ := wl_for (g_X1_worthOf_4 a S) (fun k (_ : Unit) => (nI (lsum (cl (cnS S 6 a) (wnS S) k)), nI k)) (fun _ _ => True) n (fun r => r = nI (lsum (cl (cnS S 6 a) (wnS S) n)))
    (fun k _ hk _ => by
      refine ⟨(), ?_, trivial⟩
      obtain ⟨c, c1, c2, c3⟩ := h6 hs hk
      obtain ⟨w, u1, u2, u3, u4⟩ := w40 hs hk
      unfold g_X1_worthOf_4 b_X1_worthOf_4 f_X1_worthOf_40i4
      rw [hS, if_neg (nI_ge hk (by omega))]
      simp (disch := omega) only [zb_an, cl_n, zb_l, u3, c2, nI_1, pk_mul]
      show _ = some (Sum.inl (nI (lsum (List.replicate (cnS S 6 a k) (wnS S k) ++ cl (cnS S 6 a) (wnS S) k)), nI (k + 1)))
      rw [lsum_app, lsum_rep]
      unfold cnS wnS
      rw [u4, c3]
      by_cases q : S.1 2 k = a
      · rw [if_pos q, if_pos q, nI_add, Nat.mul_comm w c, Nat.add_comm]
      · rw [if_neg q, if_neg q, Int32.add_zero, Nat.zero_mul, Nat.zero_add])
    (fun _ _ => ⟨_, by unfold g_X1_worthOf_4 b_X1_worthOf_4; rw [hS, if_pos (nI_le (Nat.le_refl n) (by omega))], rfl⟩) FU 0 () (by omega) trivial (FU_lt (by omega) 0)
  rw [show ((0 : Int32), (0 : Int32)) = (nI (lsum (cl (cnS S 6 a) (wnS S) 0)), nI 0) from rfl, w1, zb_s, w2]
  rfl
theorem Rs_keep {n : Nat} {S' T' : St} (hs : Rs n S T) (hS : KX S S') (hT : KM T T') : Rs n S' T' := by
  unfold Rs
  rw [hS.1 1 (by decide), hS.1 2 (by decide), hS.1 3 (by decide), hS.1 4 (by decide), hS.1 5 (by decide), hS.1 6 (by decide), hT.1 1 (by decide), hT.1 2 (by decide), hT.1 3 (by decide), hT.1 4 (by decide), hT.1 5 (by decide), hT.2.1 0 (by decide)]
  exact hs
theorem cnS_keep {S' : St} (h : KX S S') (land : Int32) : cnS S' 6 land = cnS S 6 land ∧ wnS S' = wnS S := by
  refine ⟨funext fun k => ?_, funext fun k => ?_⟩
  · unfold cnS; rw [h.1 2 (by decide), h.1 6 (by decide)]
  · unfold wnS; rw [h.1 3 (by decide)]
theorem p_worthN {n : Nat} {S' T' : St} (hs : Rs n S T) (hS : KX S S') (hT : KM T T') (a : Int32) : f_X12_purseOf a T' = some (nI (lsum (cl (cnS S 6 a) (wnS S) n)), T') := by
  have hs' := Rs_keep hs hS hT
  obtain ⟨r, e1, e2⟩ := qp_worth hs' a
  rw [q_worthN hs' a] at e1
  rw [e2]
  have := Option.some.inj e1
  rw [← (cnS_keep hS a).1, ← (cnS_keep hS a).2, ← (Prod.mk.inj this).1]
def gr (Q : Nat → Bool) : Nat → Nat
  | 0 => 0
  | k + 1 => if Q (k + 1) = true then k + 1 else gr Q k
def da (v : Nat → Int) (R : Nat → Bool) : Nat → Nat
  | 0 => 0
  | k + 1 => if v (da v R k) < v (k + 1) ∧ R (k + 1) = true then k + 1 else da v R k
theorem gr_le (Q : Nat → Bool) : ∀ k, gr Q k ≤ k
  | 0 => Nat.le_refl _
  | k + 1 => by
    have := gr_le Q k
    unfold gr
    split <;> omega
theorem da_le (v : Nat → Int) (R : Nat → Bool) : ∀ k, da v R k ≤ k
  | 0 => Nat.le_refl _
  | k + 1 => by
    have := da_le v R k
    unfold da
    split <;> omega
theorem gr_stop {Q : Nat → Bool} {c : Nat} : ∀ k, c ≤ k → (∀ i, c < i → i ≤ k → ¬ Q i = true) → gr Q k = gr Q c
  | 0, h, _ => by rw [show c = 0 by omega]
  | k + 1, h, h2 => by
    by_cases e : c = k + 1
    · rw [e]
    · show (if Q (k + 1) = true then k + 1 else gr Q k) = _
      rw [if_neg (h2 (k + 1) (by omega) (by omega))]
      exact gr_stop k (by omega) (fun i h3 h4 => h2 i h3 (by omega))
theorem da_stop {v : Nat → Int} {R : Nat → Bool} {c : Nat} : ∀ k, c ≤ k → (∀ i, c < i → i ≤ k → ¬ R i = true) → da v R k = da v R c
  | 0, h, _ => by rw [show c = 0 by omega]
  | k + 1, h, h2 => by
    by_cases e : c = k + 1
    · rw [e]
    · show (if v (da v R k) < v (k + 1) ∧ R (k + 1) = true then k + 1 else da v R k) = _
      rw [if_neg (fun q => h2 (k + 1) (by omega) (by omega) q.2)]
      exact da_stop k (by omega) (fun i h3 h4 => h2 i h3 (by omega))
theorem da_val {v : Nat → Int} {R : Nat → Bool} (h0 : 0 ≤ v 0) : ∀ k, 0 ≤ v (da v R k)
  | 0 => h0
  | k + 1 => by
    have := da_val (R := R) h0 k
    unfold da
    split
    · rename_i q; omega
    · exact this
/-- the value of a sum; -1: none -/
def vl (L : List (Nat × Int)) (m : Nat) : Int := (V L m).getD (-1)
theorem V_0 : ∀ (L : List (Nat × Int)), (∀ x, x ∈ L → 1 ≤ x.1) → V L 0 = some 0
  | [], _ => rfl
  | x :: l, h => by
    have := h x List.mem_cons_self
    show oM (V l 0) (if x.1 ≤ 0 then _ else none) = _
    rw [if_neg (by omega), V_0 l (fun y hy => h y (List.mem_cons_of_mem _ hy))]; rfl
theorem vl_pos {L : List (Nat × Int)} {m : Nat} (h : 0 ≤ vl L m) : V L m = some (vl L m) := by
  unfold vl at h ⊢
  cases hv : V L m with
  | none => rw [hv] at h; exact absurd h (by decide)
  | some x => rfl
def Qs (L : List (Nat × Int)) (R : Nat → Bool) (m : Nat) : Bool := (V L m).isSome && R m
theorem q_greatest {R : Nat → Bool} {L : List (Nat × Int)} {top : Nat} (ht : top ≤ 1920) (hW : Wd R (S.2 13)) (hE : ∀ i, i ≤ top → Ex (-2147483648) (V L i) (S.1 15 i)) : f_X5_greatestChoice (nI top) S = some (nI (gr (Qs L R) top), S) := by
  unfold f_X5_greatestChoice
  rw [if_neg (by exact nI_nlt (a := 1920) ht (by omega)), zb_l]
  obtain ⟨r, w1, w2⟩ := wl_one g_X5_greatestChoice_8 (fun y => ∃ p, y = (nI p, S) ∧ p ≤ top ∧ gr (Qs L R) top = gr (Qs L R) p) (fun y => y.1.toNatClampNeg) (fun r => Sum.elim (fun z => f_X5_greatestChoice_39 z) (fun z => f_X5_greatestChoice_31 z.1 z.2) r = some (nI (gr (Qs L R) top), S))
    (fun y hI => by
      obtain ⟨p, rfl, hp, hg⟩ := hI
      unfold g_X5_greatestChoice_8 b_X5_greatestChoice_8 f_X5_greatestChoice_33i8
      by_cases h0 : p = 0
      · subst h0
        rw [if_pos (show nI 0 ≤ 0 by decide)]
        exact Or.inr ⟨_, rfl, by rw [hg]; rfl⟩
      · obtain ⟨p, rfl⟩ : ∃ j, p = j + 1 := ⟨p - 1, by omega⟩
        have hmu : (nI p).toNatClampNeg < (nI (p + 1)).toNatClampNeg := by rw [cl_n (by omega), cl_n (by omega)]; omega
        have e1 : gr (Qs L R) (p + 1) = if ((V L (p + 1)).isSome && R (p + 1)) = true then p + 1 else gr (Qs L R) p := rfl
        rw [if_neg (nI_nle (by omega) (by omega)), zb_an _ (by omega) (by omega), q_can hW (by omega), zb_2, pk_m1, cl_n (show p + 1 < 2 ^ 31 by omega)]
        rw [cl_n (show p + 1 < 2 ^ 31 by omega)] at hmu
        simp only [zb_l]
        have hx := hE (p + 1) hp
        cases hV : V L (p + 1) with
        | none =>
          rw [hV] at hx e1
          rw [if_pos (show S.1 15 (p + 1) = -2147483648 from hx)]
          exact Or.inl ⟨_, rfl, ⟨p, rfl, by omega, by rw [hg, e1, if_neg (by simp)]⟩, hmu⟩
        | some x =>
          rw [hV] at hx e1
          rw [if_neg (Ex_ne hx)]
          by_cases z : R (p + 1) = true
          · rw [if_pos (⟨by omega, z⟩ : p + 1 ≤ 1920 ∧ R (p + 1) = true), if_neg one_ne]
            exact Or.inr ⟨_, rfl, by rw [hg, e1, if_pos (by rw [z]; rfl)]; rfl⟩
          · rw [if_neg (fun y : p + 1 ≤ 1920 ∧ R (p + 1) = true => z y.2), if_pos rfl]
            exact Or.inl ⟨_, rfl, ⟨p, rfl, by omega, by rw [hg, e1, if_neg (by rw [Bool.not_eq_true] at z; rw [z]; simp)]⟩, hmu⟩)
    FU (nI top, S) ⟨top, rfl, Nat.le_refl _, rfl⟩ (by show (nI top).toNatClampNeg < FU; rw [cl_n (by omega)]; unfold FU; omega)
  rw [w1, zb_s, w2]
theorem q_dearest {R : Nat → Bool} {L : List (Nat × Int)} {top : Nat} (hL : Sml L) (hL1 : ∀ x, x ∈ L → 1 ≤ x.1) (ht : top ≤ 1920) (hW : Wd R (S.2 13)) (hE : ∀ i, i ≤ top → Ex (-2147483648) (V L i) (S.1 15 i)) : f_X5_dearestChoice (nI top) S = some (nI (da (vl L) R top), S) := by
  unfold f_X5_dearestChoice f_X5_dearestChoice_47
  have v0 : 0 ≤ vl L 0 := by unfold vl; rw [V_0 L hL1]; exact Int.le_refl 0
  obtain ⟨r, w1, w2⟩ := wl_for (g_X5_dearestChoice_4 (nI top)) (fun k (_ : Unit) => (nI (da (vl L) R k), nI (k + 1), S)) (fun _ _ => True) top (fun r => r = (nI (da (vl L) R top), S))
    (fun k _ hk _ => by
      refine ⟨(), ?_, trivial⟩
      have hd := da_le (vl L) R k
      have hdv := da_val (R := R) v0 k
      unfold g_X5_dearestChoice_4 b_X5_dearestChoice_4 f_X5_dearestChoice_41i4
      rw [if_neg (nI_nlt (by omega) (by omega)), if_neg (by exact nI_nlt (a := 1920) (by omega) (by omega)), zb_an _ (by omega) (by omega), zb_an _ (by omega) (by omega), q_can hW (by omega), zb_2, cl_n (by omega), cl_n (by omega)]
      simp only [zb_l, nI_1]
      have hx := hE (k + 1) (by omega)
      have hf := hE (da (vl L) R k) (by omega)
      rw [vl_pos hdv] at hf
      show _ = some (Sum.inl (nI (if vl L (da (vl L) R k) < vl L (k + 1) ∧ R (k + 1) = true then k + 1 else da (vl L) R k), nI (k + 1 + 1), S))
      cases hV : V L (k + 1) with
      | none =>
        rw [hV] at hx
        have e : vl L (k + 1) = -1 := by unfold vl; rw [hV]; rfl
        rw [if_pos (by rw [show S.1 15 (k + 1) = -2147483648 from hx, i32_le, hf.1]; have := hf.2; omega), if_neg (fun z => by have := z.1; omega)]
      | some x =>
        rw [hV] at hx
        have e : vl L (k + 1) = x := by unfold vl; rw [hV]; rfl
        by_cases q : vl L (da (vl L) R k) < vl L (k + 1)
        · rw [if_neg (show ¬ S.1 15 (k + 1) ≤ S.1 15 (da (vl L) R k) by rw [i32_le, hx.1, hf.1]; omega)]
          by_cases z : R (k + 1) = true
          · rw [if_pos (⟨by omega, z⟩ : k + 1 ≤ 1920 ∧ R (k + 1) = true), if_neg one_ne, if_pos ⟨q, z⟩]
          · rw [if_neg (fun y : k + 1 ≤ 1920 ∧ R (k + 1) = true => z y.2), if_pos rfl, if_neg (fun y => z y.2)]
        · rw [if_pos (show S.1 15 (k + 1) ≤ S.1 15 (da (vl L) R k) by rw [i32_le, hx.1, hf.1]; omega), if_neg (fun y => q y.1)])
    (fun _ _ => ⟨_, by unfold g_X5_dearestChoice_4 b_X5_dearestChoice_4; rw [if_pos (nI_lt (by omega) (by omega))], rfl⟩) FU 0 () (by omega) trivial (FU_lt (by omega) 0)
  rw [show ((0 : Int32), (1 : Int32), S) = (nI (da (vl L) R 0), nI (0 + 1), S) from rfl, w1, zb_s, w2]
theorem p_best {R : Nat → Bool} {L : List (Nat × Int)} {a w y : Int32} (hw : w = 0 ∨ w = 1) (hL : Sml L) (hL1 : ∀ x, x ∈ L → 1 ≤ x.1) (hW : Wd R (T.2 22)) (hE : ∀ i, i ≤ 1920 → Ex (-1) (V L i) (T.1 25 i)) : jx_w (g_X12_spend_43 a w y) FU (nI 0, nI 1, T) = some (nI (if w = 0 then gr (Qs L R) 1920 else da (vl L) R 1920), T) := by
  have v0 : 0 ≤ vl L 0 := by unfold vl; rw [V_0 L hL1]; exact Int.le_refl 0
  obtain ⟨r, w1, w2⟩ := wl_for (g_X12_spend_43 a w y) (fun k (_ : Unit) => (nI (if w = 0 then gr (Qs L R) k else da (vl L) R k), nI (k + 1), T)) (fun _ _ => True) 1920 (fun r => r = (nI (if w = 0 then gr (Qs L R) 1920 else da (vl L) R 1920), T))
    (fun k _ hk _ => by
      refine ⟨(), ?_, trivial⟩
      have hd := da_le (vl L) R k
      have hg := gr_le (Qs L R) k
      have hdv := da_val (R := R) v0 k
      unfold g_X12_spend_43 b_X12_spend_43 f_X12_spend_92i43 f_X12_spend_99i43 f_X12_spend_101i43
      rw [if_neg (by exact nI_nlt (a := 1920) (by omega) (by omega)), zb_an _ (by omega) (by omega), p_canPay hW (by omega), zb_2, cl_n (by omega)]
      simp only [zb_l, nI_1]
      have hx := hE (k + 1) (by omega)
      have e1 : gr (Qs L R) (k + 1) = if ((V L (k + 1)).isSome && R (k + 1)) = true then k + 1 else gr (Qs L R) k := rfl
      have e2 : da (vl L) R (k + 1) = if vl L (da (vl L) R k) < vl L (k + 1) ∧ R (k + 1) = true then k + 1 else da (vl L) R k := rfl
      rw [e1, e2]
      cases hV : V L (k + 1) with
      | none =>
        rw [hV] at hx
        have e : vl L (k + 1) = -1 := by unfold vl; rw [hV]; rfl
        rw [if_pos (show T.1 25 (k + 1) = -1 from hx), if_neg (by simp : ¬ ((none : Option Int).isSome && R (k + 1)) = true), if_neg (fun z : vl L (da (vl L) R k) < vl L (k + 1) ∧ R (k + 1) = true => by have := z.1; omega)]
      | some x =>
        rw [hV] at hx
        have e : vl L (k + 1) = x := by unfold vl; rw [hV]; rfl
        rw [if_neg (Ex_ne hx)]
        by_cases z : R (k + 1) = true
        · rw [if_pos (⟨by omega, z⟩ : k + 1 ≤ 1920 ∧ R (k + 1) = true), if_neg one_ne, if_pos (show ((some x).isSome && R (k + 1)) = true by rw [z]; rfl)]
          rcases hw with rfl | rfl
          · rw [if_pos rfl, if_pos rfl]
          · rw [if_neg one_ne, if_neg one_ne, if_neg one_ne, zb_an _ (by omega) (by omega), zb_an _ (by omega) (by omega), cl_n (by omega)]
            have hf := hE (da (vl L) R k) (by omega)
            rw [vl_pos hdv] at hf
            by_cases q : vl L (da (vl L) R k) < vl L (k + 1)
            · rw [if_neg (show ¬ T.1 25 (k + 1) ≤ T.1 25 (da (vl L) R k) by rw [i32_le, hx.1, hf.1]; omega), if_pos ⟨q, z⟩]
            · rw [if_pos (show T.1 25 (k + 1) ≤ T.1 25 (da (vl L) R k) by rw [i32_le, hx.1, hf.1]; omega), if_neg (fun y => q y.1)]
        · rw [if_neg (fun y : k + 1 ≤ 1920 ∧ R (k + 1) = true => z y.2), if_pos rfl, if_neg (by rw [Bool.not_eq_true] at z; rw [z]; simp : ¬ ((some x).isSome && R (k + 1)) = true), if_neg (fun y : vl L (da (vl L) R k) < vl L (k + 1) ∧ R (k + 1) = true => z y.2)])
    (fun _ _ => ⟨_, by unfold g_X12_spend_43 b_X12_spend_43; rw [if_pos (by show (1920 : Int32) < nI (1920 + 1); decide)], rfl⟩) FU 0 () (by omega) trivial (FU_lt (by omega) 0)
  have s1 : (nI (if w = 0 then gr (Qs L R) 0 else da (vl L) R 0), nI (0 + 1), T) = (nI 0, nI 1, T) := by
    rcases hw with rfl | rfl <;> rfl
  rw [s1] at w1
  rw [w1, w2]
theorem tl_pos {c p : Nat → Nat} {v : Nat → Int} {m : Nat} (h : ∀ t, t < m → 1 ≤ p t) : ∀ k, k ≤ m → ∀ x, x ∈ tl c p v k → 1 ≤ x.1
  | 0, _, x, hx => absurd hx List.not_mem_nil
  | k + 1, hk, x, hx => by
    rcases List.mem_append.mp hx with e | e
    · have := List.eq_of_mem_replicate e
      subst this
      exact h k (by omega)
    · exact tl_pos h k (by omega) x e
theorem op_spend (a w y : Int32) (h : RR RxC S T) : OK RxC (f_X11_spend a w y S) (f_X12_spend a w y T) := by
  obtain ⟨n, m, t, c, e, d, hs, ht, hm, hp, hch, hi, hd, hh, hx0, hx1⟩ := id h
  unfold f_X11_spend f_X12_spend
  simp only [q_isLand, p_isLand, q_within, p_in, zb_2, ite01]
  refine ok_if Iff.rfl (fun _ => ok_r _ h) (fun h1 => ok_if Iff.rfl (fun _ => ok_r _ h) (fun h2 => ok_if Iff.rfl (fun _ => ok_r _ h) (fun h3 => ?_)))
  obtain ⟨S1, T1, l, e1, e2, e3, e4, e5, e6, e7, e8⟩ := qp_pays hs a
  rw [q_worthN hs a, zb_2, e1, e2, zb_s, zb_s, ← e3]
  have k1 := Fb_KX e6
  have j1 := Fb_KM e7
  have ht1 : Rt m S1 T := by unfold Rt; rw [e6.1]; exact ht
  obtain ⟨S2, f1, f2, f3⟩ := q_choices ht1 a e8
  obtain ⟨T2, g1, g2, g3⟩ := p_values ht a (T0 := T1) (fun a _ => by rw [e7.1]) (by rw [e7.1])
  have cc : ctS S1 a = ctS S a ∧ ptS S1 = ptS S ∧ vtS S1 = vtS S := by unfold ctS ptS vtS; rw [e6.1]; exact ⟨rfl, rfl, rfl⟩
  rw [cc.1, cc.2.1, cc.2.2] at f3
  rw [f1, g1, zb_s, zb_s]
  have hsml : Sml (tl (ctS S a) (ptS S) (vtS S) m) := by
    obtain ⟨i1, i2⟩ := tl_all (p := ptS S) (rt_h ht a) m (Nat.le_refl m)
    exact ⟨i1, by have := ht.1; omega⟩
  have hpos : ∀ x, x ∈ tl (ctS S a) (ptS S) (vtS S) m → 1 ≤ x.1 := tl_pos (fun t htm => by
    obtain ⟨⟨p, p1, p2, p3, p4⟩, -⟩ := t_rg ht htm
    unfold ptS; omega) m (Nat.le_refl m)
  generalize tl (ctS S a) (ptS S) (vtS S) m = L at f3 g3 hsml hpos
  have kS := KX_tr k1 (KX_Sm f2 (by decide))
  have kT := KM_tr j1 (KM_Sm g2 (by decide))
  have hR := RR_keep h kS kT
  have hW : Wd (rch l) (S2.2 13) := by rw [f2.2]; exact e4
  have hW2 : Wd (rch l) (T2.2 22) := by rw [g2.2]; exact e5
  have out : ∀ i, lsum l < i → i ≤ 1920 → ¬ rch l i = true := fun i h4 _ h5 => by have := rch_le l i h5; omega
  have eg : gr (Qs L (rch l)) 1920 = gr (Qs L (rch l)) (lsum l) := gr_stop 1920 e8 (fun i h4 h5 h6 => by
    unfold Qs at h6
    rw [Bool.and_eq_true] at h6
    exact out i h4 h5 h6.2)
  have ed : da (vl L) (rch l) 1920 = da (vl L) (rch l) (lsum l) := da_stop 1920 e8 out
  obtain ⟨wn, hwn, -, hwe⟩ := ix_lit (k := 1) (by omega) rfl (nn h2)
  have hw01 : w = 0 ∨ w = 1 := by
    have : wn = 0 ∨ wn = 1 := by omega
    rcases this with q | q <;> subst q
    · exact Or.inl hwe
    · exact Or.inr hwe
  rw [show ((0 : Int32), (1 : Int32), T2) = (nI 0, nI 1, T2) from rfl, p_best (a := a) (y := y) hw01 hsml hpos hW2 g3, zb_s, q_greatest e8 hW f3, q_dearest hsml hpos e8 hW f3, zb_2, zb_2]
  have v0 : 0 ≤ vl L 0 := by unfold vl; rw [V_0 L hpos]; exact Int.le_refl 0
  have fin : ∀ q : Nat, q ≤ lsum l → (∃ x, V L q = some x ∧ 0 ≤ x) → OK RxC (f_X11_spend_95 y (nI (lsum l)) (nI q) S2) (f_X12_spend_107 a y (nI q) T2) := fun q hq hx => by
    obtain ⟨x, x1, x2⟩ := hx
    unfold f_X11_spend_95 f_X12_spend_107 f_X5_valueAt
    rw [p_worthN hs kS kT a, zb_2, ← e3, q_within, zb_2]
    refine ok_if Iff.rfl (fun _ => ok_r _ hR) (fun _ => ok_if Iff.rfl (fun _ => ?_) (fun _ => ok_r _ hR))
    rw [if_pos (⟨nI_pos' (by omega), nI_le (b := 1920) (by omega) (by omega)⟩ : 0 ≤ nI q ∧ nI q ≤ 1920), if_neg one_ne, zb_an _ (by omega) (by omega), zb_an _ (by omega) (by omega), cl_n (by omega), zb_2]
    have a1 := f3 q hq
    have a2 := g3 q (by omega)
    rw [x1] at a1 a2
    exact ok_mk (Int32.toInt_inj.mp (by rw [a1.1, a2.1])) hR
  rcases hw01 with rfl | rfl
  · rw [if_pos rfl]
    show OK RxC _ (f_X12_spend_107 a y (nI (if (0 : Int32) = 0 then gr (Qs L (rch l)) 1920 else da (vl L) (rch l) 1920)) T2)
    rw [if_pos rfl, eg]
    refine fin _ (gr_le _ _) ?_
    have key : ∀ k, ∃ x, V L (gr (Qs L (rch l)) k) = some x ∧ 0 ≤ x := fun k => by
      induction k with
      | zero => exact ⟨0, V_0 L hpos, Int.le_refl 0⟩
      | succ k ih =>
        show ∃ x, V L (if Qs L (rch l) (k + 1) = true then k + 1 else gr (Qs L (rch l)) k) = some x ∧ 0 ≤ x
        by_cases z : Qs L (rch l) (k + 1) = true
        · rw [if_pos z]
          unfold Qs at z
          rw [Bool.and_eq_true] at z
          obtain ⟨x, hx⟩ := Option.isSome_iff_exists.mp z.1
          exact ⟨x, hx, (Sml_V hsml hx).1⟩
        · rw [if_neg z]; exact ih
    exact key _
  · rw [if_neg one_ne]
    show OK RxC _ (f_X12_spend_107 a y (nI (if (1 : Int32) = 0 then gr (Qs L (rch l)) 1920 else da (vl L) (rch l) 1920)) T2)
    rw [if_neg one_ne, ed]
    refine fin _ (da_le _ _ _) ?_
    have := da_val (R := rch l) v0 (lsum l)
    exact ⟨_, vl_pos this, this⟩
