variable {S T : St}
theorem pl_len8 {c w : Nat → Nat} {n : Nat} {how : Bool} (hn : n ≤ 8) (hc : ∀ s, s < n → c s ≤ 6) {k j : Nat} (hk : k < n) (hj : j ≤ c k) : (∀ x, x ∈ List.replicate j (w k, Mh how + (g8 k : Int)) ++ pl c w (Mh how) g8 k → -18874368 ≤ x.2 ∧ x.2 ≤ 18874368) ∧ (List.replicate j (w k, Mh how + (g8 k : Int)) ++ pl c w (Mh how) g8 k).length ≤ 48 := by
  have hg : ∀ s, s < n → g8 s ≤ 2097152 := fun s hs => by
    unfold g8
    have := Nat.pow_le_pow_right (show 0 < 8 by omega) (show 7 - s ≤ 7 by omega)
    rw [show (2097152 : Nat) = 8 ^ 7 from rfl]; exact this
  have hM : -16777216 ≤ Mh how ∧ Mh how ≤ 16777216 := by unfold Mh; cases how <;> simp
  obtain ⟨i1, i2⟩ := pl_bd (w := w) hc hg hM k (by omega)
  have q2 := hg k hk
  have q3 := hc k hk
  refine ⟨fun x hx => ?_, ?_⟩
  · rcases List.mem_append.mp hx with e | e
    · have := List.eq_of_mem_replicate e
      subst this
      show -18874368 ≤ Mh how + (g8 k : Int) ∧ Mh how + (g8 k : Int) ≤ 18874368
      omega
    · exact i1 x e
  · rw [List.length_append, List.length_replicate]; omega
theorem rank8 {n : Nat} {y : Nat → Nat} (hn : n ≤ 8) : sumw y g8 n = D8 (fun s => if s < n then y s else 0) := by
  have h1 : sumw y g8 n = sumw (fun s => if s < n then y s else 0) g8 n := sumw_congr g8 (fun s hs => by rw [if_pos hs])
  have h2 : sumw (fun s => if s < n then y s else 0) g8 8 = sumw (fun s => if s < n then y s else 0) g8 n := sumTo_stop 8 hn (fun i h1 h2 => by
    show (if i < n then y i else 0) * g8 i = 0
    rw [if_neg (by omega), Nat.zero_mul])
  rw [h1, ← h2]
  generalize (fun s => if s < n then y s else 0) = z
  unfold sumw D8
  simp only [sumTo, g8, Nat.reduceSub, Nat.reducePow]
  omega
theorem q_pay {how : Bool} {n m : Nat} {land : Int32} {c w : Nat → Nat} (hn : n ≤ 8) (hS : S.1 1 5 = nI n) (hP : Pn S 6 land n c w) (hm : m ≤ 1920) : ∃ S', Sm [14, 16] S S' ∧ ((V (pl c w (Mh how) g8 n) m = none ∧ f_X5_pay land (nI m) (hI how) S = some (-2, S')) ∨ ∃ v, V (pl c w (Mh how) g8 n) m = some v ∧ ∀ (t : Nat) (y : Nat → Nat), v = Mh how * (t : Int) + (sumw y g8 n : Int) → (∀ s, s < n → y s ≤ 6) → cnt2 y n = t → ∃ S', Sm [14, 16] S S' ∧ f_X5_pay land (nI m) (hI how) S = some (nI t, S') ∧ ∀ s, s < n → S'.1 16 s = nI (y s)) := by
  have c0 : Int32.toNatClampNeg (0 : Int32) = 0 := rfl
  have fill : ∃ S0, f_J7_fill_fda19 0 (nI m + 1) (-2147483648) S = some S0 ∧ Sm [14] S S0 ∧ ∀ i, i < m + 1 → S0.1 14 i = -2147483648 := by
    unfold f_J7_fill_fda19 f_J7_rangeCheck_23922 f_J7_fill_fda19_27
    rw [nI_1, if_pos (nI_pos' (by omega)), if_pos (by decide), if_pos (by exact nI_le (b := 1921) (by omega) (by omega)), zb_s]
    obtain ⟨S0, a1, a2, a3⟩ := wl_for (g_J7_fill_fda19_10 (nI (m + 1)) (-2147483648)) (fun i S => (nI i, S)) (fun i S' => Sm [14] S S' ∧ ∀ k, k < i → S'.1 14 k = -2147483648) (m + 1) (fun S' => Sm [14] S S' ∧ ∀ k, k < m + 1 → S'.1 14 k = -2147483648)
      (fun i S' hi hI' => by
        unfold g_J7_fill_fda19_10 b_J7_fill_fda19_10
        rw [if_neg (nI_ge hi (by omega)), zb_an _ (by omega) (by omega), zb_l, zb_l, cl_n (by omega), nI_1]
        refine ⟨_, rfl, Sm_u1 hI'.1 (by decide), fun k hk => ?_⟩
        rw [rd_1, if_pos rfl]
        by_cases e : k = i
        · rw [if_pos e]
        · rw [if_neg e]; exact hI'.2 k (by omega))
      (fun S' hI' => ⟨S', by unfold g_J7_fill_fda19_10 b_J7_fill_fda19_10; rw [if_pos (nI_le (Nat.le_refl _) (by omega))], hI'⟩) FU 0 S (by omega) ⟨Sm_rf, fun k hk => absurd hk (by omega)⟩ (FU_lt (by omega) 0)
    rw [show ((0 : Int32), S) = (nI 0, S) from rfl, a1, zb_s]
    exact ⟨S0, rfl, a2, a3⟩
  obtain ⟨S0, a1, a2, a3⟩ := fill
  generalize hS1 : u1 S0 14 0 0 = S1
  have m1 : Sm [14] S S1 := by rw [← hS1]; exact Sm_u1 a2 (by decide)
  have d1 : ∀ i, i ≤ m → Ex (-2147483648) (V (pl c w (Mh how) g8 0) i) (S1.1 14 i) := fun i hi => by
    rw [← hS1, rd_1, if_pos rfl]
    show Ex _ (if i = 0 then some 0 else none) _
    by_cases e : i = 0
    · rw [if_pos e, if_pos e]; exact ⟨rfl, by decide⟩
    · rw [if_neg e, if_neg e]; exact a3 i (by omega)
  have hc6 : ∀ s, s < n → c s ≤ 6 := fun s hs => (hP s hs).2.1
  obtain ⟨S2, w1, w2, w3⟩ := wl_for (g_X5_pay_37 land (nI m) (hI how)) (fun k S => (nI k, S)) (fun k S1 => Sm [14] S S1 ∧ ∀ i, i ≤ m → Ex (-2147483648) (V (pl c w (Mh how) g8 k) i) (S1.1 14 i)) n (fun S1 => Sm [14] S S1 ∧ ∀ i, i ≤ m → Ex (-2147483648) (V (pl c w (Mh how) g8 n) i) (S1.1 14 i))
    (fun k S1 hk hI' => by
      obtain ⟨mS, hW⟩ := hI'
      obtain ⟨p1, p2, p3, p4, p5⟩ := hP k hk
      have run : ∃ S2, f_X5_pay_68i37 land (nI m) (hI how) (nI k) (nI (c k)) S1 = some (.inl (nI (k + 1), S2)) ∧ Sm [14] S S2 ∧ ∀ i, i ≤ m → Ex (-2147483648) (V (pl c w (Mh how) g8 (k + 1)) i) (S2.1 14 i) := by
        have e68 : f_X5_pay_68i37 land (nI m) (hI how) (nI k) (nI (c k)) S1 = jx_b (jx_w (g_X5_pay_95 land (nI m) (hI how) (nI k) (nI (c k)) (rkI how k)) FU ((0 : Int32), S1)) (fun z => f_X5_pay_122i37 land (nI m) (hI how) (nI k) z) := by
          unfold f_X5_pay_68i37 f_X5_pay_82i37 f_X5_placeOf rkI
          by_cases q : hI how = 0
          · rw [if_pos q, if_pos q, zb_2, zb_l]
          · rw [if_neg q, if_neg q, zb_2, zb_l]
        rw [e68]
        unfold f_X5_pay_122i37
        obtain ⟨S2, v1, v2, v3⟩ := wl_for (g_X5_pay_95 land (nI m) (hI how) (nI k) (nI (c k)) (rkI how k)) (fun j S => (nI j, S)) (fun j S2 => Sm [14] S S2 ∧ ∀ i, i ≤ m → Ex (-2147483648) (V (List.replicate j (w k, Mh how + (g8 k : Int)) ++ pl c w (Mh how) g8 k) i) (S2.1 14 i)) (c k) (fun S2 => Sm [14] S S2 ∧ ∀ i, i ≤ m → Ex (-2147483648) (V (List.replicate (c k) (w k, Mh how + (g8 k : Int)) ++ pl c w (Mh how) g8 k) i) (S2.1 14 i))
          (fun j S2 hj hI' => by
            obtain ⟨m2, hW2⟩ := hI'
            unfold g_X5_pay_95 b_X5_pay_95
            obtain ⟨S3, e1, e2, e3⟩ := q_onemore (how := how) (s := k) (w := w k) (top := m) p4 p5 (by omega) hm (pl_len8 hn hc6 hk (by omega)) hW2
            rw [if_neg (nI_ge hj (by omega)), zb_an _ (by omega) (by omega), cl_n (by omega), m2.1 3 (by decide), p3, e1, zb_s, zb_l, nI_1]
            exact ⟨S3, rfl, Sm_tr m2 e2, e3⟩)
          (fun S2 hI' => ⟨S2, by unfold g_X5_pay_95 b_X5_pay_95; rw [if_pos (nI_le (Nat.le_refl _) (by omega))], hI'⟩) FU 0 S1 (by omega) ⟨mS, hW⟩ (FU_lt (by omega) 0)
        rw [show ((0 : Int32), S1) = (nI 0, S1) from rfl, v1, zb_s, zb_l, nI_1]
        exact ⟨S2, rfl, v2, v3⟩
      obtain ⟨S2, r1, r2, r3⟩ := run
      refine ⟨S2, ?_, r2, r3⟩
      unfold g_X5_pay_37 b_X5_pay_37
      rw [mS.1 1 (by decide), hS, if_neg (nI_ge hk (by omega)), zb_an _ (by omega) (by omega), cl_n (by omega), mS.1 2 (by decide), mS.1 6 (by decide)]
      rcases p1 with ⟨q1, q2⟩ | ⟨q1, q2⟩
      · rw [if_pos q1, zb_an _ (by omega) (by omega), q2]; exact r1
      · rw [if_neg q1]; rw [q2] at r1; exact r1)
    (fun S1 hI' => ⟨S1, by
      unfold g_X5_pay_37 b_X5_pay_37
      rw [hI'.1.1 1 (by decide), hS, if_pos (nI_le (Nat.le_refl n) (by omega))], hI'⟩) FU 0 S1 (by omega) ⟨m1, d1⟩ (FU_lt (by omega) 0)
  have pre : ∀ r, f_X5_pay_128 (nI m) S2 = r → f_X5_pay land (nI m) (hI how) S = r := fun r hr => by
    unfold f_X5_pay
    rw [q_within, zb_2, if_pos (⟨nI_pos' (by omega), nI_le (b := 1920) hm (by omega)⟩ : 0 ≤ nI m ∧ nI m ≤ 1920), if_neg one_ne, a1, zb_s, zb_a _ (by decide), zb_l, c0, hS1, show ((0 : Int32), S1) = (nI 0, S1) from rfl, w1, zb_s]
    exact hr
  have h14 : ∀ S3 : St, Sm [14, 16] S2 S3 → Sm [14, 16] S S3 := fun S3 h => Sm_tr ⟨fun a ha => w2.1 a (by simp at ha ⊢; omega), w2.2⟩ h
  have hx := w3 m (Nat.le_refl m)
  unfold f_X5_pay_128 at pre
  rw [zb_an _ (by omega) (by omega), zb_an _ (by omega) (by omega), cl_n (by omega)] at pre
  cases hV : V (pl c w (Mh how) g8 n) m with
  | none =>
    rw [hV] at hx
    exact ⟨S2, h14 S2 Sm_rf, Or.inl ⟨rfl, pre _ (by rw [if_pos (show S2.1 14 m = -2147483648 from hx)])⟩⟩
  | some v =>
    rw [hV] at hx
    refine ⟨S2, h14 S2 Sm_rf, Or.inr ⟨v, rfl, fun t y hv hy ht => ?_⟩⟩
    have hx1 := hx.1
    rw [hv, rank8 hn] at hx1
    obtain ⟨S3, f1, f2, f3⟩ := q_coinsOf (S := S2) (n := n) (v := S2.1 14 m) (M := if how then (t : Int) else -(t : Int)) (y := fun s => if s < n then y s else 0) hn (fun s _ => by
      show (if s < n then y s else 0) ≤ 6
      split
      · exact hy s (by assumption)
      · omega) (fun s hs => if_neg (by omega)) (by
      rw [hx1]
      unfold Mh
      cases how
      · simp only [Bool.false_eq_true, reduceIte]; omega
      · simp only [reduceIte]; omega)
    have hcnt : sumTo (fun s => if s < n then y s else 0) 8 = t := by
      rw [sumTo_stop (c := n) 8 hn (fun i h1 h2 => if_neg (by omega)), sumTo_congr (f2 := y) n (fun i hi => if_pos hi)]
      exact ht
    rw [hcnt] at f1
    refine ⟨S3, h14 S3 ⟨fun a ha => f2.1 a (by simp at ha ⊢; omega), f2.2⟩, pre _ ?_, fun s hs => ?_⟩
    · rw [if_neg (Ex_ne hx), w2.1 1 (by decide), hS, f1, zb_2]
    · rw [f3 s (by omega)]
      show nI (if s < n then y s else 0) = _
      rw [if_pos hs]
/-- the payment of both sides -/
theorem qp_pay {how : Bool} {n m : Nat} {land : Int32} (hs : Rs n S T) (hm : m < 2 ^ 31) : ∃ S' T', Sm [14, 16] S S' ∧ Sm [23, 24] T T' ∧ ((V (pl (cnS S 6 land) (wnS S) (Mh how) g8 n) m = none ∨ 1920 < m) ∧ f_X5_pay land (nI m) (hI how) S = some (-2, S') ∧ f_X12_payment land (nI m) (hI how) T = some (-1, T') ∨ ∃ (t : Nat) (y : Nat → Nat), m ≤ 1920 ∧ (∃ v, V (pl (cnS S 6 land) (wnS S) (Mh how) g8 n) m = some v) ∧ t ≤ 100 ∧ f_X5_pay land (nI m) (hI how) S = some (nI t, S') ∧ f_X12_payment land (nI m) (hI how) T = some (nI t, T') ∧ ∀ s, s < n → S'.1 16 s = nI (y s) ∧ T'.1 24 s = nI (y s) ∧ y s ≤ cnS S 6 land s) := by
  by_cases hm2 : m ≤ 1920
  · have hc6 : ∀ s, s < n → cnS S 6 land s ≤ 6 := fun s hs' => (Pn_of hs land s hs').2.1
    obtain ⟨S', s1, s2⟩ := q_pay (how := how) hs.1 hs.2.1 (Pn_of hs land) hm2
    obtain ⟨T', t1, t2⟩ := p_payment (how := how) hs.1 hs.2.2.1 (Pm_of hs land) hm2
    rcases pay_link (how := how) (m := m) (w := wnS S) hs.1 hc6 with ⟨l1, l2⟩ | ⟨t, y, l1, l2, l3, l4, l5, l6⟩
    · rcases s2 with ⟨s3, s4⟩ | ⟨v, s3, -⟩
      · rcases t2 with ⟨t3, t4⟩ | ⟨t, t3, -⟩
        · exact ⟨S', T', s1, t1, Or.inl ⟨Or.inl l2, s4, t4⟩⟩
        · rw [l1] at t3; cases t3
      · rw [l2] at s3; cases s3
    · rcases s2 with ⟨s3, s4⟩ | ⟨v, s3, s4⟩
      · rw [l6] at s3; cases s3
      · rcases t2 with ⟨t3, t4⟩ | ⟨t', t3, t4, t5, t6⟩
        · rw [l1] at t3; cases t3
        · rw [l1] at t3
          have et := Option.some.inj t3
          subst et
          rw [l6] at s3
          obtain ⟨S2, z1, z2, z3⟩ := s4 t y (Option.some.inj s3).symm (fun s hs' => by have := l3 s hs'; have := hc6 s hs'; omega) l5
          exact ⟨S2, T', z1, t1, Or.inr ⟨t, y, hm2, ⟨_, l6⟩, t4, z2, t5, fun s hs' => ⟨z3 s hs', by rw [t6 s hs', l2 s], l3 s hs'⟩⟩⟩
  · refine ⟨S, T, Sm_rf, Sm_rf, Or.inl ⟨Or.inr (by omega), ?_, ?_⟩⟩
    · unfold f_X5_pay
      rw [q_within, zb_2, if_neg (fun z : 0 ≤ nI m ∧ nI m ≤ 1920 => hm2 ((nI_leI (b := 1920) hm (by omega)).mp z.2)), if_pos rfl]
    · unfold f_X12_payment
      rw [if_neg (show ¬ nI m ≤ (1920 : Int32) from fun z => hm2 ((nI_leI (b := 1920) hm (by omega)).mp z))]
theorem op_paid (a w s : Int32) (h : RR RxC S T) : OK RxC (f_X11_paid a w s S) (f_X12_paid a w s T) := by
  obtain ⟨n, m, t, c, e, d, hs, ht, hm, hp, hch, hi, hd, hh, hx0, hx1⟩ := id h
  obtain ⟨hn, hS, hT, hv⟩ := id hs
  unfold f_X11_paid f_X12_paid f_X11_paid_34 f_X11_paid_62
  simp only [q_isAmount, p_isAmount, q_within, p_in, zb_2, ite01, q_knows hS (by omega), hT, c10000]
  refine ok_if Iff.rfl (fun _ => ok_r _ h) (fun h1 => ok_if Iff.rfl (fun _ => ok_r _ h) (fun h2 => ?_))
  obtain ⟨l, A, hl, hA, e1, e2⟩ := amt_of (nn h1)
  rw [e2]
  obtain ⟨wn, hwn, -, rfl⟩ := ix_lit (k := 1) (by omega) rfl (nn h2)
  obtain ⟨how, hhow⟩ : ∃ how : Bool, nI wn = hI how := by
    have : wn = 0 ∨ wn = 1 := by omega
    rcases this with q | q <;> subst q
    · exact ⟨false, rfl⟩
    · exact ⟨true, rfl⟩
  rw [hhow]
  have sel : ∀ (X : Int32 → Option (Int32 × St)), (if hI how = 1 then X 1 else X 0) = X (hI how) := fun X => by
    cases how
    · rw [if_neg (show ¬ hI false = 1 by decide)]; rfl
    · rw [if_pos (show hI true = 1 from rfl)]; rfl
  have m1 : (-1 : Int32).toInt = -1 := rfl
  have sn : (nI n - 1).toInt = (n : Int) - 1 := sub1_toInt (by omega)
  obtain ⟨S', T', k1, k2, k3⟩ := qp_pay (how := how) (land := a / 10000) (m := A) hs (by omega)
  have hR := RR_keep h (KX_Sm k1 (by decide)) (KM_Sm k2 (by decide))
  have core : (s = -1 ∨ ∃ j, j < n ∧ s = nI j) → OK RxC (jx_b2 (f_X5_pay (a / 10000) (nI A) (hI how) S) (fun r_17 S_15 => (if 0 ≤ r_17 then (if s = (-1 : Int32) then some (r_17, S_15) else jx_a s 8 (some ((S_15.1 16 (Int32.toNatClampNeg s)), S_15))) else some ((-2 : Int32), S_15)))) (jx_b2 (f_X12_payment (a / 10000) (nI A) (hI how) T) (fun r_17 S_15 => (if r_17 = (-1 : Int32) then some ((-2 : Int32), S_15) else (if s = (-1 : Int32) then some (r_17, S_15) else jx_a s 8 (some ((S_15.1 24 (Int32.toNatClampNeg s)), S_15)))))) := fun hsj => by
    rcases k3 with ⟨-, z1, z2⟩ | ⟨t, y, -, -, t100, z1, z2, z3⟩
    · rw [z1, z2, zb_2, zb_2, if_neg (by decide), if_pos rfl]; exact ok_r _ hR
    · rw [z1, z2, zb_2, zb_2, if_pos (nI_pos' (by omega)), if_neg (m1_ne (by omega))]
      refine ok_if Iff.rfl (fun _ => ok_r _ hR) (fun hne => ?_)
      obtain ⟨j, hj, rfl⟩ := hsj.resolve_left hne
      rw [zb_an _ (by omega) (by omega), zb_an _ (by omega) (by omega), cl_n (by omega), (z3 j hj).1, (z3 j hj).2.1]
      exact ok_r _ hR
  by_cases hs1 : s = -1
  · rw [if_pos hs1, if_neg (show ¬ ¬ (-1 ≤ s ∧ s ≤ nI n - 1) by rw [hs1, i32_le, i32_le, sn, m1]; omega), sel (fun x => jx_b2 (f_X5_pay (a / 10000) (nI A) x S) _)]
    exact core (Or.inl hs1)
  · rw [if_neg hs1]
    have key : (0 ≤ s.toInt ∧ s.toInt < (n : Int)) ↔ (-1 ≤ s ∧ s ≤ nI n - 1) := by
      rw [i32_le, i32_le, sn, m1]
      have : s.toInt ≠ -1 := fun q => hs1 (Int32.toInt_inj.mp (by rw [q]; rfl))
      omega
    by_cases hk : 0 ≤ s.toInt ∧ s.toInt < (n : Int)
    · rw [if_neg (show ¬ ¬ (0 ≤ s.toInt ∧ s.toInt < (n : Int)) from fun q => q hk), if_neg (show ¬ ¬ (-1 ≤ s ∧ s ≤ nI n - 1) from fun q => q (key.mp hk)), sel (fun x => jx_b2 (f_X5_pay (a / 10000) (nI A) x S) _)]
      obtain ⟨j, hj, hje⟩ := ix_of hk (by omega)
      exact core (Or.inr ⟨j, hj, hje⟩)
    · rw [if_pos hk, if_pos (fun q => hk (key.mpr q))]
      exact ok_r _ h
