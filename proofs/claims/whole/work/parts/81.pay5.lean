variable {S T : St}
/-! the class's payment, and that both are one -/
def g8 (s : Nat) : Nat := 8 ^ (7 - s)
theorem lv_lv {n : Nat} (f : Nat → Nat) {j : Nat} (h : j < n) : lv n (lv n f) j = f j := by
  unfold lv
  rw [show n - 1 - (n - 1 - j) = j by omega]
theorem sumw_rev (n : Nat) (x w : Nat → Nat) : sumw x w n = sumw (lv n x) (lv n w) n := sumTo_rev (fun s => x s * w s) n
theorem rank_rev (M : Int) (n : Nat) (g x : Nat → Nat) : rank M g x n = rank M (lv n g) (lv n x) n := by
  unfold rank cnt2
  rw [sumw_rev n x g, sumTo_rev x n]
  rfl
theorem pay_link {how : Bool} {n m : Nat} {c w : Nat → Nat} (hn : n ≤ 8) (hc : ∀ s, s < n → c s ≤ 6) : (U how (lv n c) (lv n w) n m = none ∧ V (pl c w (Mh how) g8 n) m = none) ∨ ∃ t y, U how (lv n c) (lv n w) n m = some t ∧ (∀ s, y s = Ye how (lv n c) (lv n w) n m (n - 1 - s)) ∧ (∀ s, s < n → y s ≤ c s) ∧ sumw y w n = m ∧ cnt2 y n = t ∧ V (pl c w (Mh how) g8 n) m = some (Mh how * (t : Int) + (sumw y g8 n : Int)) := by
  have hlc : ∀ j, j < n → lv n c j ≤ 6 := fun j hj => hc _ (by omega)
  have hg : ∀ j, j < n → lv n g8 j = 8 ^ (8 - n + j) := fun j hj => by
    unfold lv g8
    congr 1; omega
  have opt := fun (x : Nat → Nat) (h1 : ∀ s, s < n → x s ≤ c s) (h2 : sumw x w n = m) => Y_2 (how := how) (c := lv n c) (w := lv n w) (g := lv n g8) (e := 8 - n) (n := n) (by omega) hg hlc n m (lv n x) (Nat.le_refl n) (fun j hj => h1 _ (by omega)) (by rw [← sumw_rev]; exact h2)
  cases hU : U how (lv n c) (lv n w) n m with
  | none =>
    refine Or.inl ⟨rfl, ?_⟩
    cases hV : V (pl c w (Mh how) g8 n) m with
    | none => rfl
    | some v =>
      obtain ⟨x, x1, x2, -⟩ := V_specA n m v hV
      obtain ⟨t, t1, -⟩ := opt x x1 x2
      rw [hU] at t1; cases t1
  | some t =>
    obtain ⟨y1, y2, y3⟩ := Y_1 n m t hU
    have hy : ∀ s, s < n → lv n (Ye how (lv n c) (lv n w) n m) s ≤ c s := fun s hs => by
      have := y1 (n - 1 - s) (by omega)
      unfold lv at this ⊢
      rw [show n - 1 - (n - 1 - s) = s by omega] at this
      exact this
    have hsum : sumw (lv n (Ye how (lv n c) (lv n w) n m)) w n = m := by
      rw [sumw_rev]
      refine Eq.trans ?_ y2
      unfold sumw
      exact sumTo_congr n (fun j hj => by rw [lv_lv _ hj])
    have hcnt : cnt2 (lv n (Ye how (lv n c) (lv n w) n m)) n = t := by
      refine Eq.trans ?_ y3
      unfold cnt2
      exact (sumTo_rev _ n).symm
    have hrk : rank (Mh how) g8 (lv n (Ye how (lv n c) (lv n w) n m)) n = rank (Mh how) (lv n g8) (Ye how (lv n c) (lv n w) n m) n := by
      rw [rank_rev]
      exact rank_congr _ _ (fun j hj => lv_lv _ hj)
    refine Or.inr ⟨t, lv n (Ye how (lv n c) (lv n w) n m), rfl, fun s => rfl, hy, hsum, hcnt, ?_⟩
    obtain ⟨v, v1, v2⟩ := V_specB (M := Mh how) (g := g8) n m _ hy hsum
    obtain ⟨x, x1, x2, x3⟩ := V_specA n m v v1
    obtain ⟨t', t1, t2⟩ := opt x x1 x2
    rw [← rank_rev, x3, ← hrk] at t2
    rw [v1]
    have : v = rank (Mh how) g8 (lv n (Ye how (lv n c) (lv n w) n m)) n := by omega
    rw [this]
    unfold rank
    rw [hcnt]
/-- a coin's rank -/
def rkI (how : Bool) (s : Nat) : Int32 := (if hI how = 0 then (-16777216 : Int32) else 16777216) + ((1 : Int32) <<< ((((7 : Int32) - nI s) * 3) &&& 31))
theorem rkI_int : ∀ how : Bool, ∀ s, s < 8 → (rkI how s).toInt = Mh how + (g8 s : Int) := by decide +kernel
theorem q_onemore {w top s : Nat} {how : Bool} {l : List (Nat × Int)} (hw : 1 ≤ w) (hw2 : w ≤ 40) (hs : s < 8) (ht : top ≤ 1920) (hl : (∀ x, x ∈ l → -18874368 ≤ x.2 ∧ x.2 ≤ 18874368) ∧ l.length ≤ 48) (h : ∀ i, i ≤ top → Ex (-2147483648) (V l i) (S.1 14 i)) : ∃ S', f_X5_payWithOneMore (nI w) (rkI how s) (nI top) S = some S' ∧ Sm [14] S S' ∧ ∀ i, i ≤ top → Ex (-2147483648) (V ((w, Mh how + (g8 s : Int)) :: l) i) (S'.1 14 i) := by
  unfold f_X5_payWithOneMore f_X5_payWithOneMore_54
  obtain ⟨S', w1, w2, w3⟩ := lp_knap (g := g_X5_payWithOneMore_3 (nI w) (rkI how s)) (k := 14) (w := w) (top := top) (z := -2147483648) (r := rkI how s) hw (by omega) S
    (fun a S1 hwa hat hm => by
      unfold g_X5_payWithOneMore_3 b_X5_payWithOneMore_3 f_X5_payWithOneMore_48i3
      rw [if_neg (nI_nlt hwa (by omega)), pk_sub hwa]
      simp (disch := omega) only [zb_an, cl_n, zb_l]
      by_cases q : S1.1 14 (a - w) = -2147483648
      · rw [if_pos q]
        refine ⟨_, rfl, Sm_rf, fun i => ?_⟩
        by_cases e : i = a
        · rw [if_pos e, e]; unfold kn; rw [if_pos q]
        · rw [if_neg e]
      · rw [if_neg q]
        refine ⟨_, rfl, Sm_one (by decide), fun i => ?_⟩
        rw [rd_1, if_pos rfl]
        by_cases e : i = a
        · rw [if_pos e, if_pos e]; unfold kn; rw [if_neg q]
        · rw [if_neg e, if_neg e])
    (fun a S1 hwa hat hm => by
      unfold g_X5_payWithOneMore_3 b_X5_payWithOneMore_3
      rw [if_pos (nI_lt hwa (by omega))])
  rw [w1, zb_s]
  refine ⟨S', rfl, w2, ?_⟩
  have := knap_row w3 h (fun k u hu => by
    have b1 := V_bd (R := 18874368) (by omega) l hl.1 k u hu
    have b2 := hl.2
    have b3 := rkI_int how s hs
    have b4 : g8 s ≤ 2097152 := by
      unfold g8
      have := Nat.pow_le_pow_right (show 0 < 8 by omega) (show 7 - s ≤ 7 by omega)
      rw [show (2097152 : Nat) = 8 ^ 7 from rfl]; exact this
    have z0 : (-2147483648 : Int32).toInt = -2147483648 := rfl
    have b5 : Mh how = 16777216 ∨ Mh how = -16777216 := by unfold Mh; cases how <;> simp
    omega)
  rw [rkI_int how s hs] at this
  exact this
/-- the digits of a rank -/
def D8 (y : Nat → Nat) : Nat := y 0 * 2097152 + y 1 * 262144 + y 2 * 32768 + y 3 * 4096 + y 4 * 512 + y 5 * 64 + y 6 * 8 + y 7
theorem and7 (x : Int32) : x &&& 7 = nI ((x.toInt % 8).toNat) := by
  rw [pk_and x (m := 7) 3 rfl]
  congr 1
  have h : x.toInt = if 2 * x.toBitVec.toNat < 2 ^ 32 then (x.toBitVec.toNat : Int) else (x.toBitVec.toNat : Int) - ((2 ^ 32 : Nat) : Int) := BitVec.toInt_eq_toNat_cond x.toBitVec
  rw [h]
  split <;> omega
theorem shr_at : ∀ s, s < 8 → (((((7 : Int32) - nI s) * 3) &&& 31).toBitVec.smod 32).toNat = 3 * (7 - s) := by decide +kernel
theorem digit {v : Int32} {M : Int} {y : Nat → Nat} (hy : ∀ s, s < 8 → y s ≤ 6) (hv : v.toInt = M * 16777216 + (D8 y : Int)) {s : Nat} (hs : s < 8) : (v >>> ((((7 : Int32) - nI s) * 3) &&& 31)) &&& 7 = nI (y s) := by
  rw [and7, pk_shr v _ (3 * (7 - s)) (shr_at s hs), hv, Int.shiftRight_eq_div_pow]
  congr 1
  have h0 := hy 0 (by omega)
  have h1 := hy 1 (by omega)
  have h2 := hy 2 (by omega)
  have h3 := hy 3 (by omega)
  have h4 := hy 4 (by omega)
  have h5 := hy 5 (by omega)
  have h6 := hy 6 (by omega)
  have h7 := hy 7 (by omega)
  unfold D8
  rcases lt8 hs with q | q | q | q | q | q | q | q <;> subst q <;> simp only [Nat.reduceSub, Nat.reduceMul, Nat.reducePow] <;> omega
theorem q_coinsOf {n : Nat} {v : Int32} {M : Int} {y : Nat → Nat} (hn : n ≤ 8) (hy : ∀ s, s < 8 → y s ≤ 6) (hyn : ∀ s, n ≤ s → y s = 0) (hv : v.toInt = M * 16777216 + (D8 y : Int)) : ∃ S', f_X5_coinsOf v (nI n) S = some (nI (sumTo y 8), S') ∧ Sm [16] S S' ∧ ∀ s, s < 8 → S'.1 16 s = nI (y s) := by
  unfold f_X5_coinsOf f_X5_coinsOf_55
  obtain ⟨⟨r, S'⟩, w1, w2, w3, w4⟩ := wl_for (g_X5_coinsOf_5 v (nI n)) (fun k S1 => (nI (sumTo y k), nI k, S1)) (fun k S1 => Sm [16] S S1 ∧ ∀ s, s < k → S1.1 16 s = nI (y s)) 8 (fun r => r.1 = nI (sumTo y 8) ∧ Sm [16] S r.2 ∧ ∀ s, s < 8 → r.2.1 16 s = nI (y s))
    (fun k S1 hk hI' => by
      obtain ⟨mS, h1⟩ := hI'
      unfold g_X5_coinsOf_5 b_X5_coinsOf_5 f_X5_placeOf
      have fin : ∀ z : Int32, z = nI (y k) → ∃ k', f_X5_coinsOf_38i5 v (nI n) (nI (sumTo y k)) (nI k) (nI k) z S1 = some (.inl (nI (sumTo y (k + 1)), nI (k + 1), k')) ∧ Sm [16] S k' ∧ ∀ s, s < k + 1 → k'.1 16 s = nI (y s) := fun z hz => by
        unfold f_X5_coinsOf_38i5
        rw [zb_an _ hk (by omega), zb_l, zb_an _ hk (by omega), zb_l, zb_l, cl_n (by omega), rd_1, if_pos rfl, if_pos rfl, hz, nI_add, nI_1]
        refine ⟨_, rfl, Sm_u1 mS (by decide), fun s hs => ?_⟩
        rw [rd_1, if_pos rfl]
        by_cases e : s = k
        · rw [if_pos e, e]
        · rw [if_neg e]; exact h1 s (by omega)
      rw [if_neg (by exact nI_ge (b := 8) hk (by omega))]
      by_cases q : n ≤ k
      · rw [if_pos (nI_le q (by omega))]
        exact fin 0 (by rw [hyn k q]; rfl)
      · rw [if_neg (nI_ge (by omega) (by omega)), zb_2]
        exact fin _ (digit hy hv hk))
    (fun S1 hI' => ⟨(nI (sumTo y 8), S1), by unfold g_X5_coinsOf_5 b_X5_coinsOf_5; rw [if_pos (by show (8 : Int32) ≤ nI 8; decide)], rfl, hI'.1, hI'.2⟩) FU 0 S (by omega) ⟨Sm_rf, fun s hs => absurd hs (by omega)⟩ (FU_lt (by omega) 0)
  rw [show ((0 : Int32), (0 : Int32), S) = (nI (sumTo y 0), nI 0, S) from rfl, w1, zb_s]
  simp only at w2 w3 w4
  rw [w2]
  exact ⟨S', rfl, w3, w4⟩
