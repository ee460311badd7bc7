variable {S T : St}
theorem i32_sub {x y : Int32} (hx : rg x 0 99) (hy : rg y 0 99) : (x - y).toInt = x.toInt - y.toInt := by
  obtain ⟨a1, a2⟩ := hx
  obtain ⟨b1, b2⟩ := hy
  rw [Int32.toInt_sub]
  exact Int.bmod_eq_of_le (by omega) (by omega)
theorem i32_nsub {x y : Int32} (hx : rg x 0 99) (hy : rg y 0 99) : (0 - (x - y)).toInt = y.toInt - x.toInt := by
  have h := i32_sub hx hy
  obtain ⟨a1, a2⟩ := hx
  obtain ⟨b1, b2⟩ := hy
  rw [Int32.toInt_sub, h]
  have h0 : (0 : Int32).toInt = 0 := rfl
  rw [h0, Int.bmod_eq_of_le (by omega) (by omega)]
  omega
theorem q_abs {x y g : Int32} (hx : rg x 0 99) (hy : rg y 0 99) : (g < (if 0 ≤ (x - y) then (x - y) else 0 - (x - y))) ↔ ¬ (x.toInt - y.toInt ≤ g.toInt ∧ y.toInt - x.toInt ≤ g.toInt) := by
  have h1 := i32_sub hx hy
  have h2 := i32_nsub hx hy
  have h0 : (0 : Int32).toInt = 0 := rfl
  by_cases q : 0 ≤ x - y
  · rw [if_pos q, i32_lt, h1]
    rw [i32_le, h1, h0] at q
    omega
  · rw [if_neg q, i32_lt, h2]
    rw [i32_le, h1, h0] at q
    omega
theorem p_apart {x y : Int32} (hx : rg x 0 99) (hy : rg y 0 99) (T : St) : ∃ r, f_X12_apart y x T = some (r, T) ∧ ∀ g : Int32, (g < r) ↔ ¬ (x.toInt - y.toInt ≤ g.toInt ∧ y.toInt - x.toInt ≤ g.toInt) := by
  unfold f_X12_apart
  have h1 := i32_sub hx hy
  have h2 := i32_sub hy hx
  by_cases q : x ≤ y
  · rw [if_pos q]
    refine ⟨_, rfl, fun g => ?_⟩
    rw [i32_le] at q
    rw [i32_lt, h2]; omega
  · rw [if_neg q]
    refine ⟨_, rfl, fun g => ?_⟩
    rw [i32_le] at q
    rw [i32_lt, h1]; omega
/-- sort o is like sort s -/
abbrev lkP (S : St) (s o : Nat) (g : Int32) : Prop := ((S.1 4 o).toInt - (S.1 4 s).toInt ≤ g.toInt ∧ (S.1 4 s).toInt - (S.1 4 o).toInt ≤ g.toInt) ∧ ((S.1 5 o).toInt - (S.1 5 s).toInt ≤ g.toInt ∧ (S.1 5 s).toInt - (S.1 5 o).toInt ≤ g.toInt)
def lkB (S : St) (s : Nat) (g : Int32) : Nat → Nat
  | 0 => 0
  | k + 1 => lkB S s g k + (if lkP S s k g then 2 ^ k else 0)
theorem lkB_lt (S : St) (s : Nat) (g : Int32) : ∀ k, lkB S s g k < 2 ^ k
  | 0 => by show 0 < 2 ^ 0; decide
  | k + 1 => by
    have := lkB_lt S s g k
    have h2 : 2 ^ (k + 1) = 2 * 2 ^ k := by rw [Nat.pow_succ, Nat.mul_comm]
    unfold lkB
    split <;> omega
theorem lkB_bit (S : St) (s : Nat) (g : Int32) (j : Nat) : ∀ k, j < k → lkB S s g k / 2 ^ j % 2 = if lkP S s j g then 1 else 0
  | 0, h => absurd h (by omega)
  | k + 1, h => by
    have hl := lkB_lt S s g k
    show (lkB S s g k + (if lkP S s k g then 2 ^ k else 0)) / 2 ^ j % 2 = _
    by_cases e : j = k
    · subst e
      split
      · rw [Nat.add_div_right _ (Nat.two_pow_pos j), Nat.div_eq_of_lt hl]
      · rw [Nat.add_zero, Nat.div_eq_of_lt hl]
    · rw [← lkB_bit S s g j k (by omega)]
      split
      · rw [show 2 ^ k = 2 ^ j * (2 * 2 ^ (k - j - 1)) from by rw [← Nat.mul_assoc, Nat.mul_comm (2 ^ j) 2, ← Nat.pow_succ', ← Nat.pow_add]; congr 1; omega, Nat.add_mul_div_left _ _ (Nat.two_pow_pos j), Nat.add_mul_mod_self_left]
      · rw [Nat.add_zero]
theorem or_bit : ∀ k, k < 8 → ∀ x, x < 2 ^ k → nI x ||| ((1 : Int32) <<< (nI k &&& 31)) = nI (x + 2 ^ k) := by decide +kernel
theorem sh_bit : ∀ j, j < 8 → ∀ x, x < 256 → (nI x >>> (nI j &&& 31)) &&& 1 = nI (x / 2 ^ j % 2) := by decide +kernel
theorem q_alike {n s : Nat} (hs : Rs n S T) (hsn : s < n) (g : Int32) : f_X1_alike (nI s) g S = some (nI (lkB S s g n), S) := by
  obtain ⟨hn, hS, hT, hv⟩ := hs
  unfold f_X1_alike
  obtain ⟨r, h1, h2⟩ := wl_for (g_X1_alike_5 (nI s) g S) (fun i (_ : Unit) => (nI (lkB S s g i), nI i)) (fun _ _ => True) n (fun r => r = nI (lkB S s g n))
    (fun k _ hk _ => by
      refine ⟨(), ?_, trivial⟩
      unfold g_X1_alike_5 b_X1_alike_5 f_X1_alike_63i5
      have hb := lkB_lt S s g k
      rw [hS, if_neg (nI_ge hk (by omega))]
      simp (disch := omega) only [zb_an, cl_n, zb_l, nI_1, q_abs (hv k hk).2.2.2.1 (hv s hsn).2.2.2.1, q_abs (hv k hk).2.2.2.2.1 (hv s hsn).2.2.2.2.1]
      show _ = some (Sum.inl (nI (lkB S s g k + (if lkP S s k g then 2 ^ k else 0)), nI (k + 1)))
      by_cases c1 : (S.1 4 k).toInt - (S.1 4 s).toInt ≤ g.toInt ∧ (S.1 4 s).toInt - (S.1 4 k).toInt ≤ g.toInt
      · rw [if_neg (fun q => q c1)]
        by_cases c2 : (S.1 5 k).toInt - (S.1 5 s).toInt ≤ g.toInt ∧ (S.1 5 s).toInt - (S.1 5 k).toInt ≤ g.toInt
        · rw [if_neg (fun q => q c2), if_pos ⟨c1, c2⟩, or_bit k (by omega) _ hb]
        · rw [if_pos c2, if_neg (fun q => c2 q.2)]; rfl
      · rw [if_pos c1, if_neg (fun q => c1 q.1)]; rfl)
    (fun _ _ => ⟨_, by unfold g_X1_alike_5 b_X1_alike_5; rw [hS, if_pos (nI_le (Nat.le_refl n) (by omega))], rfl⟩) FU 0 () (by omega) trivial (FU_lt (by omega) 0)
  rw [show ((0 : Int32), (0 : Int32)) = (nI (lkB S s g 0), nI 0) from rfl, h1, zb_s, h2]
  rfl
theorem p_isLike {n s o : Nat} (hs : Rs n S T) (hsn : s < n) (hon : o < n) (g : Int32) (T' : St) (h3 : T'.1 3 = T.1 3) (h4 : T'.1 4 = T.1 4) : f_X12_isLike (nI s) (nI o) g T' = some (if lkP S s o g then 1 else 0, T') := by
  obtain ⟨hn, hS, hT, hv⟩ := hs
  obtain ⟨r1, e1, f1⟩ := p_apart (hv o hon).2.2.2.1 (hv s hsn).2.2.2.1 T'
  obtain ⟨r2, e2, f2⟩ := p_apart (hv o hon).2.2.2.2.1 (hv s hsn).2.2.2.2.1 T'
  unfold f_X12_isLike
  simp (disch := omega) only [zb_an, cl_n, h3, h4, (hv o hon).1.2.2.1, (hv s hsn).1.2.2.1, (hv o hon).1.2.2.2.1, (hv s hsn).1.2.2.2.1, e1, e2, zb_2, f1, f2]
  by_cases c1 : (S.1 4 o).toInt - (S.1 4 s).toInt ≤ g.toInt ∧ (S.1 4 s).toInt - (S.1 4 o).toInt ≤ g.toInt
  · rw [if_neg (fun q => q c1)]
    by_cases c2 : (S.1 5 o).toInt - (S.1 5 s).toInt ≤ g.toInt ∧ (S.1 5 s).toInt - (S.1 5 o).toInt ≤ g.toInt
    · rw [if_neg (fun q => q c2), if_pos ⟨c1, c2⟩]
    · rw [if_pos c2, if_neg (fun q => c2 q.2)]
  · rw [if_pos c1, if_neg (fun q => c1 q.1)]
theorem op_like (a g : Int32) (h : RR RxC S T) : OK RxC (f_X11_like a g S) (f_X12_like a g T) := by
  obtain ⟨n, m, t, c, e, d', hs, ht, hm, hp, hch, hi, hd, hh, hx0, hx1⟩ := id h
  obtain ⟨hn, hS, hT, hv⟩ := id hs
  unfold f_X11_like f_X12_like
  simp only [q_knows hS (by omega), p_isSort hT (by omega), q_within, p_in, zb_2, ite01]
  refine ok_if Iff.rfl (fun _ => ok_r _ h) (fun h1 => ok_if Iff.rfl (fun _ => ok_r _ h) (fun h2 => ?_))
  obtain ⟨j, hj, rfl⟩ := ix_of (nn h1) (by omega)
  rw [q_alike hs hj, zb_2]
  obtain ⟨r, w1, w2⟩ := wl_for (g_X12_like_25 (nI j) g) (fun i (_ : Unit) => (nI (lkB S j g i), nI i, T)) (fun _ _ => True) n (fun r => r = (nI (lkB S j g n), T))
    (fun k _ hk _ => by
      refine ⟨(), ?_, trivial⟩
      unfold g_X12_like_25 b_X12_like_25 f_X12_like_54i25
      have hb := lkB_lt S j g k
      rw [hT, if_neg (nI_ge hk (by omega)), p_isLike hs hj hk g T rfl rfl, zb_2]
      simp only [zb_l, nI_1, Int32.or_zero]
      show _ = some (Sum.inl (nI (lkB S j g k + (if lkP S j k g then 2 ^ k else 0)), nI (k + 1), T))
      by_cases c1 : lkP S j k g
      · rw [if_pos c1, if_neg one_ne, or_bit k (by omega) _ hb, if_pos c1]
      · rw [if_neg c1, if_pos rfl, if_neg c1]; rfl)
    (fun _ _ => ⟨_, by unfold g_X12_like_25 b_X12_like_25; rw [hT, if_pos (nI_le (Nat.le_refl n) (by omega))], rfl⟩) FU 0 () (by omega) trivial (FU_lt (by omega) 0)
  rw [show ((0 : Int32), (0 : Int32), T) = (nI (lkB S j g 0), nI 0, T) from rfl, w1, zb_s, w2]
  exact ok_r _ h
