variable {S T : St}
/-! asked: can it be paid -/
theorem q_can {R : Nat → Bool} (h : Wd R (S.2 13)) {m : Nat} (hm : m < 2 ^ 31) : f_X5_can (nI m) S = some (if m ≤ 1920 ∧ R m = true then 1 else 0, S) := by
  unfold f_X5_can
  rw [if_neg (nI_pos hm)]
  by_cases q : m ≤ 1920
  · rw [if_neg (by exact nI_nlt (a := 1920) q (by omega)), zb_d _ (by decide), zb_d _ (by decide), show nI m / (64 : Int32) = nI (m / 64) from pk_div (d := 64) hm (by omega) (by omega), show nI m - nI (m / 64) * (64 : Int32) = nI (m % 64) from by rw [← show nI m / (64 : Int32) = nI (m / 64) from pk_div (d := 64) hm (by omega) (by omega)]; exact pk_rem (d := 64) hm (by omega) (by omega), zb_an _ (by omega) (by omega), cl_n (by omega), Wd_bit h (by omega)]
    simp only [lg_cmp_eq]
    cases R m
    · rw [if_pos (show lN (if false = true then 1 else 0) = 0 from rfl), if_neg (by simp)]
    · rw [if_neg (show ¬ lN (if true = true then 1 else 0) = 0 by decide), if_pos ⟨q, rfl⟩]
  · rw [if_pos (by exact nI_lt (a := 1920) (by omega) hm), if_neg (fun z => q z.1)]
theorem p_canPay {R : Nat → Bool} (h : Wd R (T.2 22)) {m : Nat} (hm : m < 2 ^ 31) : f_X12_canPay (nI m) T = some (if m ≤ 1920 ∧ R m = true then 1 else 0, T) := by
  unfold f_X12_canPay
  by_cases q : m ≤ 1920
  · rw [if_neg (by exact nI_nlt (a := 1920) q (by omega)), zb_d _ (by decide), zb_d _ (by decide), show nI m / (64 : Int32) = nI (m / 64) from pk_div (d := 64) hm (by omega) (by omega), show nI m - nI (m / 64) * (64 : Int32) = nI (m % 64) from by rw [← show nI m / (64 : Int32) = nI (m / 64) from pk_div (d := 64) hm (by omega) (by omega)]; exact pk_rem (d := 64) hm (by omega) (by omega), zb_an _ (by omega) (by omega), cl_n (by omega), Wd_bit h (by omega)]
    simp only [lg_cmp_eq]
    cases R m
    · rw [if_neg (show ¬ lN (if false = true then 1 else 0) = 1 by decide), if_neg (by simp)]
    · rw [if_pos (show lN (if true = true then 1 else 0) = 1 from rfl), if_pos ⟨q, rfl⟩]
  · rw [if_pos (by exact nI_lt (a := 1920) (by omega) hm), if_neg (fun z => q z.1)]
/-! the sums that coins come to -/
def lsum : List Nat → Nat
  | [] => 0
  | w :: l => w + lsum l
theorem lsum_app : ∀ l l2 : List Nat, lsum (l ++ l2) = lsum l + lsum l2
  | [], l2 => by show lsum l2 = 0 + lsum l2; omega
  | w :: l, l2 => by show w + lsum (l ++ l2) = w + lsum l + lsum l2; rw [lsum_app l l2]; omega
theorem lsum_rep (c w : Nat) : lsum (List.replicate c w) = c * w := by
  induction c with
  | zero => rw [Nat.zero_mul]; rfl
  | succ c ih => show w + lsum (List.replicate c w) = (c + 1) * w; rw [ih, Nat.add_mul, Nat.one_mul, Nat.add_comm]
theorem rch_le : ∀ (l : List Nat) (m : Nat), rch l m = true → m ≤ lsum l
  | [], m, h => by have : m = 0 := of_decide_eq_true h; omega
  | w :: l, m, h => by
    have h' : rch l m = true ∨ (decide (w ≤ m) && rch l (m - w)) = true := by
      rw [← Bool.or_eq_true]; exact h
    show m ≤ w + lsum l
    rcases h' with q | q
    · have := rch_le l m q; omega
    · rw [Bool.and_eq_true] at q
      have := rch_le l (m - w) q.2
      have := of_decide_eq_true q.1
      omega
theorem rch_0 : ∀ l : List Nat, rch l 0 = true
  | [] => rfl
  | w :: l => by show (rch l 0 || _) = true; rw [rch_0 l]; rfl
theorem cl_sum_le {c w : Nat → Nat} {n : Nat} (h : ∀ k, k < n → c k ≤ 6 ∧ w k ≤ 40) : ∀ k, k ≤ n → lsum (cl c w k) ≤ 240 * k
  | 0, _ => Nat.le_refl _
  | k + 1, hk => by
    have := cl_sum_le h k (by omega)
    have q := Nat.mul_le_mul (h k (by omega)).1 (h k (by omega)).2
    show lsum (List.replicate (c k) (w k) ++ cl c w k) ≤ _
    rw [lsum_app, lsum_rep]; omega
def cnS (S : St) (cell : Nat) (land : Int32) (k : Nat) : Nat := if S.1 2 k = land then (S.1 cell k).toNatClampNeg else 0
def wnS (S : St) (k : Nat) : Nat := (S.1 3 k).toNatClampNeg
theorem h6 {n j : Nat} (hs : Rs n S T) (hj : j < n) : ∃ c, c ≤ 6 ∧ S.1 6 j = nI c ∧ (S.1 6 j).toNatClampNeg = c := by
  obtain ⟨hn, hS, hT, hv⟩ := hs
  have q := (hv j hj).2.2.2.2.2
  obtain ⟨w, w1, w2⟩ := ix_of (x := S.1 6 j) (n := 7) ⟨q.1, by have := q.2; omega⟩ (by omega)
  exact ⟨w, by omega, w2, by rw [w2, cl_n (by omega)]⟩
theorem Pn_of {n : Nat} (hs : Rs n S T) (land : Int32) : Pn S 6 land n (cnS S 6 land) (wnS S) := fun k hk => by
  obtain ⟨c, c1, c2, c3⟩ := h6 hs hk
  obtain ⟨w, w1, w2, w3, w4⟩ := w40 hs hk
  unfold cnS wnS
  rw [w4]
  by_cases q : S.1 2 k = land
  · rw [if_pos q, c3]; exact ⟨Or.inl ⟨q, c2⟩, c1, w3, w1, w2⟩
  · rw [if_neg q]; exact ⟨Or.inr ⟨q, rfl⟩, by omega, w3, w1, w2⟩
theorem Pm_of {n : Nat} (hs : Rs n S T) (land : Int32) : Pm T land n (cnS S 6 land) (wnS S) := fun k hk => by
  have q := Pn_of hs land k hk
  have e := (hs.2.2.2 k hk).1
  rw [e.1, e.2.1, e.2.2.2.2]; exact q
theorem Fb_KX {S' : St} (h : Fb 13 S S') : KX S S' := ⟨fun a _ => by rw [h.1], by rw [h.1], by rw [h.1], by rw [h.1], by rw [h.1], by rw [h.1], fun i _ => by rw [h.1], fun i _ => by rw [h.1], fun a ha => h.2 a (by omega)⟩
theorem Fb_KM {T' : St} (h : Fb 22 T T') : KM T T' := ⟨fun a _ => by rw [h.1], fun j _ => by rw [h.1], h.2 33 (by decide)⟩
/-- both sides spread what can be paid -/
theorem qp_pays {n : Nat} (hs : Rs n S T) (land : Int32) : ∃ S' T' l, f_X5_spread land S = some S' ∧ f_X12_pays land T = some T' ∧ l = cl (cnS S 6 land) (wnS S) n ∧ Wd (rch l) (S'.2 13) ∧ Wd (rch l) (T'.2 22) ∧ Fb 13 S S' ∧ Fb 22 T T' ∧ lsum l ≤ 1920 := by
  obtain ⟨S', e1, e2, e3⟩ := q_sprspread hs.1 hs.2.1 (Pn_of hs land)
  obtain ⟨T', f1, f2, f3⟩ := p_pays hs.1 hs.2.2.1 (Pm_of hs land)
  refine ⟨S', T', _, e1, f1, rfl, e2, f2, e3, f3, ?_⟩
  have := cl_sum_le (c := cnS S 6 land) (w := wnS S) (n := n) (fun k hk => ⟨(Pn_of hs land k hk).2.1, (Pn_of hs land k hk).2.2.2.2⟩) n (Nat.le_refl n)
  have := hs.1
  omega
