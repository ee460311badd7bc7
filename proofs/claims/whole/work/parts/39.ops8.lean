section OPS8
variable {Rx : Nat → St → St → Prop} {S T : St}
theorem q_fits9 (a b c : Int32) (S : St) : f_X9_fits a b c S = some (if (0 ≤ a ∧ a ≤ 3) ∧ (1 ≤ b ∧ b ≤ 200) ∧ (0 ≤ c ∧ c ≤ 99) then 1 else 0, S) := by
  unfold f_X9_fits
  simp only [q_isLand, q_within, zb_2, ite01]
  grind
/-- what stays where shelves alone change -/
theorem rest_shelf {n m t c e d : Nat} {S T S' T' : St} (hF : Fx Rx) (hs : Rs n S T) (ht : Rt m S T) (hm : Rm S T) (hp : Rp t S T) (hch : Rc c e n m S T) (hi : Ri n m S T) (hd : Rd d S T) (hh : Rh d S' T') (hx0 : Rx 0 S T) (hx1 : Rx 1 S T) (h1 : ∀ a, a < 48 → S'.1 a = S.1 a) (h2 : ∀ a, a ∉ [31, 32] → T'.1 a = T.1 a) : RR Rx S' T' := by
  refine ⟨n, m, t, c, e, d, ?_, ?_, ?_, ?_, ?_, ?_, ?_, hh, ?_, ?_⟩
  · unfold Rs
    rw [h2 0 (by decide), h2 1 (by decide), h2 2 (by decide), h2 3 (by decide), h2 4 (by decide), h2 5 (by decide), h1 1 (by omega), h1 2 (by omega), h1 3 (by omega), h1 4 (by omega), h1 5 (by omega), h1 6 (by omega)]
    exact hs
  · unfold Rt
    rw [h2 0 (by decide), h2 6 (by decide), h2 7 (by decide), h2 8 (by decide), h2 9 (by decide), h1 7 (by omega), h1 8 (by omega), h1 9 (by omega), h1 10 (by omega), h1 11 (by omega)]
    exact ht
  · unfold Rm
    rw [h2 0 (by decide), h2 10 (by decide), h1 38 (by omega), h1 39 (by omega), h1 21 (by omega)]
    exact hm
  · unfold Rp
    rw [h2 0 (by decide), h2 11 (by decide), h1 18 (by omega), h1 19 (by omega)]
    exact hp
  · unfold Rc
    rw [h2 0 (by decide), h2 12 (by decide), h1 25 (by omega), h1 26 (by omega), h1 27 (by omega), h1 28 (by omega), h1 29 (by omega)]
    exact hch
  · unfold Ri
    rw [h2 0 (by decide), h2 26 (by decide), h2 27 (by decide), h2 28 (by decide), h1 30 (by omega), h1 31 (by omega), h1 32 (by omega), h1 33 (by omega)]
    exact hi
  · unfold Rd
    rw [h2 0 (by decide), h2 29 (by decide), h2 30 (by decide), h1 34 (by omega), h1 35 (by omega), h1 36 (by omega)]
    exact hd
  · exact fx_keep hF hx0 (fun k g1 g2 _ => h1 k g2) (fun k g1 g2 => h2 k (by simp; omega))
  · exact fx_keep hF hx1 (fun k g1 g2 _ => h1 k g2) (fun k g1 g2 => h2 k (by simp; omega))
theorem Rh_set {d h : Nat} {S T S' T' : St} (hh : Rh d S T) (hsame : ∀ x, x < 6 → x ≠ h → S'.1 (48 + 2 * x) = S.1 (48 + 2 * x) ∧ S'.2 (49 + 2 * x) = S.2 (49 + 2 * x) ∧ T'.1 31 x = T.1 31 x ∧ T'.1 32 x = T.1 32 x ∧ ∀ i, i < 60 → T'.2 33 (60 * x + i) = T.2 33 (60 * x + i)) (hnew : (S'.1 (48 + 2 * h) 1 = 0 ∧ T'.1 31 h = -1) ∨ (S'.1 (48 + 2 * h) 1 = 1 ∧ T'.1 31 h = 5 ∧ ∃ j, j < d ∧ T'.1 32 h = nI j ∧ S'.1 (48 + 2 * h) 2 = nI j) ∨ (S'.1 (48 + 2 * h) 1 = 2 ∧ ∃ so n, so < 5 ∧ n ≤ 60 ∧ T'.1 31 h = nI so ∧ S'.1 (48 + 2 * h) 3 = nI so ∧ T'.1 32 h = nI n ∧ S'.1 (48 + 2 * h) 4 = nI n ∧ ∀ i, i < 60 → T'.2 33 (60 * h + i) = S'.2 (49 + 2 * h) i)) : Rh d S' T' := by
  intro x hx
  by_cases hxh : x = h
  · subst hxh; exact hnew
  · obtain ⟨a1, a2, a3, a4, a5⟩ := hsame x hx hxh
    have q := hh x hx
    rw [a1, a2, a3, a4]
    rcases q with q | q | ⟨q1, so, n, q2, q3, q4, q5, q6, q7, q8⟩
    · exact Or.inl q
    · exact Or.inr (Or.inl q)
    · exact Or.inr (Or.inr ⟨q1, so, n, q2, q3, q4, q5, q6, q7, fun i hi => by rw [a5 i hi]; exact q8 i hi⟩)
theorem op_keep (hF : Fx Rx) (a b : Int32) (h : RR Rx S T) : OK Rx (f_X11_keep a b S) (f_X12_keep a b T) := by
  obtain ⟨n, m, t, c, e, d, hs, ht, hm, hp, hch, hi, hd, hh, hx0, hx1⟩ := id h
  obtain ⟨hdn, hS, hT, hv, hr⟩ := id hd
  unfold f_X11_keep f_X12_keep
  simp only [q_isShelf, p_isShelf, zb_2, ite01, q_knows2 hS (by omega), p_in, hT]
  refine ok_if Iff.rfl (fun _ => ok_r _ h) (fun h1 => ?_)
  obtain ⟨j, hj, -, rfl⟩ := ix_lit (k := 5) (by omega) rfl (nn h1)
  have m1 : (-1 : Int32).toInt = -1 := rfl
  have h0 : (0 : Int32).toInt = 0 := rfl
  have sd : (nI d - 1).toInt = (d : Int) - 1 := sub1_toInt (by omega)
  by_cases hb : b = -1
  · subst hb
    rw [if_pos rfl, if_neg (show ¬ ¬ ((-1 : Int32) ≤ -1 ∧ (-1 : Int32) ≤ nI d - 1) by rw [i32_le, i32_le, sd, m1]; omega), if_pos rfl]
    unfold f_X11_keep_25 f_X12_keep_38 f_X7_holdDeed f_X7_holdDeed_10
    simp (disch := omega) only [↓zb_l, ↓zb_s, zb_an, cl_n, show ¬ ((0 : Int32) ≤ -1) by decide, reduceIte]
    refine ok_mk rfl (rest_shelf hF hs ht hm hp hch hi hd (Rh_set (h := j) hh (fun x hx hxj => ⟨?_, rfl, ?_, ?_, fun _ _ => rfl⟩) (Or.inl ⟨?_, ?_⟩)) hx0 hx1 (fun a ha => ?_) (fun a ha => ?_))
    · simp (disch := omega) only [ne_u1]
    · simp only [rd_1, reduceIte, Nat.reduceEqDiff, hxj]
    · simp only [rd_1, reduceIte, Nat.reduceEqDiff, hxj]
    · simp only [rd_1, reduceIte, Nat.reduceEqDiff]
    · simp only [rd_1, reduceIte, Nat.reduceEqDiff]
    · simp (disch := omega) only [ne_u1]
    · simp only [List.mem_cons, List.not_mem_nil, or_false, not_or] at ha
      rw [ne_u1 _ _ _ ha.2, ne_u1 _ _ _ ha.1]
  · rw [if_neg hb]
    have key : (0 ≤ b.toInt ∧ b.toInt < (d : Int)) ↔ ((-1 : Int32) ≤ b ∧ b ≤ nI d - 1) := by
      rw [i32_le, i32_le, sd, m1]
      have : b.toInt ≠ -1 := fun q => hb (Int32.toInt_inj.mp (by rw [q]; rfl))
      omega
    by_cases hk : 0 ≤ b.toInt ∧ b.toInt < (d : Int)
    · rw [if_neg (fun q => q hk), if_neg (fun q => q (key.mp hk)), if_neg hb]
      obtain ⟨i, hid, rfl⟩ := ix_of hk (by omega)
      unfold f_X11_keep_25 f_X12_keep_38 f_X7_holdDeed f_X7_holdDeed_10
      have hp0 : 0 ≤ nI i := nI_pos' (by omega)
      simp (disch := omega) only [↓zb_l, ↓zb_s, zb_an, cl_n, hp0, reduceIte]
      refine ok_mk rfl (rest_shelf hF hs ht hm hp hch hi hd (Rh_set (h := j) hh (fun x hx hxj => ⟨?_, rfl, ?_, ?_, fun _ _ => rfl⟩) (Or.inr (Or.inl ⟨?_, ?_, i, hid, ?_, ?_⟩))) hx0 hx1 (fun a ha => ?_) (fun a ha => ?_))
      · simp (disch := omega) only [ne_u1]
      · simp only [rd_1, reduceIte, Nat.reduceEqDiff, hxj]
      · simp only [rd_1, reduceIte, Nat.reduceEqDiff, hxj]
      · simp only [rd_1, reduceIte, Nat.reduceEqDiff]
      · simp only [rd_1, reduceIte, Nat.reduceEqDiff]
      · simp only [rd_1, reduceIte, Nat.reduceEqDiff]
      · simp only [rd_1, reduceIte, Nat.reduceEqDiff]
      · simp (disch := omega) only [ne_u1]
      · simp only [List.mem_cons, List.not_mem_nil, or_false, not_or] at ha
        rw [ne_u1 _ _ _ ha.2, ne_u1 _ _ _ ha.1]
    · rw [if_pos hk, if_pos (fun q => hk (key.mpr q))]
      exact ok_r _ h
end OPS8
