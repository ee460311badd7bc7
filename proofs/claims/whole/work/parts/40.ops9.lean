section OPS9
variable {Rx : Nat → St → St → Prop} {S T : St}
def OKL (Rx : Nat → St → St → Prop) (f g : Option (Int64 × St)) : Prop := ∃ r S' T', f = some (r, S') ∧ g = some (r, T') ∧ RR Rx S' T'
theorem okl_r (r : Int64) (h : RR Rx S T) : OKL Rx (some (r, S)) (some (r, T)) := ⟨r, S, T, rfl, rfl, h⟩
theorem okl_e {r r' : Int64} (e : r' = r) (h : RR Rx S T) : OKL Rx (some (r, S)) (some (r', T)) := by subst e; exact okl_r _ h
theorem q_spans {t n : Nat} (hz : S.1 (48 + 2 * t) 4 = nI n) (hn : n ≤ 60) (x y : Int32) : f_X7_spans t x y S = some (if 0 ≤ x.toInt ∧ 0 ≤ y.toInt ∧ x.toInt + y.toInt ≤ (n : Int) then 1 else 0, S) := by
  unfold f_X7_spans
  rw [hz]
  have h0 : (0 : Int32).toInt = 0 := rfl
  by_cases h1 : x < 0
  · rw [if_pos h1, if_neg (by rw [i32_lt] at h1; omega)]
  · rw [if_neg h1]
    by_cases h2 : y < 0
    · rw [if_pos h2, if_neg (by rw [i32_lt] at h2; omega)]
    · rw [if_neg h2]
      by_cases h3 : nI n < x
      · rw [if_pos h3, if_neg (by rw [i32_lt, nI_toInt (by omega)] at h3; rw [i32_lt] at h2; omega)]
      · rw [if_neg h3]
        rw [i32_lt, nI_toInt (by omega)] at h3
        rw [i32_lt] at h1 h2
        obtain ⟨j, hj, rfl⟩ := ix_of (x := x) (n := n + 1) (by omega) (by omega)
        rw [pk_sub (by omega), nI_toInt (n := j) (by omega)]
        rw [nI_toInt (by omega)] at h3
        have k4 : nI (n - j) < y ↔ ((n - j : Nat) : Int) < y.toInt := by rw [i32_lt, nI_toInt (by omega)]
        by_cases h4 : nI (n - j) < y
        · have := k4.mp h4
          rw [if_pos h4, if_neg (by omega)]
        · have : ¬ ((n - j : Nat) : Int) < y.toInt := fun q => h4 (k4.mpr q)
          rw [if_neg h4, if_pos (by omega)]
def cutv (w : Int32) (v : Int64) : Int64 := if w = 0 then Int32.toInt64 (Int32.toInt8 (Int64.toInt32 v)).toInt32 else if w = 1 then Int32.toInt64 (Int32.toInt16 (Int64.toInt32 v)).toInt32 else if w = 2 then Int32.toInt64 (Int64.toInt32 v) else if w = 3 then v else if lg_cmp v 0 = 0 then 0 else 1
theorem p_cut (w : Int32) (v : Int64) (T : St) : f_X12_cut w v T = some (cutv w v, T) := by
  unfold f_X12_cut cutv
  by_cases h0 : w = 0
  · simp only [h0, reduceIte]
  · by_cases h1 : w = 1
    · simp (decide := true) only [h1, reduceIte]
    · by_cases h2 : w = 2
      · simp (decide := true) only [h2, reduceIte]
      · by_cases h3 : w = 3
        · simp (decide := true) only [h3, reduceIte]
        · simp only [h0, h1, h2, h3, reduceIte]
          by_cases h4 : lg_cmp v 0 = 0
          · simp only [h4, reduceIte]
          · simp only [h4, reduceIte]
theorem q_lowest (t : Nat) (v : Int64) (S : St) : f_X7_lowest t v S = some (cutv (S.1 (48 + 2 * t) 3) v, S) := p_cut (S.1 (48 + 2 * t) 3) v S
/-- a row on a shelf, or why there is none -/
theorem qp_at {d h : Nat} (hh : Rh d S T) (hx : h < 6) (i : Int32) : (∃ r, ¬ r = 0 ∧ f_X11_refusalAt (nI h) i S = some (r, S) ∧ f_X12_shelfWrong (nI h) T = some (r, T)) ∨ (f_X12_shelfWrong (nI h) T = some (0, T) ∧ ∃ so n, so < 5 ∧ n ≤ 60 ∧ T.1 31 h = nI so ∧ S.1 (48 + 2 * h) 1 = 2 ∧ S.1 (48 + 2 * h) 3 = nI so ∧ T.1 32 h = nI n ∧ S.1 (48 + 2 * h) 4 = nI n ∧ (∀ i, i < 60 → T.2 33 (60 * h + i) = S.2 (49 + 2 * h) i) ∧ f_X11_refusalAt (nI h) i S = some (if 0 ≤ i.toInt ∧ i.toInt < (n : Int) then 0 else -13, S)) := by
  have hin : (0 : Int32) ≤ nI h ∧ nI h ≤ 5 := ⟨nI_pos' (by omega), nI_le (b := 5) (by omega) (by omega)⟩
  unfold f_X11_refusalAt f_X12_shelfWrong
  simp (disch := omega) only [q_isShelf, p_isShelf, zb_2, hin, and_self, reduceIte, one_ne, zb_an, ↓zb_l, cl_n]
  rcases hh h hx with ⟨q1, q2⟩ | ⟨q1, q2, q3⟩ | ⟨q1, so, n, q2, q3, q4, q5, q6, q7, q8⟩
  · refine Or.inl ⟨-11, by decide, ?_, ?_⟩
    · rw [if_pos q1]
    · rw [if_pos q2]
  · refine Or.inl ⟨-12, by decide, ?_, ?_⟩
    · rw [q1, if_neg (by decide), if_neg (by decide)]
    · rw [q2, if_neg (by decide), if_pos rfl]
  · refine Or.inr ⟨?_, so, n, q2, q3, q4, q1, q5, q6, q7, q8, ?_⟩
    · rw [q4, if_neg (fun q => ?_), if_neg (fun q => ?_)]
      · have := (nI_eq (b := 5) (by omega) (by omega)).mp q
        omega
      · exact absurd (q ▸ nI_pos' (n := so) (by omega)) (by decide)
    · rw [q1, if_neg (by decide), if_pos rfl, q_spans q7 q3, zb_2]
      have e1 : (1 : Int32).toInt = 1 := rfl
      by_cases h4 : 0 ≤ i.toInt ∧ i.toInt < (n : Int)
      · have h5 : 0 ≤ i.toInt ∧ 0 ≤ (1 : Int32).toInt ∧ i.toInt + (1 : Int32).toInt ≤ (n : Int) := by rw [e1]; omega
        simp only [h5, h4, and_self, reduceIte, one_ne]
      · have h5 : ¬ (0 ≤ i.toInt ∧ 0 ≤ (1 : Int32).toInt ∧ i.toInt + (1 : Int32).toInt ≤ (n : Int)) := by rw [e1]; omega
        simp only [h5, h4, reduceIte]
theorem i60 (h i : Nat) : (60 : Int32) * nI h + nI i = nI (60 * h + i) := by rw [show (60 : Int32) = nI 60 from rfl, pk_mul, nI_add]
theorem p_in0 {n : Nat} (hn : n ≤ 60) (i : Int32) (T : St) : f_X12_in i 0 (nI n - 1) T = some (if 0 ≤ i.toInt ∧ i.toInt < (n : Int) then 1 else 0, T) := by
  rw [p_in]
  have h0 : (0 : Int32).toInt = 0 := rfl
  congr 3
  simp only [i32_le, sub1_toInt (show n < 2 ^ 30 by omega), h0, eq_iff_iff]
  omega
theorem op_element (a b : Int32) (h : RR Rx S T) : OKL Rx (f_X11_element a b S) (f_X12_element a b T) := by
  obtain ⟨n, m, t, c, e, d, hs, ht, hm, hp, hch, hi, hd, hh, hx0, hx1⟩ := id h
  unfold f_X11_element f_X12_element f_X12_element_38
  by_cases ha : (0 : Int32) ≤ a ∧ a ≤ 5
  · obtain ⟨j, hj, -, rfl⟩ := ix_lit (k := 5) (by omega) rfl ha
    rcases qp_at hh (show j < 6 by omega) b with ⟨r, r0, e1, e2⟩ | ⟨e2, so, n2, q2, q3, q4, q1, q5, q6, q7, q8, e1⟩
    · rw [e1, e2, zb_2, zb_2, if_neg r0, if_neg r0]
      exact okl_r _ h
    · rw [e1, e2, zb_2, zb_2, if_pos rfl]
      by_cases hb : 0 ≤ b.toInt ∧ b.toInt < (n2 : Int)
      · obtain ⟨i, hi2, rfl⟩ := ix_of hb (by omega)
        rw [if_pos hb, if_pos rfl]
        simp (disch := omega) only [↓zb_l, zb_an, cl_n, q6, p_in0 q3, zb_2, hb, reduceIte, one_ne, i60, and_self]
        exact okl_e (by rw [q8 i (by omega)]; rw [show 49 + 2 * j = 48 + 2 * j + 1 by omega]) h
      · rw [if_neg hb, if_neg (by decide)]
        simp (disch := omega) only [zb_an, cl_n, q6, p_in0 q3, zb_2]
        rw [if_neg hb, if_pos rfl]
        exact okl_r _ h
  · have f1 : f_X11_refusalAt a b S = some (-1, S) := by unfold f_X11_refusalAt; rw [q_isShelf, zb_2, if_neg ha, if_pos rfl]
    have f2 : f_X12_shelfWrong a T = some (-1, T) := by unfold f_X12_shelfWrong; rw [p_isShelf, zb_2, if_neg ha, if_pos rfl]
    rw [f1, f2, zb_2, zb_2, if_neg (by decide), if_neg (by decide)]
    exact okl_r _ h
theorem op_put (hF : Fx Rx) (a b : Int32) (v : Int64) (h : RR Rx S T) : OK Rx (f_X11_put a b v S) (f_X12_put a b v T) := by
  obtain ⟨n, m, t, c, e, d, hs, ht, hm, hp, hch, hi, hd, hh, hx0, hx1⟩ := id h
  unfold f_X11_put f_X12_put
  by_cases ha : (0 : Int32) ≤ a ∧ a ≤ 5
  · obtain ⟨j, hj, -, rfl⟩ := ix_lit (k := 5) (by omega) rfl ha
    rcases qp_at hh (show j < 6 by omega) b with ⟨r, r0, e1, e2⟩ | ⟨e2, so, n2, q2, q3, q4, q1, q5, q6, q7, q8, e1⟩
    · rw [e1, e2, zb_2, zb_2, if_neg r0, if_neg r0]
      exact ok_r _ h
    · rw [e1, e2, zb_2, zb_2, if_pos rfl]
      by_cases hb : 0 ≤ b.toInt ∧ b.toInt < (n2 : Int)
      · obtain ⟨i, hi2, rfl⟩ := ix_of hb (by omega)
        rw [if_pos hb, if_pos rfl]
        unfold f_X7_store
        have hb1 : 0 ≤ (nI i).toInt ∧ 0 ≤ (1 : Int32).toInt ∧ (nI i).toInt + (1 : Int32).toInt ≤ (n2 : Int) := by have e1 : (1 : Int32).toInt = 1 := rfl; rw [e1]; omega
        simp (disch := omega) only [↓zb_l, ↓zb_s, zb_an, cl_n, q6, q_spans q7 q3, p_in0 q3, zb_2, hb, hb1, reduceIte, one_ne, i60, and_self, q_lowest, p_cut, q4, q5]
        refine ok_mk rfl (rest_shelf hF hs ht hm hp hch hi hd (Rh_set (h := j) hh (fun x hx hxj => ⟨rfl, ?_, rfl, rfl, fun y hy => ?_⟩) (Or.inr (Or.inr ⟨q1, so, n2, q2, q3, q4, q5, q6, q7, fun y hy => ?_⟩))) hx0 hx1 (fun a ha => rfl) (fun a ha => rfl))
        · funext y
          rw [rd_3, if_neg (by omega)]
        · rw [rd_3, if_pos rfl, if_neg (by omega)]
        · rw [rd_3 S, if_pos (show 49 + 2 * j = 48 + 2 * j + 1 by omega), rd_3 T, if_pos rfl]
          by_cases hyi : y = i
          · rw [if_pos (by omega), if_pos hyi]
          · rw [if_neg (by omega), if_neg hyi, q8 y hy]; rw [show 49 + 2 * j = 48 + 2 * j + 1 by omega]
      · rw [if_neg hb, if_neg (by decide)]
        simp (disch := omega) only [zb_an, cl_n, q6, p_in0 q3, zb_2]
        rw [if_neg hb, if_pos rfl]
        exact ok_r _ h
  · have f1 : f_X11_refusalAt a b S = some (-1, S) := by unfold f_X11_refusalAt; rw [q_isShelf, zb_2, if_neg ha, if_pos rfl]
    have f2 : f_X12_shelfWrong a T = some (-1, T) := by unfold f_X12_shelfWrong; rw [p_isShelf, zb_2, if_neg ha, if_pos rfl]
    rw [f1, f2, zb_2, zb_2, if_neg (by decide), if_neg (by decide)]
    exact ok_r _ h
end OPS9
