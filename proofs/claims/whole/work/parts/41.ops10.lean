section OPS10
variable {Rx : Nat → St → St → Prop} {S T : St}
theorem lp_fillL {g : (Int32 × St) → Option ((Int32 × St) ⊕ St)} {k b e : Nat} (v : Int64) (S : St) (he : e < 1000) (hs : ∀ (i : Nat) (S' : St), i < e → g (nI i, S') = some (.inl (nI (i + 1), u2 S' k (b + i) v))) (hx : ∀ S' : St, g (nI e, S') = some (.inr S')) : ∃ S', jx_w g FU (nI 0, S) = some S' ∧ S'.1 = S.1 ∧ (∀ a, a ≠ k → S'.2 a = S.2 a) ∧ ∀ y, S'.2 k y = if b ≤ y ∧ y < b + e then v else S.2 k y := by
  obtain ⟨r, h1, h2⟩ := wl_for g (fun i S => (nI i, S)) (fun j S' => S'.1 = S.1 ∧ (∀ a, a ≠ k → S'.2 a = S.2 a) ∧ ∀ y, S'.2 k y = if b ≤ y ∧ y < b + j then v else S.2 k y) e (fun S' => S'.1 = S.1 ∧ (∀ a, a ≠ k → S'.2 a = S.2 a) ∧ ∀ y, S'.2 k y = if b ≤ y ∧ y < b + e then v else S.2 k y)
    (fun i S' hi hI => ⟨_, hs i S' hi, hI.1, fun a ha => by
        rw [show (u2 S' k (b + i) v).2 a = S'.2 a from if_neg ha]; exact hI.2.1 a ha, fun y => by
      rw [rd_3, if_pos rfl, hI.2.2 y]
      by_cases hj : y = b + i
      · rw [if_pos hj, if_pos (by omega)]
      · rw [if_neg hj]
        by_cases hl : b ≤ y ∧ y < b + i
        · rw [if_pos hl, if_pos (by omega)]
        · rw [if_neg hl, if_neg (by omega)]⟩)
    (fun S' hI => ⟨_, hx S', hI⟩) FU 0 S (by omega) ⟨rfl, fun _ _ => rfl, fun y => by rw [if_neg (by omega)]⟩ (FU_lt (by omega) 0)
  exact ⟨r, h1, h2⟩
theorem q_bd {i : Nat} {x0 x1 : Int32} {a b : Nat} (e0 : x0 = nI a) (e1 : x1 = nI b) (ha : a ≤ i) (hb : i ≤ b) (hbb : b < 2 ^ 31) (S : St) : f_X11_bounded (nI i) x0 x1 S = some (nI i, S) := by
  subst e0; subst e1
  unfold f_X11_bounded
  congr 2
  by_cases h : i = b
  · subst h
    rw [if_neg (nI_nlt (Nat.le_refl i) (by omega))]
    by_cases h2 : a = i
    · subst h2; rw [if_neg (nI_nlt (Nat.le_refl a) (by omega))]
    · rw [if_pos (nI_lt (by omega) (by omega))]
  · rw [if_pos (nI_lt (by omega) (by omega))]
    by_cases h2 : a = i
    · subst h2; rw [if_neg (nI_nlt (Nat.le_refl a) (by omega))]
    · rw [if_pos (nI_lt (by omega) (by omega))]
theorem op_row (hF : Fx Rx) (a b v : Int32) (h : RR Rx S T) : OK Rx (f_X11_row a b v S) (f_X12_row a b v T) := by
  obtain ⟨n, m, t, c, e, d, hs, ht, hm, hp, hch, hi, hd, hh, hx0, hx1⟩ := id h
  unfold f_X11_row f_X12_row
  simp only [q_isShelf, p_isShelf, q_within, p_in, zb_2, ite01]
  refine ok_if Iff.rfl (fun _ => ok_r _ h) (fun h1 => ok_if Iff.rfl (fun _ => ok_r _ h) (fun h2 => ok_if Iff.rfl (fun h3 => ok_if Iff.rfl (fun h4 => ?_) (fun _ => ok_r _ h)) (fun _ => ok_r _ h)))
  obtain ⟨j, hj, -, rfl⟩ := ix_lit (k := 5) (by omega) rfl (nn h1)
  obtain ⟨so, hso, -, rfl⟩ := ix_lit (k := 4) (by omega) rfl (nn h2)
  obtain ⟨z, hz, -, rfl⟩ := ix_lit (k := 60) (by omega) rfl ⟨h4, h3⟩
  unfold f_X7_holdRow f_J7_fill_d0a16s f_J7_fill_d0a16s_22 f_X12_row_74
  simp (disch := omega) only [↓zb_l, zb_an, cl_n, q_bd (x0 := 0) (x1 := 60) (a := 0) (b := 60) rfl rfl (show 0 ≤ z by omega) (show z ≤ 60 by omega), zb_2]
  obtain ⟨S1, hS1⟩ : ∃ q, q = u1 (u1 (u1 S (48 + 2 * j) 1 2) (48 + 2 * j) 3 (nI so)) (48 + 2 * j) 4 (nI z) := ⟨_, rfl⟩
  obtain ⟨T1, hT1⟩ : ∃ q, q = u1 (u1 T 31 j (nI so)) 32 j (nI z) := ⟨_, rfl⟩
  rw [← hS1, ← hT1]
  obtain ⟨S2, a1, a2, a3, a4⟩ := lp_fillL (g := g_J7_fill_d0a16s_6 j 0 60) (k := 48 + 2 * j + 1) (b := 0) (e := 60) 0 S1 (by omega) (fun i S' hi => by
    unfold g_J7_fill_d0a16s_6 b_J7_fill_d0a16s_6
    rw [if_neg (by exact nI_ge (b := 60) hi (by omega)), zb_an _ hi (by omega), zb_l, zb_l, cl_n (by omega), nI_1, Nat.zero_add]) (fun S' => by
    unfold g_J7_fill_d0a16s_6 b_J7_fill_d0a16s_6
    rw [if_pos (by show (60 : Int32) ≤ nI 60; decide)])
  obtain ⟨T2, b1, b2, b3, b4⟩ := lp_fillL (g := g_X12_row_48 (nI j)) (k := 33) (b := 60 * j) (e := 60) 0 T1 (by omega) (fun i S' hi => by
    unfold g_X12_row_48 b_X12_row_48
    rw [if_neg (by exact nI_ge (b := 60) hi (by omega)), i60, zb_an _ (by omega) (by omega), zb_l, zb_l, cl_n (by omega), nI_1]) (fun S' => by
    unfold g_X12_row_48 b_X12_row_48
    rw [if_pos (by show (60 : Int32) ≤ nI 60; decide)])
  rw [show ((0 : Int32), S1) = (nI 0, S1) from rfl, show ((0 : Int32), T1) = (nI 0, T1) from rfl, a1, b1]
  simp only [zb_s]
  refine ok_mk rfl (rest_shelf hF hs ht hm hp hch hi hd (Rh_set (h := j) hh (fun x hx hxj => ⟨?_, ?_, ?_, ?_, fun y hy => ?_⟩) (Or.inr (Or.inr ⟨?_, so, z, hso, by omega, ?_, ?_, ?_, ?_, fun y hy => ?_⟩))) hx0 hx1 (fun a ha => ?_) (fun a ha => ?_))
  · rw [a2, hS1]; simp (disch := omega) only [ne_u1]
  · rw [a3 _ (by omega), hS1]; rfl
  · rw [b2, hT1]; simp only [rd_1, reduceIte, Nat.reduceEqDiff, hxj]
  · rw [b2, hT1]; simp only [rd_1, reduceIte, Nat.reduceEqDiff, hxj]
  · rw [b4, if_neg (by omega), hT1]; rfl
  · rw [a2, hS1]; simp only [rd_1, reduceIte, Nat.reduceEqDiff]
  · rw [b2, hT1]; simp only [rd_1, reduceIte, Nat.reduceEqDiff]
  · rw [a2, hS1]; simp only [rd_1, reduceIte, Nat.reduceEqDiff]
  · rw [b2, hT1]; simp only [rd_1, reduceIte, Nat.reduceEqDiff]
  · rw [a2, hS1]; simp only [rd_1, reduceIte, Nat.reduceEqDiff]
  · rw [b4, if_pos (by omega), show 49 + 2 * j = 48 + 2 * j + 1 by omega, a4, if_pos (by omega)]
  · rw [a2, hS1]; simp (disch := omega) only [ne_u1]
  · simp only [List.mem_cons, List.not_mem_nil, or_false, not_or] at ha
    rw [b2, hT1, ne_u1 _ _ _ ha.2, ne_u1 _ _ _ ha.1]
end OPS10
