section OPS15
variable {Rx : Nat → St → St → Prop} {S T : St}
/-- longs are copied from a row to another, place by place -/
theorem lp_cpL {g : (Int32 × St) → Option ((Int32 × St) ⊕ St)} {k kf b bf e : Nat} (S : St) (he : e < 1000) (hne : kf ≠ k) (hs : ∀ (i : Nat) (S' : St), i < e → g (nI i, S') = some (.inl (nI (i + 1), u2 S' k (b + i) (S'.2 kf (bf + i))))) (hx : ∀ S' : St, g (nI e, S') = some (.inr S')) : ∃ S', jx_w g FU (nI 0, S) = some S' ∧ S'.1 = S.1 ∧ (∀ a, a ≠ k → S'.2 a = S.2 a) ∧ ∀ y, S'.2 k y = if b ≤ y ∧ y < b + e then S.2 kf (bf + (y - b)) else S.2 k y := by
  obtain ⟨r, h1, h2⟩ := wl_for g (fun i S => (nI i, S)) (fun j S' => S'.1 = S.1 ∧ (∀ a, a ≠ k → S'.2 a = S.2 a) ∧ ∀ y, S'.2 k y = if b ≤ y ∧ y < b + j then S.2 kf (bf + (y - b)) else S.2 k y) e (fun S' => S'.1 = S.1 ∧ (∀ a, a ≠ k → S'.2 a = S.2 a) ∧ ∀ y, S'.2 k y = if b ≤ y ∧ y < b + e then S.2 kf (bf + (y - b)) else S.2 k y)
    (fun i S' hi hI => ⟨_, hs i S' hi, hI.1, fun a ha => by
        rw [show (u2 S' k (b + i) (S'.2 kf (bf + i))).2 a = S'.2 a from if_neg ha]; exact hI.2.1 a ha, fun y => by
      rw [rd_3, if_pos rfl, hI.2.2 y, hI.2.1 kf hne]
      by_cases hj : y = b + i
      · subst hj; rw [if_pos rfl, if_pos (by omega), show b + i - b = i by omega]
      · rw [if_neg hj]
        by_cases hl : b ≤ y ∧ y < b + i
        · rw [if_pos hl, if_pos (by omega)]
        · rw [if_neg hl, if_neg (by omega)]⟩)
    (fun S' hI => ⟨_, hx S', hI⟩) FU 0 S (by omega) ⟨rfl, fun _ _ => rfl, fun y => by rw [if_neg (by omega)]⟩ (FU_lt (by omega) 0)
  exact ⟨r, h1, h2⟩
theorem i60b {x y i : Nat} : (((60 : Int32) * nI x) + nI y) + nI i = nI (60 * x + y + i) := by
  rw [show (60 : Int32) * nI x = nI (60 * x) from pk_mul 60 x, nI_add, nI_add]
/-- the reference's shift: out into the row between, then on -/
theorem p_shiftrun (x y x2 y2 z : Nat) (hx : x < 6) (hx2 : x2 < 6) (hy : y + z ≤ 60) (hy2 : y2 + z ≤ 60) (T : St) : ∃ T', (jx_b (jx_w (g_X12_shift_135 (nI x) (nI y) (nI x2) (nI y2) (nI z)) FU ((0 : Int32), T)) (fun w => f_X12_shift_169 (nI x2) (nI y2) (nI z) w)) = some (nI z, T') ∧ T'.1 = T.1 ∧ (∀ i, T'.2 33 i = if 60 * x2 + y2 ≤ i ∧ i < 60 * x2 + y2 + z then T.2 33 (60 * x + y + (i - (60 * x2 + y2))) else T.2 33 i) ∧ ∀ a, a ≠ 33 → a ≠ 34 → T'.2 a = T.2 a := by
  obtain ⟨T1, a1, a2, a3, a4⟩ := lp_cpL (g := g_X12_shift_135 (nI x) (nI y) (nI x2) (nI y2) (nI z)) (k := 34) (kf := 33) (b := 0) (bf := 60 * x + y) (e := z) T (by omega) (by decide) (fun i S' hi => by
    unfold g_X12_shift_135 b_X12_shift_135
    have hle : ¬ nI z ≤ nI i := by rw [i32_le, nI_toInt (by omega), nI_toInt (by omega)]; omega
    rw [if_neg hle, i60b, zb_an _ (by omega) (by omega), zb_an _ (by omega) (by omega), zb_l, zb_l, cl_n (by omega), cl_n (by omega), nI_1, Nat.zero_add]) (fun S' => by
    unfold g_X12_shift_135 b_X12_shift_135
    rw [if_pos (nI_le (Nat.le_refl z) (by omega))])
  obtain ⟨T2, b1, b2, b3, b4⟩ := lp_cpL (g := g_X12_shift_172 (nI x2) (nI y2) (nI z)) (k := 33) (kf := 34) (b := 60 * x2 + y2) (bf := 0) (e := z) T1 (by omega) (by decide) (fun i S' hi => by
    unfold g_X12_shift_172 b_X12_shift_172
    have hle : ¬ nI z ≤ nI i := by rw [i32_le, nI_toInt (by omega), nI_toInt (by omega)]; omega
    rw [if_neg hle, zb_an _ (by omega) (by omega), i60b, zb_an _ (by omega) (by omega), zb_l, zb_l, cl_n (by omega), cl_n (by omega), nI_1, Nat.zero_add]) (fun S' => by
    unfold g_X12_shift_172 b_X12_shift_172
    rw [if_pos (nI_le (Nat.le_refl z) (by omega))])
  refine ⟨T2, ?_, by rw [b2, a2], fun i => ?_, fun a h1 h2 => by rw [b3 a h1, a3 a h2]⟩
  · rw [show ((0 : Int32), T) = (nI 0, T) from rfl, a1]
    show f_X12_shift_169 (nI x2) (nI y2) (nI z) T1 = _
    unfold f_X12_shift_169 f_X12_shift_207
    rw [show ((0 : Int32), T1) = (nI 0, T1) from rfl, b1]
    rfl
  · rw [b4 i]
    by_cases q : 60 * x2 + y2 ≤ i ∧ i < 60 * x2 + y2 + z
    · rw [if_pos q, if_pos q, a4, if_pos (by omega), Nat.zero_add, Nat.sub_zero]
    · rw [if_neg q, if_neg q, a3 33 (by decide)]
end OPS15
