/-- a counted loop -/
theorem wl_for {σ ρ κ : Type} (g : σ → Option (σ ⊕ ρ)) (φ : Nat → κ → σ) (I : Nat → κ → Prop) (e : Nat) (Q : ρ → Prop) (hs : ∀ i k, i < e → I i k → ∃ k', g (φ i k) = some (.inl (φ (i + 1) k')) ∧ I (i + 1) k') (hx : ∀ k, I e k → ∃ r, g (φ e k) = some (.inr r) ∧ Q r) : ∀ (N a : Nat) (k : κ), a ≤ e → I a k → e < N + a → ∃ r, jx_w g N (φ a k) = some r ∧ Q r := by
  intro N
  induction N with
  | zero => intro a k h1 _ h2; exact absurd h2 (by omega)
  | succ N ih =>
    intro a k h1 hI hN
    by_cases h : a = e
    · subst h
      obtain ⟨r, e1, e2⟩ := hx k hI
      exact ⟨r, by unfold jx_w; rw [e1]; rfl, e2⟩
    · obtain ⟨k', e1, e2⟩ := hs a k (by omega) hI
      obtain ⟨r, e3, e4⟩ := ih (a + 1) k' (by omega) e2 (by omega)
      exact ⟨r, by unfold jx_w; rw [e1]; exact e3, e4⟩
theorem FU_lt {n : Nat} (h : n < 100000) (a : Nat) : n < FU + a := by unfold FU; omega
theorem zb_c {β : Type} {sp dp n : Int32} {n0 n1 : Nat} (k : Option β) (h : ¬ sp < 0 ∧ ¬ dp < 0 ∧ ¬ n < 0 ∧ sp.toNatClampNeg + n.toNatClampNeg ≤ n0 ∧ dp.toNatClampNeg + n.toNatClampNeg ≤ n1) : jx_c sp dp n n0 n1 k = k := if_pos h
/-- from S to S' only the cells ks are another -/
def Sm (ks : List Nat) (S S' : St) : Prop := (∀ a, a ∉ ks → S'.1 a = S.1 a) ∧ S'.2 = S.2
theorem Sm_rf {ks : List Nat} {S : St} : Sm ks S S := ⟨fun _ _ => rfl, rfl⟩
theorem Sm_u1 {ks : List Nat} {S S' : St} (h : Sm ks S S') {k i : Nat} {v : Int32} (hk : k ∈ ks) : Sm ks S (u1 S' k i v) := ⟨fun a ha => by rw [ne_u1 _ _ _ (fun q => ha (by rw [q]; exact hk))]; exact h.1 a ha, h.2⟩
theorem Sm_s1 {ks : List Nat} {S S' : St} (h : Sm ks S S') {k : Nat} {f : Nat → Int32} (hk : k ∈ ks) : Sm ks S (s1 S' k f) := ⟨fun a ha => by rw [show (s1 S' k f).1 a = S'.1 a from if_neg (fun q => ha (by rw [q]; exact hk))]; exact h.1 a ha, h.2⟩
theorem Sm_tr {ks : List Nat} {S S' S2 : St} (h : Sm ks S S') (h2 : Sm ks S' S2) : Sm ks S S2 := ⟨fun a ha => (h2.1 a ha).trans (h.1 a ha), h2.2.trans h.2⟩
theorem rd_s1 (S : St) (k : Nat) (f : Nat → Int32) (a : Nat) : (s1 S k f).1 a = if a = k then f else S.1 a := rfl
theorem cl_lit {x : Int32} {n : Nat} (h : x = nI n) (hn : n < 2 ^ 31) : Int32.toNatClampNeg x = n := by rw [h]; exact nI_clamp hn
section OPS3
variable {Rx : Nat → St → St → Prop} {S T : St}
theorem q_take (S : St) : ∃ S', f_X4_take S = some S' ∧ Sm [30, 31, 32, 33] S S' ∧ (∀ i, i < 8 → S'.1 31 i = S.1 6 i) ∧ (∀ i, i < 10 → S'.1 32 i = S.1 11 i) ∧ (∀ i, i < 3 → S'.1 33 i = S.1 39 i) ∧ S'.1 30 3 = S.1 1 5 ∧ S'.1 30 4 = S.1 7 4 ∧ S'.1 30 5 = 1 := by
  unfold f_X4_take
  rw [zb_c _ (by decide), zb_l, zb_c _ (by decide), zb_l, zb_c _ (by decide), zb_l, zb_l, zb_l, zb_l]
  refine ⟨_, rfl, ?_, fun i hi => ?_, fun i hi => ?_, fun i hi => ?_, ?_, ?_, ?_⟩
  · refine Sm_u1 (Sm_u1 (Sm_u1 (Sm_s1 (Sm_s1 (Sm_s1 Sm_rf ?_) ?_) ?_) ?_) ?_) ?_ <;> decide
  · simp only [rd_1, rd_s1, reduceIte, Nat.reduceEqDiff]
    rw [pk_cpy_in (by show 0 ≤ i; omega) (by show i < 0 + 8; omega)]
    show S.1 6 (0 + (i - 0)) = _
    rw [Nat.zero_add, Nat.sub_zero]
  · simp only [rd_1, rd_s1, reduceIte, Nat.reduceEqDiff]
    rw [pk_cpy_in (by show 0 ≤ i; omega) (by show i < 0 + 10; omega)]
    show S.1 11 (0 + (i - 0)) = _
    rw [Nat.zero_add, Nat.sub_zero]
  · simp only [rd_1, rd_s1, reduceIte, Nat.reduceEqDiff]
    rw [pk_cpy_in (by show 0 ≤ i; omega) (by show i < 0 + 3; omega)]
    show S.1 39 (0 + (i - 0)) = _
    rw [Nat.zero_add, Nat.sub_zero]
  · simp only [rd_1, rd_s1, reduceIte, Nat.reduceEqDiff]
  · simp only [rd_1, rd_s1, reduceIte, Nat.reduceEqDiff]
  · simp only [rd_1, rd_s1, reduceIte, Nat.reduceEqDiff]
/-- a row is copied place by place -/
theorem lp_copy {g : (Int32 × St) → Option ((Int32 × St) ⊕ St)} {k kf e : Nat} (he : e < 1000) (hne : kf ≠ k) (hs : ∀ (i : Nat) (S : St), i < e → g (nI i, S) = some (.inl (nI (i + 1), u1 S k i (S.1 kf i)))) (hx : ∀ S : St, g (nI e, S) = some (.inr S)) (S : St) : ∃ S', jx_w g FU (nI 0, S) = some S' ∧ Sm [k] S S' ∧ ∀ i, S'.1 k i = if i < e then S.1 kf i else S.1 k i := by
  obtain ⟨r, h1, h2⟩ := wl_for g (fun i S => (nI i, S)) (fun j S' => Sm [k] S S' ∧ ∀ i, S'.1 k i = if i < j then S.1 kf i else S.1 k i) e (fun S' => Sm [k] S S' ∧ ∀ i, S'.1 k i = if i < e then S.1 kf i else S.1 k i)
    (fun i S' hi hI => ⟨_, hs i S' hi, Sm_u1 hI.1 (List.mem_singleton.mpr rfl), fun j => by
      rw [rd_1, if_pos rfl, hI.1.1 kf (fun q => hne (List.mem_singleton.mp q)), hI.2 j]
      by_cases hj : j = i
      · subst hj; rw [if_pos rfl, if_pos (by omega)]
      · rw [if_neg hj]
        by_cases hl : j < i
        · rw [if_pos hl, if_pos (by omega)]
        · rw [if_neg hl, if_neg (by omega)]⟩)
    (fun S' hI => ⟨_, hx S', hI⟩) FU 0 S (by omega) ⟨Sm_rf, fun i => by rw [if_neg (by omega)]⟩ (FU_lt (by omega) 0)
  exact ⟨r, h1, h2⟩
theorem p_image (T : St) : ∃ T', f_X12_image T = some (T.1 0 0, T') ∧ (∀ a, a ∉ [0, 26, 27, 28] → T'.1 a = T.1 a) ∧ T'.2 = T.2 ∧ (∀ j, j < 42 ∨ 44 < j → T'.1 0 j = T.1 0 j) ∧ T'.1 0 42 = 1 ∧ T'.1 0 43 = T.1 0 0 ∧ T'.1 0 44 = T.1 0 6 ∧ (∀ i, i < 8 → T'.1 26 i = T.1 5 i) ∧ (∀ i, i < 10 → T'.1 27 i = T.1 9 i) ∧ T'.1 28 0 = T.1 0 14 ∧ T'.1 28 1 = T.1 0 15 ∧ T'.1 28 2 = T.1 0 16 := by
  unfold f_X12_image
  rw [zb_l, zb_l, zb_l]
  generalize hT1 : u1 (u1 (u1 T 0 42 1) 0 43 ((u1 T 0 42 1).1 0 0)) 0 44 ((u1 (u1 T 0 42 1) 0 43 ((u1 T 0 42 1).1 0 0)).1 0 6) = T1
  obtain ⟨T2, e2, m2, v2⟩ := lp_copy (g := g_X12_image_23) (k := 26) (kf := 5) (e := 8) (by omega) (by omega) (fun i S hi => by
    unfold g_X12_image_23 b_X12_image_23
    rw [if_neg (by exact nI_ge (b := 8) hi (by omega)), zb_an _ hi (by omega), zb_an _ hi (by omega), zb_l, zb_l, cl_n (by omega), nI_1]) (fun S => by
    unfold g_X12_image_23 b_X12_image_23
    rw [if_pos (by show (8 : Int32) ≤ nI 8; decide)]) T1
  obtain ⟨T3, e3, m3, v3⟩ := lp_copy (g := g_X12_image_49) (k := 27) (kf := 9) (e := 10) (by omega) (by omega) (fun i S hi => by
    unfold g_X12_image_49 b_X12_image_49
    rw [if_neg (by exact nI_ge (b := 10) hi (by omega)), zb_an _ hi (by omega), zb_an _ hi (by omega), zb_l, zb_l, cl_n (by omega), nI_1]) (fun S => by
    unfold g_X12_image_49 b_X12_image_49
    rw [if_pos (by show (10 : Int32) ≤ nI 10; decide)]) T2
  rw [show ((0 : Int32), T1) = (nI 0, T1) from rfl, e2, zb_s]
  unfold f_X12_image_47
  rw [show ((0 : Int32), T2) = (nI 0, T2) from rfl, e3, zb_s]
  unfold f_X12_image_73
  rw [zb_a _ (by decide), zb_l, zb_a _ (by decide), zb_l, zb_a _ (by decide), zb_l]
  have hx : ∀ a, a ∉ [26, 27] → T3.1 a = T1.1 a := fun a ha => (m3.1 a (by simp at ha ⊢; omega)).trans (m2.1 a (by simp at ha ⊢; omega))
  have h1 : ∀ a, a ≠ 0 → T1.1 a = T.1 a := fun a ha => by rw [← hT1]; simp (disch := omega) only [ne_u1]
  have h0 : ∀ j, j < 42 ∨ 44 < j → T1.1 0 j = T.1 0 j := fun j hj => by rw [← hT1]; simp only [rd_1, reduceIte, Nat.reduceEqDiff]; rw [if_neg (by omega), if_neg (by omega), if_neg (by omega)]
  have c0 : Int32.toNatClampNeg (0 : Int32) = 0 := rfl
  have c1 : Int32.toNatClampNeg (1 : Int32) = 1 := rfl
  have c2 : Int32.toNatClampNeg (2 : Int32) = 2 := rfl
  have h3 : T3.1 0 = T1.1 0 := hx 0 (by decide)
  refine ⟨_, by simp only [rd_1, reduceIte, Nat.reduceEqDiff, h3, h0 0 (by omega)]; rfl, fun a ha => ?_, ?_, fun j hj => ?_, ?_, ?_, ?_, fun i hi => ?_, fun i hi => ?_, ?_, ?_, ?_⟩
  · simp only [List.mem_cons, List.not_mem_nil, or_false, not_or] at ha
    rw [ne_u1 _ _ _ ha.2.2.2, ne_u1 _ _ _ ha.2.2.2, ne_u1 _ _ _ ha.2.2.2, hx a (by simp; omega), h1 a ha.1]
  · show T3.2 = T.2
    rw [m3.2, m2.2, ← hT1]; rfl
  · simp only [rd_1, reduceIte, Nat.reduceEqDiff, h3]; exact h0 j hj
  · simp only [rd_1, reduceIte, Nat.reduceEqDiff, h3, ← hT1]
  · simp only [rd_1, reduceIte, Nat.reduceEqDiff, h3, ← hT1]
  · simp only [rd_1, reduceIte, Nat.reduceEqDiff, h3, ← hT1]
  · simp only [rd_1, reduceIte, Nat.reduceEqDiff]
    rw [m3.1 26 (by decide), v2 i, if_pos hi, h1 5 (by decide)]
  · simp only [rd_1, reduceIte, Nat.reduceEqDiff]
    rw [v3 i, if_pos hi, m2.1 9 (by decide), h1 9 (by decide)]
  · simp only [rd_1, reduceIte, Nat.reduceEqDiff, c0, c1, c2, h3, h0 14 (by omega)]
  · simp only [rd_1, reduceIte, Nat.reduceEqDiff, c0, c1, c2, h3, h0 15 (by omega)]
  · simp only [rd_1, reduceIte, Nat.reduceEqDiff, c0, c1, c2, h3, h0 16 (by omega)]
theorem sx_u {S S' : St} {ks : List Nat} (h : Sm ks S S') {k : Nat} (hk : k ∉ ks) : S'.1 k = S.1 k := h.1 k hk
theorem op_image (hF : Fx Rx) (h : RR Rx S T) : OK Rx (f_X11_image S) (f_X12_image T) := by
  obtain ⟨n, m, t, c, e, d, hs, ht, hm, hp, hch, hi, hd, hh, hx0, hx1⟩ := id h
  obtain ⟨S', e1, ms, v1, v2, v3, v4, v5, v6⟩ := q_take S
  obtain ⟨T', e2, mt, mt2, w0, w1, w2, w3, w4, w5, w6, w7, w8⟩ := p_image T
  unfold f_X11_image
  rw [e1, e2, zb_s]
  have s1' : ∀ k, k ∉ [30, 31, 32, 33] → S'.1 k = S.1 k := fun k hk => ms.1 k hk
  obtain ⟨hn, hS, hT, hv⟩ := id hs
  obtain ⟨hn9, hS9, hT9, hv9⟩ := id ht
  have r30 : S'.1 1 5 = T.1 0 0 := by rw [s1' 1 (by decide), hS, hT]
  refine ok_mk r30.symm ⟨n, m, t, c, e, d, ?_, ?_, ?_, ?_, ?_, ?_, ?_, ?_, ?_, ?_⟩
  · refine ⟨hn, by rw [r30, hT], by rw [w0 0 (by omega), hT], ?_⟩
    rw [mt 1 (by decide), mt 2 (by decide), mt 3 (by decide), mt 4 (by decide), mt 5 (by decide), s1' 2 (by decide), s1' 3 (by decide), s1' 4 (by decide), s1' 5 (by decide), s1' 6 (by decide)]
    exact hv
  · refine ⟨hn9, by rw [s1' 7 (by decide), hS9], by rw [w0 6 (by omega), hT9], ?_⟩
    rw [mt 6 (by decide), mt 7 (by decide), mt 8 (by decide), mt 9 (by decide), s1' 8 (by decide), s1' 9 (by decide), s1' 10 (by decide), s1' 11 (by decide)]
    exact hv9
  · unfold Rm
    rw [mt 10 (by decide), s1' 38 (by decide), s1' 39 (by decide), s1' 21 (by decide), w0 12 (by omega), w0 13 (by omega), w0 14 (by omega), w0 15 (by omega), w0 16 (by omega)]
    exact hm
  · unfold Rp
    rw [mt 11 (by decide), s1' 18 (by decide), s1' 19 (by decide), w0 18 (by omega)]
    exact hp
  · unfold Rc
    rw [mt 12 (by decide), s1' 25 (by decide), s1' 26 (by decide), s1' 27 (by decide), s1' 28 (by decide), s1' 29 (by decide), w0 20 (by omega), w0 21 (by omega)]
    exact hch
  · refine Or.inr ⟨v6, w1, n, m, Nat.le_refl _, Nat.le_refl _, by rw [v4, hS], by rw [w2, hT], by rw [v5, hS9], by rw [w3, hT9], fun i hi1 => ?_, fun i hi1 => ?_, fun i hi1 => ?_⟩
    · rw [w4 i (by omega), v1 i (by omega)]
      exact ⟨(hv i hi1).1.2.2.2.2, (hv i hi1).2.2.2.2.2⟩
    · rw [w5 i (by omega), v2 i (by omega)]
      exact ⟨(hv9 i hi1).1.2.2.2, (hv9 i hi1).2.2.2.2⟩
    · rw [v3 i hi1]
      have h3 : i = 0 ∨ i = 1 ∨ i = 2 := by omega
      rcases h3 with rfl | rfl | rfl
      · rw [w6]; exact hm.2.2.2.1
      · rw [w7]; exact hm.2.2.2.2.1
      · rw [w8]; exact hm.2.2.2.2.2
  · unfold Rd
    rw [mt 29 (by decide), mt 30 (by decide), s1' 34 (by decide), s1' 35 (by decide), s1' 36 (by decide), w0 48 (by omega), w0 50 (by omega)]
    exact hd
  · exact Rh_keep hh (fun k hk => s1' k (by simp; omega)) ms.2 (mt 31 (by decide)) (mt 32 (by decide)) (by rw [mt2])
  · exact fx_keep hF hx0 (fun k h1 h2 _ => s1' k (by simp; omega)) (fun k h1 h2 => mt k (by simp; omega))
  · exact fx_keep hF hx1 (fun k h1 h2 _ => s1' k (by simp; omega)) (fun k h1 h2 => mt k (by simp; omega))
end OPS3
