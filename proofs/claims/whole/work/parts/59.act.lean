variable {S T : St}
/-! acts: the class finds a body by tables, the reference by calls -/
def fromL (x2 x4 : Int32) : (Int32 × Int32) → Option ((Int32 × Int32) ⊕ ((Unit) ⊕ ((Int32 × Int32)))) := fun z => (fun (x5 x6 : Int32) =>
  (if (8 : Int32) ≤ x6 then some (.inr (.inl ())) else (if x5 < 0 then some (.inr (.inl ())) else (if (8 : Int32) ≤ x5 then some (.inr (.inl ())) else (if (40 : Int32) ≤ x4 then some (.inr (.inl ())) else jx_a ((x5 * (4 : Int32)) + x2) 32 (jx_l (st_BODY_OF (Int32.toNatClampNeg ((x5 * (4 : Int32)) + x2))) (fun x7_23 => (if x7_23 = 0 then jx_a x5 8 (jx_l (st_ABOVE (Int32.toNatClampNeg x5)) (fun x5_26 => jx_l (x6 + 1) (fun x6_27 => some (.inl (x5_26, x6_27))))) else some (.inr (.inr (x5, x7_23))))))))))) z.1 z.2
theorem fromL_eq (rc : Int32 → Int32 → Int32 → Int32 → St → Option (Int32 × St)) (x2 x3 x4 : Int32) (S : St) : g_X2_from_6 rc x2 x3 x4 S = fromL x2 x4 := rfl
/-- the kind that has the body, and the body -/
def tat : Nat → Nat → Nat
  | 1, 0 => 1 | 5, 0 => 1 | 6, 0 => 6 | _, 0 => 0
  | 2, 1 => 2 | 3, 1 => 3 | 7, 1 => 7 | _, 1 => 0
  | 3, 2 => 3 | 7, 2 => 3 | 4, 2 => 4 | 6, 2 => 4 | _, 2 => 0
  | 5, 3 => 5 | 7, 3 => 7 | _, _ => 0
def tbd : Nat → Nat → Nat
  | 1, 0 => 20 | 5, 0 => 20 | 6, 0 => 70 | _, 0 => 1
  | 2, 1 => 30 | 3, 1 => 41 | 7, 1 => 80 | _, 1 => 10
  | 3, 2 => 40 | 7, 2 => 40 | 4, 2 => 50 | 6, 2 => 50 | _, 2 => 11
  | 5, 3 => 60 | 7, 3 => 81 | _, _ => 2
def isTab (x y : Int32) (o : Option ((Unit) ⊕ ((Int32 × Int32)))) : Bool := o.elim false (fun o => Sum.elim (fun _ => false) (fun z => decide (z.1 = x) && decide (z.2 = y)) o)
theorem isTab_eq {x y : Int32} {o : Option ((Unit) ⊕ ((Int32 × Int32)))} (h : isTab x y o = true) : o = some (.inr (x, y)) := by
  rcases o with _ | o
  · exact absurd h (by simp [isTab])
  · rcases o with o | ⟨u, v⟩
    · exact absurd h (by simp [isTab])
    · simp only [isTab, Option.elim, Sum.elim, Bool.and_eq_true, decide_eq_true_eq] at h
      rw [h.1, h.2]
theorem from_tab0 : ∀ dd, dd < 40 → ∀ j, j < 8 → ∀ a, a < 4 → isTab (nI (tat j a)) (nI (tbd j a)) (jx_w (fromL (nI a) (nI dd)) FU (nI j, 0)) = true := by decide +kernel
theorem from_tab (dd : Nat) (h : dd < 40) (j : Nat) (hj : j < 8) (a : Nat) (ha : a < 4) : jx_w (fromL (nI a) (nI dd)) FU (nI j, 0) = some (.inr (nI (tat j a), nI (tbd j a))) := isTab_eq (from_tab0 dd h j hj a ha)
theorem tat_lt : ∀ j, j < 8 → ∀ a, a < 4 → tat j a < 8 := by decide
theorem from_eq {f j a dd : Nat} {x : Int32} (hd : dd < 40) (hj : j < 8) (ha : a < 4) (S : St) : f_X2_from (f + 1) (nI j) (nI a) x (nI dd) S = jx_b (f_X2_note (nI (tbd j a)) S) (fun S7 => jx_b2 (f_X2_run (f_X2_from f) (nI (tbd j a)) (st_ABOVE (tat j a)) x (nI (dd + 1)) S7) (fun r S => some (r, S))) := by
  show fb_X2_from (f_X2_from f) (nI j) (nI a) x (nI dd) S = _
  unfold fb_X2_from
  rw [fromL_eq, from_tab dd hd j hj a ha, zb_s]
  have ht := tat_lt j hj a ha
  show f_X2_from_49 (f_X2_from f) x (nI dd) (nI (tat j a)) (nI (tbd j a)) S = _
  unfold f_X2_from_49
  simp (disch := omega) only [zb_an, cl_n, nI_1]
def Dd (a : Nat) (S0 T0 : St) (r : Nat) (S T : St) : Prop := S.1 34 4 = nI a ∧ T.1 0 52 = nI a ∧ S.1 34 3 = nI r ∧ T.1 0 50 = nI r ∧ (∀ i, i < 24 → i < r → T.1 30 i = S.1 36 i) ∧ (∀ c, c ≠ 34 → c ≠ 36 → S.1 c = S0.1 c) ∧ S.1 34 2 = S0.1 34 2 ∧ S.2 = S0.2 ∧ (∀ c, c ≠ 0 → c ≠ 30 → T.1 c = T0.1 c) ∧ (∀ j, j ≠ 50 → j ≠ 52 → T.1 0 j = T0.1 0 j) ∧ T.2 = T0.2
def AG (a d : Nat) (S0 T0 : St) (F G : St → Option (Int32 × St)) : Prop := ∀ r S T, r + d ≤ 900 → Dd a S0 T0 r S T → ∃ v S' T' r', F S = some (v, S') ∧ G T = some (v, T') ∧ r' ≤ r + d ∧ Dd a S0 T0 r' S' T'
theorem qp_note {a r : Nat} {S0 T0 : St} (b : Int32) (hr : r ≤ 900) (h : Dd a S0 T0 r S T) : ∃ S' T', f_X2_note b S = some S' ∧ f_X12_runs b T = some T' ∧ Dd a S0 T0 (r + 1) S' T' := by
  obtain ⟨h1, h2, h3, h4, h5, h6, h7, h8, h9, h10, h11⟩ := h
  unfold f_X2_note f_X12_runs f_X2_note_19 f_X12_runs_19
  rw [h3, h4]
  by_cases q : 24 ≤ r
  · rw [if_pos (by exact nI_le (a := 24) q (by omega)), if_pos (by exact nI_le (a := 24) q (by omega)), zb_l, zb_l]
    simp only [nI_1]
    refine ⟨_, _, rfl, rfl, ?_, ?_, ?_, ?_, fun i hi1 hi2 => ?_, fun c c1 c2 => ?_, ?_, h8, fun c c1 c2 => ?_, fun j j1 j2 => ?_, h11⟩
    · simp only [rd_1, reduceIte, Nat.reduceEqDiff]; exact h1
    · simp only [rd_1, reduceIte, Nat.reduceEqDiff]; exact h2
    · simp only [rd_1, reduceIte]
    · simp only [rd_1, reduceIte]
    · simp only [rd_1, reduceIte, Nat.reduceEqDiff]; exact h5 i hi1 (by omega)
    · rw [ne_u1 _ _ _ c1]; exact h6 c c1 c2
    · simp only [rd_1, reduceIte, Nat.reduceEqDiff]; exact h7
    · rw [ne_u1 _ _ _ c1]; exact h9 c c1 c2
    · simp only [rd_1, reduceIte, if_neg j1]; exact h10 j j1 j2
  · rw [if_neg (by exact nI_ge (b := 24) (by omega) (by omega)), if_neg (by exact nI_ge (b := 24) (by omega) (by omega)), zb_an _ (by omega) (by omega), zb_an _ (by omega) (by omega), cl_n (by omega)]
    simp only [zb_l, rd_1, reduceIte, Nat.reduceEqDiff, h3, h4, nI_1]
    refine ⟨_, _, rfl, rfl, ?_, ?_, ?_, ?_, fun i hi1 hi2 => ?_, fun c c1 c2 => ?_, ?_, h8, fun c c1 c2 => ?_, fun j j1 j2 => ?_, h11⟩
    · simp only [rd_1, reduceIte, Nat.reduceEqDiff]; exact h1
    · simp only [rd_1, reduceIte, Nat.reduceEqDiff]; exact h2
    · simp only [rd_1, reduceIte]
    · simp only [rd_1, reduceIte]
    · simp only [rd_1, reduceIte, Nat.reduceEqDiff]
      by_cases z : i = r
      · rw [if_pos z, if_pos z]
      · rw [if_neg z, if_neg z]; exact h5 i hi1 (by omega)
    · rw [ne_u1 _ _ _ c1, ne_u1 _ _ _ c2]; exact h6 c c1 c2
    · simp only [rd_1, reduceIte, Nat.reduceEqDiff]; exact h7
    · rw [ne_u1 _ _ _ c1, ne_u1 _ _ _ c2]; exact h9 c c1 c2
    · simp only [rd_1, reduceIte, Nat.reduceEqDiff, if_neg j1]; exact h10 j j1 j2
section AGS
variable {a d d2 : Nat} {S0 T0 : St} {F G F2 G2 : St → Option (Int32 × St)}
theorem ag_note (b : Int32) (h : AG a d S0 T0 F G) : AG a (d + 1) S0 T0 (fun S => jx_b (f_X2_note b S) F) (fun T => jx_b (f_X12_runs b T) G) := by
  intro r S T hr hD
  obtain ⟨S1, T1, e1, e2, e3⟩ := qp_note b (by omega) hD
  obtain ⟨v, S', T', r', f1, f2, f3, f4⟩ := h (r + 1) S1 T1 (by omega) e3
  exact ⟨v, S', T', r', by show jx_b (f_X2_note b S) F = _; rw [e1, zb_s, f1], by show jx_b (f_X12_runs b T) G = _; rw [e2, zb_s, f2], by omega, f4⟩
theorem ag_map (p : Int32 → Int32) (h : AG a d S0 T0 F G) : AG a d S0 T0 (fun S => jx_b2 (F S) (fun r S => some (p r, S))) (fun T => jx_b2 (G T) (fun r T => some (p r, T))) := by
  intro r S T hr hD
  obtain ⟨v, S', T', r', f1, f2, f3, f4⟩ := h r S T hr hD
  exact ⟨p v, S', T', r', by show jx_b2 (F S) _ = _; rw [f1, zb_2], by show jx_b2 (G T) _ = _; rw [f2, zb_2], f3, f4⟩
theorem ag_bin (p : Int32 → Int32 → Int32) (h : AG a d S0 T0 F G) (h2 : AG a d2 S0 T0 F2 G2) : AG a (d + d2) S0 T0 (fun S => jx_b2 (F S) (fun r S1 => jx_b2 (F2 S1) (fun r2 S2 => some (p r r2, S2)))) (fun T => jx_b2 (G T) (fun r T1 => jx_b2 (G2 T1) (fun r2 T2 => some (p r r2, T2)))) := by
  intro r S T hr hD
  obtain ⟨v, S', T', r', f1, f2, f3, f4⟩ := h r S T (by omega) hD
  obtain ⟨v2, S2, T2, r2, g1, g2, g3, g4⟩ := h2 r' S' T' (by omega) f4
  exact ⟨p v v2, S2, T2, r2, by show jx_b2 (F S) _ = _; rw [f1, zb_2, g1, zb_2], by show jx_b2 (G T) _ = _; rw [f2, zb_2, g2, zb_2], by omega, g4⟩
theorem ag_mono (h : AG a d S0 T0 F G) (hd : d ≤ d2) : AG a d2 S0 T0 F G := by
  intro r S T hr hD
  obtain ⟨v, S', T', r', f1, f2, f3, f4⟩ := h r S T (by omega) hD
  exact ⟨v, S', T', r', f1, f2, by omega, f4⟩
theorem ag_cg (h : AG a d S0 T0 F G) (h1 : ∀ S, F2 S = F S) (h2 : ∀ T, G2 T = G T) : AG a d S0 T0 F2 G2 := by
  intro r S T hr hD
  obtain ⟨v, S', T', r', f1, f2, f3, f4⟩ := h r S T hr hD
  exact ⟨v, S', T', r', by rw [h1, f1], by rw [h2, f2], f3, f4⟩
def ownM (H : Int32 → St → Option (Int32 × St)) (T : St) : Option (Int32 × St) := jx_a (T.1 0 52) 50 (H (T.1 29 (Int32.toNatClampNeg (T.1 0 52))) T)
def Cx (a k : Nat) (S0 T0 : St) : Prop := a < 50 ∧ k < 8 ∧ (∃ n, a < n ∧ n ≤ 50 ∧ S0.1 34 2 = nI n) ∧ S0.1 35 a = nI k ∧ T0.1 29 a = nI k
theorem ag_own {k : Nat} (hC : Cx a k S0 T0) {rc : Int32 → Int32 → Int32 → Int32 → St → Option (Int32 × St)} {H : Int32 → St → Option (Int32 × St)} {ac x dd : Int32} (h : AG a d S0 T0 (rc (nI k) ac x dd) (H (nI k))) : AG a d S0 T0 (f_X2_own rc ac x dd) (ownM H) := by
  intro r S T hr hD
  obtain ⟨v, S', T', r', f1, f2, f3, f4⟩ := h r S T hr hD
  obtain ⟨h1, h2, h3, h4, h5, h6, h7, h8, h9, h10, h11⟩ := hD
  obtain ⟨c1, c2, ⟨n, n1, n2, n3⟩, c4, c5⟩ := hC
  refine ⟨v, S', T', r', ?_, ?_, f3, f4⟩
  · unfold f_X2_own f_X2_kindOf
    rw [h1, q_knows2 (n := n) (by rw [h7]; exact n3) (by omega), zb_2, if_pos (show 0 ≤ (nI a).toInt ∧ (nI a).toInt < (n : Int) by rw [nI_toInt (by omega)]; omega), if_neg one_ne, zb_an _ c1 (by omega), cl_n (by omega), h6 35 (by decide) (by decide), c4, zb_2, f1, zb_2]
  · unfold ownM
    rw [h2, zb_an _ c1 (by omega), cl_n (by omega), h9 29 (by decide) (by decide), c5, f2]
theorem ja_b2 {i : Int32} {n : Nat} {A : Option (Int32 × St)} {f : Int32 → St → Option (Int32 × St)} : jx_a i n (jx_b2 A f) = jx_b2 (jx_a i n A) f := by
  unfold jx_a
  by_cases q : 0 ≤ i.toInt ∧ i.toInt < n
  · rw [if_pos q, if_pos q]
  · rw [if_neg q, if_neg q]; rfl
end AGS
