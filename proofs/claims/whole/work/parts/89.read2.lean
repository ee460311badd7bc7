variable {S T S0 T0 : St} {t p : Nat}
/-! signs, numbers, names -/
def rk (x : Int32) : Nat := if x = 124 then 1 else if x = 38 then 2 else if x = 60 then 3 else if x = 61 then 3 else if x = 62 then 3 else if x = 43 then 4 else if x = 45 then 4 else if x = 42 then 5 else if x = 47 then 5 else if x = 37 then 5 else 0
theorem op_all (x : Int32) : (rk x = 0 ∧ (∀ S, f_X6_rankOf x S = some (nI 0, S)) ∧ ∀ T, f_X12_opOf x T = some (nI 0, T)) ∨ ∃ c, bin c ∧ 30000 + x = nI c ∧ (∀ S, f_X6_rankOf x S = some (nI (rk x), S)) ∧ (∀ T, f_X12_opOf x T = some (nI (mu c), T)) ∧ 1 ≤ mu c ∧ mu c ≤ 10 ∧ bd (mu c) = rk x ∧ 1 ≤ rk x ∧ rk x ≤ 5 ∧ ¬ x = -1 ∧ ¬ x = 41 := by
  by_cases h1 : x = 37
  · subst h1; exact Or.inr ⟨30037, by unfold bin; omega, by decide, fun _ => rfl, fun _ => rfl, by decide, by decide, by decide, by decide, by decide, by decide, by decide⟩
  by_cases h2 : x = 38
  · subst h2; exact Or.inr ⟨30038, by unfold bin; omega, by decide, fun _ => rfl, fun _ => rfl, by decide, by decide, by decide, by decide, by decide, by decide, by decide⟩
  by_cases h3 : x = 42
  · subst h3; exact Or.inr ⟨30042, by unfold bin; omega, by decide, fun _ => rfl, fun _ => rfl, by decide, by decide, by decide, by decide, by decide, by decide, by decide⟩
  by_cases h4 : x = 43
  · subst h4; exact Or.inr ⟨30043, by unfold bin; omega, by decide, fun _ => rfl, fun _ => rfl, by decide, by decide, by decide, by decide, by decide, by decide, by decide⟩
  by_cases h5 : x = 45
  · subst h5; exact Or.inr ⟨30045, by unfold bin; omega, by decide, fun _ => rfl, fun _ => rfl, by decide, by decide, by decide, by decide, by decide, by decide, by decide⟩
  by_cases h6 : x = 47
  · subst h6; exact Or.inr ⟨30047, by unfold bin; omega, by decide, fun _ => rfl, fun _ => rfl, by decide, by decide, by decide, by decide, by decide, by decide, by decide⟩
  by_cases h7 : x = 60
  · subst h7; exact Or.inr ⟨30060, by unfold bin; omega, by decide, fun _ => rfl, fun _ => rfl, by decide, by decide, by decide, by decide, by decide, by decide, by decide⟩
  by_cases h8 : x = 61
  · subst h8; exact Or.inr ⟨30061, by unfold bin; omega, by decide, fun _ => rfl, fun _ => rfl, by decide, by decide, by decide, by decide, by decide, by decide, by decide⟩
  by_cases h9 : x = 62
  · subst h9; exact Or.inr ⟨30062, by unfold bin; omega, by decide, fun _ => rfl, fun _ => rfl, by decide, by decide, by decide, by decide, by decide, by decide, by decide⟩
  by_cases h0 : x = 124
  · subst h0; exact Or.inr ⟨30124, by unfold bin; omega, by decide, fun _ => rfl, fun _ => rfl, by decide, by decide, by decide, by decide, by decide, by decide, by decide⟩
  refine Or.inl ⟨?_, fun S => ?_, fun T => ?_⟩
  · unfold rk
    rw [if_neg h0, if_neg h2, if_neg h7, if_neg h8, if_neg h9, if_neg h4, if_neg h5, if_neg h3, if_neg h6, if_neg h1]
  · unfold f_X6_rankOf
    rw [if_neg h1, if_neg h2, if_neg h3, if_neg h4, if_neg h5, if_neg h6, if_neg h7, if_neg h8, if_neg h9, if_neg h0]; rfl
  · unfold f_X12_opOf
    rw [if_neg h0, if_neg h2, if_neg h7, if_neg h8, if_neg h9, if_neg h4, if_neg h5, if_neg h3, if_neg h6, if_neg h1]; rfl
theorem nm_all (x : Int32) : ((∀ S, f_X8_nameOf x S = some (-1, S)) ∧ ∀ T, f_X12_nameOf x T = some (-1, T)) ∨ ((∃ q, q < 7 ∧ (∀ S, f_X8_nameOf x S = some (nI q, S)) ∧ ∀ T, f_X12_nameOf x T = some (nI q, T)) ∧ ¬ (48 ≤ x ∧ x ≤ 57) ∧ ¬ x = 40 ∧ ¬ x = 33 ∧ ¬ x = 45 ∧ ¬ x = -1) := by
  by_cases h1 : x = 97
  · subst h1; exact Or.inr ⟨⟨0, by omega, fun _ => rfl, fun _ => rfl⟩, by decide, by decide, by decide, by decide, by decide⟩
  by_cases h2 : x = 98
  · subst h2; exact Or.inr ⟨⟨1, by omega, fun _ => rfl, fun _ => rfl⟩, by decide, by decide, by decide, by decide, by decide⟩
  by_cases h3 : x = 100
  · subst h3; exact Or.inr ⟨⟨2, by omega, fun _ => rfl, fun _ => rfl⟩, by decide, by decide, by decide, by decide, by decide⟩
  by_cases h4 : x = 119
  · subst h4; exact Or.inr ⟨⟨3, by omega, fun _ => rfl, fun _ => rfl⟩, by decide, by decide, by decide, by decide, by decide⟩
  by_cases h5 : x = 108
  · subst h5; exact Or.inr ⟨⟨4, by omega, fun _ => rfl, fun _ => rfl⟩, by decide, by decide, by decide, by decide, by decide⟩
  by_cases h6 : x = 115
  · subst h6; exact Or.inr ⟨⟨5, by omega, fun _ => rfl, fun _ => rfl⟩, by decide, by decide, by decide, by decide, by decide⟩
  by_cases h7 : x = 121
  · subst h7; exact Or.inr ⟨⟨6, by omega, fun _ => rfl, fun _ => rfl⟩, by decide, by decide, by decide, by decide, by decide⟩
  refine Or.inl ⟨fun S => ?_, fun T => ?_⟩
  · unfold f_X8_nameOf
    rw [if_neg h1, if_neg h2, if_neg h3, if_neg h5, if_neg h6, if_neg h4, if_neg h7]
  · unfold f_X12_nameOf
    rw [if_neg h1, if_neg h2, if_neg h3, if_neg h4, if_neg h5, if_neg h6, if_neg h7]
def tb (b : Bool) : Int32 := if b = true then 1 else 0
theorem uc_0 : ∀ {P : List Nat}, (∀ x, x ∈ P → x ≤ 10) → uc P = 0
  | [], _ => rfl
  | x :: r, h => by
    show (if 10 < x then 1 else 0) + uc r = 0
    rw [if_neg (by have := h x List.mem_cons_self; omega), uc_0 (fun y hy => h y (List.mem_cons_of_mem _ hy))]
theorem uc_n : ∀ {U : List Nat}, (∀ x, x ∈ U → x = 11 ∨ x = 12) → uc U = U.length
  | [], _ => rfl
  | x :: r, h => by
    show (if 10 < x then 1 else 0) + uc r = r.length + 1
    rw [if_pos (by have := h x List.mem_cons_self; omega), uc_n (fun y hy => h y (List.mem_cons_of_mem _ hy))]; omega
theorem m_goes50 {P O K : List Nat} {dp k o : Nat} (ho : 1 ≤ o ∧ o ≤ 10) (hP : ∀ x, x ∈ P → 1 ≤ x ∧ x ≤ 10 ∧ bd o ≤ bd x) (hO : stp (bd o) O) (hl : P.length + O.length < 128) (hk : K.length + P.length ≤ 128) (hd : dp ≤ 6) (h : MS T0 p K (P ++ O) dp k T) : ∃ T', f_X12_goesOn_50 (nI o) T = some (1, T') ∧ MS T0 (p + 1) (K ++ P) (o :: O) dp k T' ∧ T'.1 19 = T.1 19 := by
  have hb : 1 ≤ bd o ∧ bd o ≤ 6 := by unfold bd; split; omega; split; omega; split; omega; split <;> omega
  obtain ⟨T1, f1, f2, f3⟩ := m_unwinds hb.1 hb.2 (fun x hx => ⟨(hP x hx).1, by have := (hP x hx).2.1; omega, (hP x hx).2.2⟩) hO (by omega) hk (by rw [uc_0 (fun x hx => (hP x hx).2.1)]; omega) (by omega) h
  rw [uc_0 (fun x hx => (hP x hx).2.1), Nat.sub_zero] at f2
  obtain ⟨a1, a2, a3, a4, a5, a6, a7, bb⟩ := f2
  unfold f_X12_goesOn_50
  rw [p_binds (by omega), zb_2, f1, zb_s, a3, zb_an _ (by omega) (by omega), cl_n (by omega)]
  refine ⟨_, rfl, ⟨?_, ?_, ?_, ?_, ?_, ?_, ?_, MB_0 (MB_0 (MB_18 bb) (by decide)) (by decide)⟩, ?_⟩
  · rw [rd_1, if_pos rfl, if_pos rfl, rd_1, if_pos rfl, if_neg (by decide), ne_u1 _ _ _ (by decide), a1, nI_1]
  · rw [rd_1, if_pos rfl, if_neg (by decide), rd_1, if_pos rfl, if_neg (by decide), ne_u1 _ _ _ (by decide)]; exact a2
  · rw [rd_1, if_pos rfl, if_neg (by decide), rd_1, if_pos rfl, if_pos rfl, ne_u1 _ _ _ (by decide), a3, nI_1]; rfl
  · rw [rd_1, if_pos rfl, if_neg (by decide), rd_1, if_pos rfl, if_neg (by decide), ne_u1 _ _ _ (by decide)]; exact a4
  · rw [rd_1, if_pos rfl, if_neg (by decide), rd_1, if_pos rfl, if_neg (by decide), ne_u1 _ _ _ (by decide)]; exact a5
  · rw [ne_u1 _ _ _ (by decide), ne_u1 _ _ _ (by decide), ne_u1 _ _ _ (by decide)]; exact a6
  · rw [ne_u1 _ _ _ (by decide), ne_u1 _ _ _ (by decide)]
    have := stk_push (v := nI o) a7
    rw [List.length_map] at this
    exact this
  · rw [ne_u1 _ _ _ (by decide), ne_u1 _ _ _ (by decide), ne_u1 _ _ _ (by decide), f3]
theorem MS_19 {K O : List Nat} {dp k i : Nat} {v : Int32} (h : MS T0 p K O dp k T) : MS T0 p K O dp k (u1 T 19 i v) := by
  obtain ⟨a1, a2, a3, a4, a5, a6, a7, bb⟩ := h
  refine ⟨?_, ?_, ?_, ?_, ?_, ?_, ?_, MB_19 bb⟩
  all_goals (rw [ne_u1 _ _ _ (by decide)]; assumption)
theorem m_goes {P O K : List Nat} {dp k o : Nat} {cf : Bool} (ho : 1 ≤ o ∧ o ≤ 10) (hP : ∀ x, x ∈ P → 1 ≤ x ∧ x ≤ 10 ∧ bd o ≤ bd x) (hO : stp (bd o) O) (hl : P.length + O.length < 128) (hk : K.length + P.length ≤ 128) (hd : dp ≤ 6) (hk6 : k ≤ 6) (hf : T.1 19 k = tb cf) (h3 : bd o = 3 → cf = false) (h : MS T0 p K (P ++ O) dp k T) : ∃ T', f_X12_goesOn (nI o) T = some (1, T') ∧ MS T0 (p + 1) (K ++ P) (o :: O) dp k T' ∧ T'.1 19 k = tb (if bd o ≤ 2 then false else if bd o = 3 then true else cf) ∧ ∀ i, i ≠ k → T'.1 19 i = T.1 19 i := by
  have a5 := h.2.2.2.2.1
  unfold f_X12_goesOn
  rw [p_binds (by omega), zb_2, a5, zb_an _ (by omega) (by omega), zb_an _ (by omega) (by omega), zb_an _ (by omega) (by omega), cl_n (by omega), hf]
  by_cases q : bd o = 3
  · rw [if_pos (show nI (bd o) = 3 by rw [q]; rfl), h3 q, if_pos (show tb false = 0 from rfl), zb_l]
    obtain ⟨T', f1, f2, f3⟩ := m_goes50 ho hP hO hl hk hd (MS_19 (i := k) (v := vp_nar .boolean 1) h)
    refine ⟨T', f1, f2, ?_, fun i hi => ?_⟩
    · rw [f3, rd_1, if_pos rfl, if_pos rfl, if_neg (by omega), if_pos q]; rfl
    · rw [f3, rd_1, if_pos rfl, if_neg hi]
  · rw [if_neg (fun z => q (by rw [show (3 : Int32) = nI 3 from rfl, nI_eq (by unfold bd; split; omega; split; omega; split; omega; split <;> omega) (by omega)] at z; exact z))]
    by_cases q2 : o ≤ 2
    · have hb : bd o = o := if_pos q2
      rw [if_neg (show ¬ (2 : Int32) < nI o from nI_nlt (a := 2) (by omega) (by omega)), zb_l]
      obtain ⟨T', f1, f2, f3⟩ := m_goes50 ho hP hO hl hk hd (MS_19 (i := k) (v := vp_nar .boolean 0) h)
      refine ⟨T', f1, f2, ?_, fun i hi => ?_⟩
      · rw [f3, rd_1, if_pos rfl, if_pos rfl, if_pos (by omega)]; rfl
      · rw [f3, rd_1, if_pos rfl, if_neg hi]
    · rw [if_pos (show (2 : Int32) < nI o from nI_lt (a := 2) (by omega) (by omega))]
      obtain ⟨T', f1, f2, f3⟩ := m_goes50 ho hP hO hl hk hd h
      have hb : 3 ≤ bd o := by unfold bd; rw [if_neg q2]; split; omega; split; omega; split <;> omega
      exact ⟨T', f1, f2, by rw [f3, hf, if_neg (by omega), if_neg q], fun i _ => by rw [f3]⟩
theorem m_goesN {O K : List Nat} {dp k o : Nat} (ho : bd o = 3) (ho2 : o ≤ 10) (hk6 : k ≤ 6) (hf : T.1 19 k = tb true) (h : MS T0 p K O dp k T) : f_X12_goesOn (nI o) T = some (0, T) := by
  have a5 := h.2.2.2.2.1
  unfold f_X12_goesOn
  rw [p_binds (by omega), zb_2, a5, zb_an _ (by omega) (by omega), cl_n (by omega), hf, if_pos (show nI (bd o) = 3 by rw [ho]; rfl), if_neg (show ¬ tb true = 0 by decide)]
theorem m_open6 {O K : List Nat} {k : Nat} {v : Int32} (h : MS T0 p K O 6 k T) : f_X12_opens v T = some (0, T) := by
  have a4 := h.2.2.2.1
  unfold f_X12_opens
  rw [a4, if_pos (show nI 6 = 6 from rfl)]
theorem m_openU {O K : List Nat} {dp k o : Nat} (hd : dp < 6) (ho : o = 11 ∨ o = 12) (hl : O.length < 128) (h : MS T0 p K O dp k T) : ∃ T', f_X12_opens (nI o) T = some (1, T') ∧ MS T0 (p + 1) K (o :: O) (dp + 1) k T' ∧ T'.1 19 = T.1 19 := by
  obtain ⟨a1, a2, a3, a4, a5, a6, a7, bb⟩ := h
  unfold f_X12_opens f_X12_opens_65
  rw [a4, if_neg (fun z => by rw [show (6 : Int32) = nI 6 from rfl, nI_eq (by omega) (by omega)] at z; omega), nI_1, zb_l, show (u1 T 0 31 (nI (dp + 1))).1 0 30 = nI O.length by rw [rd_1, if_pos rfl, if_neg (by decide)]; exact a3, zb_an _ hl (by omega), cl_n (by omega), zb_l, show (u1 (u1 T 0 31 (nI (dp + 1))) 18 O.length (nI o)).1 0 30 = nI O.length by rw [ne_u1 _ _ _ (by decide), rd_1, if_pos rfl, if_neg (by decide)]; exact a3, nI_1, zb_l, if_neg (show ¬ nI o = 0 by rcases ho with q | q <;> subst q <;> decide), zb_l]
  refine ⟨_, rfl, ⟨?_, ?_, ?_, ?_, ?_, ?_, ?_, MB_0 (MB_0 (MB_18 (MB_0 bb (by decide))) (by decide)) (by decide)⟩, ?_⟩
  · rw [rd_1, if_pos rfl, if_pos rfl, rd_1, if_pos rfl, if_neg (by decide), ne_u1 _ _ _ (by decide), rd_1, if_pos rfl, if_neg (by decide), a1, nI_1]
  · rw [rd_1, if_pos rfl, if_neg (by decide), rd_1, if_pos rfl, if_neg (by decide), ne_u1 _ _ _ (by decide), rd_1, if_pos rfl, if_neg (by decide)]; exact a2
  · rw [rd_1, if_pos rfl, if_neg (by decide), rd_1, if_pos rfl, if_pos rfl]; rfl
  · rw [rd_1, if_pos rfl, if_neg (by decide), rd_1, if_pos rfl, if_neg (by decide), ne_u1 _ _ _ (by decide), rd_1, if_pos rfl, if_pos rfl]
  · rw [rd_1, if_pos rfl, if_neg (by decide), rd_1, if_pos rfl, if_neg (by decide), ne_u1 _ _ _ (by decide), rd_1, if_pos rfl, if_neg (by decide)]; exact a5
  · rw [ne_u1 _ _ _ (by decide), ne_u1 _ _ _ (by decide), ne_u1 _ _ _ (by decide), ne_u1 _ _ _ (by decide)]; exact a6
  · rw [ne_u1 _ _ _ (by decide), ne_u1 _ _ _ (by decide)]
    have := stk_push (v := nI o) a7
    rw [List.length_map] at this
    exact this
  · rw [ne_u1 _ _ _ (by decide), ne_u1 _ _ _ (by decide), ne_u1 _ _ _ (by decide), ne_u1 _ _ _ (by decide)]
theorem m_open0 {O K : List Nat} {dp k : Nat} (hd : dp < 6) (hk : k ≤ 6) (hl : O.length < 128) (h : MS T0 p K O dp k T) : ∃ T', f_X12_opens 0 T = some (1, T') ∧ MS T0 (p + 1) K (0 :: O) (dp + 1) (k + 1) T' ∧ T'.1 19 (k + 1) = tb false ∧ ∀ i, i ≠ k + 1 → T'.1 19 i = T.1 19 i := by
  obtain ⟨a1, a2, a3, a4, a5, a6, a7, bb⟩ := h
  unfold f_X12_opens f_X12_opens_65
  rw [a4, if_neg (fun z => by rw [show (6 : Int32) = nI 6 from rfl, nI_eq (by omega) (by omega)] at z; omega), nI_1, zb_l, show (u1 T 0 31 (nI (dp + 1))).1 0 30 = nI O.length by rw [rd_1, if_pos rfl, if_neg (by decide)]; exact a3, zb_an _ hl (by omega), cl_n (by omega), zb_l, show (u1 (u1 T 0 31 (nI (dp + 1))) 18 O.length 0).1 0 30 = nI O.length by rw [ne_u1 _ _ _ (by decide), rd_1, if_pos rfl, if_neg (by decide)]; exact a3, nI_1, zb_l, if_pos rfl, show (u1 (u1 (u1 T 0 31 (nI (dp + 1))) 18 O.length 0) 0 30 (nI (O.length + 1))).1 0 33 = nI k by rw [rd_1, if_pos rfl, if_neg (by decide), ne_u1 _ _ _ (by decide), rd_1, if_pos rfl, if_neg (by decide)]; exact a5, nI_1, zb_l, show (u1 (u1 (u1 (u1 T 0 31 (nI (dp + 1))) 18 O.length 0) 0 30 (nI (O.length + 1))) 0 33 (nI (k + 1))).1 0 33 = nI (k + 1) by rw [rd_1, if_pos rfl, if_pos rfl], zb_an _ (by omega) (by omega), cl_n (by omega), zb_l, zb_l]
  refine ⟨_, rfl, ⟨?_, ?_, ?_, ?_, ?_, ?_, ?_, MB_0 (MB_19 (MB_0 (MB_0 (MB_18 (MB_0 bb (by decide))) (by decide)) (by decide))) (by decide)⟩, ?_, fun i hi => ?_⟩
  · simp only [rd_1, reduceIte, Nat.reduceEqDiff]; rw [a1, nI_1]
  · simp only [rd_1, reduceIte, Nat.reduceEqDiff]; exact a2
  · simp only [rd_1, reduceIte, Nat.reduceEqDiff]; rfl
  · simp only [rd_1, reduceIte, Nat.reduceEqDiff]
  · simp only [rd_1, reduceIte, Nat.reduceEqDiff]
  · rw [ne_u1 _ _ _ (by decide), ne_u1 _ _ _ (by decide), ne_u1 _ _ _ (by decide), ne_u1 _ _ _ (by decide), ne_u1 _ _ _ (by decide), ne_u1 _ _ _ (by decide)]; exact a6
  · rw [ne_u1 _ _ _ (by decide), ne_u1 _ _ _ (by decide), ne_u1 _ _ _ (by decide), ne_u1 _ _ _ (by decide)]
    have := stk_push (v := nI 0) a7
    rw [List.length_map] at this
    exact this
  · rw [ne_u1 _ _ _ (by decide), rd_1, if_pos rfl, if_pos rfl]; rfl
  · rw [ne_u1 _ _ _ (by decide), rd_1, if_pos rfl, if_neg hi, ne_u1 _ _ _ (by decide), ne_u1 _ _ _ (by decide), ne_u1 _ _ _ (by decide), ne_u1 _ _ _ (by decide)]
def tens : Nat → Nat
  | 0 => 1
  | n + 1 => 10 * tens n
theorem qp_dig {KX KM O : List Nat} {dp k : Nat} (hp : Rp t S0 T0) : ∀ d n v p S T F, n + d = 4 → v < tens n → p ≤ t → d < F → XS S0 p KX S → MS T0 p KM O dp k T → ∃ v' p' S' T', jx_w g_X6_readNumber_4 F (nI v, nI n, S) = some (nI v', S') ∧ jx_w g_X12_oneRead_52 F (nI v, nI n, T) = some (nI v', T') ∧ v' < 10000 ∧ p ≤ p' ∧ p' ≤ t ∧ (n = 0 → 48 ≤ sg S0 t p ∧ sg S0 t p ≤ 57 → p < p') ∧ XS S0 p' KX S' ∧ MS T0 p' KM O dp k T' ∧ T'.1 19 = T.1 19
  | 0, n, v, p, S, T, F, hn, hv, hpt, hF, hx, hm => by
    obtain ⟨N, rfl⟩ : ∃ N, F = N + 1 := ⟨F - 1, by omega⟩
    obtain rfl : n = 4 := by omega
    refine ⟨v, p, S, T, jx_w_end ?_, jx_w_end ?_, hv, Nat.le_refl _, hpt, fun h => by omega, hx, hm, rfl⟩
    · show b_X6_readNumber_4 (nI v) (nI 4) S = _
      unfold b_X6_readNumber_4
      rw [if_pos (by decide)]
    · show b_X12_oneRead_52 (nI v) (nI 4) T = _
      unfold b_X12_oneRead_52
      rw [if_pos (by decide)]
  | d + 1, n, v, p, S, T, F, hn, hv, hpt, hF, hx, hm => by
    obtain ⟨N, rfl⟩ : ∃ N, F = N + 1 := ⟨F - 1, by omega⟩
    have eX : g_X6_readNumber_4 (nI v, nI n, S) = b_X6_readNumber_4 (nI v) (nI n) S := rfl
    have eM : g_X12_oneRead_52 (nI v, nI n, T) = b_X12_oneRead_52 (nI v) (nI n) T := rfl
    unfold b_X6_readNumber_4 at eX
    unfold b_X12_oneRead_52 at eM
    rw [if_neg (show ¬ (4 : Int32) ≤ nI n from nI_ge (b := 4) (by omega) (by omega)), x_next hp hx hpt, zb_2, q_within, zb_2] at eX
    rw [if_neg (show ¬ (4 : Int32) ≤ nI n from nI_ge (b := 4) (by omega) (by omega)), m_sign hp hm hpt, zb_2, p_in, zb_2] at eM
    have ten : tens n ≤ 10000 ∧ tens (n + 1) = 10 * tens n := ⟨by
      have : n = 0 ∨ n = 1 ∨ n = 2 ∨ n = 3 := by omega
      rcases this with q | q | q | q <;> subst q <;> decide, rfl⟩
    by_cases q : 48 ≤ sg S0 t p ∧ sg S0 t p ≤ 57
    · rcases sg_rg (p := p) hp with e | ⟨hlt, g, g1, g2⟩
      · rw [e] at q; exact absurd q (by decide)
      · have q' := q
        rw [g2] at q'
        have gl : 48 ≤ g := (nI_leI (a := 48) (by omega) (by omega)).mp q'.1
        have gm : g ≤ 57 := (nI_leI (b := 57) (by omega) (by omega)).mp q'.2
        rw [if_pos q, if_neg one_ne, x_next hp hx hpt, zb_2, g2, show (10 : Int32) = nI 10 from rfl, show (48 : Int32) = nI 48 from rfl, pk_mul, nI_add, pk_sub (by omega), zb_l, zb_l, zb_l, nI_1] at eX
        rw [if_pos q, if_neg one_ne, m_sign hp hm hpt, zb_2, g2, show (10 : Int32) = nI 10 from rfl, show (48 : Int32) = nI 48 from rfl, pk_mul, nI_add, pk_sub (by omega), zb_l, zb_l, zb_l, nI_1] at eM
        rw [show v * 10 + g - 48 = v * 10 + (g - 48) by omega] at eX
        rw [show 10 * v + g - 48 = v * 10 + (g - 48) by omega] at eM
        obtain ⟨v', p', S', T', r1, r2, r3, r4, r5, r6, r7, r8, r9⟩ := qp_dig hp d (n + 1) (v * 10 + (g - 48)) (p + 1) _ _ N (by omega) (by omega) (by omega) (by omega) (x_pl hx) (m_pl hm)
        refine ⟨v', p', S', T', ?_, ?_, r3, by omega, r5, fun _ _ => by omega, r7, r8, ?_⟩
        · rw [jx_w_step eX]; exact r1
        · rw [jx_w_step eM]; exact r2
        · rw [r9, ne_u1 _ _ _ (by decide)]
    · rw [if_neg q, if_pos rfl] at eX eM
      have hv' : v < 10000 := by omega
      exact ⟨v, p, S, T, jx_w_end eX, jx_w_end eM, hv', Nat.le_refl _, hpt, fun _ h => absurd h q, hx, hm, rfl⟩
