variable {S T S0 T0 : St} {t p : Nat}
/-! the tape is read: both at one place -/
/-- the sign at a place -/
def sg (S0 : St) (t p : Nat) : Int32 := if p < t then S0.1 19 p else -1
def XB (S0 S : St) : Prop := (∀ a, a ≠ 18 → a ≠ 20 → S.1 a = S0.1 a) ∧ S.1 18 2 = S0.1 18 2 ∧ S.2 = S0.2
def XS (S0 : St) (p : Nat) (K : List Nat) (S : St) : Prop := S.1 18 4 = nI p ∧ S.1 18 3 = nI K.length ∧ S.1 18 5 = -1 ∧ cdA (S.1 20) 0 K ∧ XB S0 S
def XF (S0 : St) (f : Nat) (S : St) : Prop := S.1 18 5 = nI f ∧ f ≤ 120 ∧ (∃ n, n ≤ 128 ∧ S.1 18 3 = nI n) ∧ XB S0 S
def MB (T0 T : St) : Prop := (∀ a, a ≠ 0 → a ≠ 17 → a ≠ 18 → a ≠ 19 → T.1 a = T0.1 a) ∧ (∀ j, j ∉ [27, 28, 30, 31, 33] → T.1 0 j = T0.1 0 j) ∧ (∀ i, i < 256 → T.1 17 i = T0.1 17 i) ∧ T.2 = T0.2
def MS (T0 : St) (p : Nat) (K O : List Nat) (dp k : Nat) (T : St) : Prop := T.1 0 27 = nI p ∧ T.1 0 28 = nI K.length ∧ T.1 0 30 = nI O.length ∧ T.1 0 31 = nI dp ∧ T.1 0 33 = nI k ∧ cdA (T.1 17) 256 K ∧ stk (T.1 18) (O.map nI) ∧ MB T0 T
theorem XB_18 {i : Nat} {v : Int32} (h : XB S0 S) (hi : i ≠ 2) : XB S0 (u1 S 18 i v) := ⟨fun a h1 h2 => by rw [ne_u1 _ _ _ h1]; exact h.1 a h1 h2, by rw [rd_1, if_pos rfl, if_neg (Ne.symm hi)]; exact h.2.1, h.2.2⟩
theorem XB_20 {i : Nat} {v : Int32} (h : XB S0 S) : XB S0 (u1 S 20 i v) := ⟨fun a h1 h2 => by rw [ne_u1 _ _ _ h2]; exact h.1 a h1 h2, by rw [ne_u1 _ _ _ (by decide)]; exact h.2.1, h.2.2⟩
theorem MB_0 {j : Nat} {v : Int32} (h : MB T0 T) (hj : j ∈ [27, 28, 30, 31, 33]) : MB T0 (u1 T 0 j v) := ⟨fun a h1 h2 h3 h4 => by rw [ne_u1 _ _ _ h1]; exact h.1 a h1 h2 h3 h4, fun i hi => by rw [rd_1, if_pos rfl, if_neg (fun q => hi (by rw [q]; exact hj))]; exact h.2.1 i hi, fun i hi => by rw [ne_u1 _ _ _ (by decide)]; exact h.2.2.1 i hi, h.2.2.2⟩
theorem MB_17 {j : Nat} {v : Int32} (h : MB T0 T) (hj : 256 ≤ j) : MB T0 (u1 T 17 j v) := ⟨fun a h1 h2 h3 h4 => by rw [ne_u1 _ _ _ h2]; exact h.1 a h1 h2 h3 h4, fun i hi => by rw [ne_u1 _ _ _ (by decide)]; exact h.2.1 i hi, fun i hi => by rw [rd_1, if_pos rfl, if_neg (by omega)]; exact h.2.2.1 i hi, h.2.2.2⟩
theorem MB_18 {j : Nat} {v : Int32} (h : MB T0 T) : MB T0 (u1 T 18 j v) := ⟨fun a h1 h2 h3 h4 => by rw [ne_u1 _ _ _ h3]; exact h.1 a h1 h2 h3 h4, fun i hi => by rw [ne_u1 _ _ _ (by decide)]; exact h.2.1 i hi, fun i hi => by rw [ne_u1 _ _ _ (by decide)]; exact h.2.2.1 i hi, h.2.2.2⟩
theorem MB_19 {j : Nat} {v : Int32} (h : MB T0 T) : MB T0 (u1 T 19 j v) := ⟨fun a h1 h2 h3 h4 => by rw [ne_u1 _ _ _ h4]; exact h.1 a h1 h2 h3 h4, fun i hi => by rw [ne_u1 _ _ _ (by decide)]; exact h.2.1 i hi, fun i hi => by rw [ne_u1 _ _ _ (by decide)]; exact h.2.2.1 i hi, h.2.2.2⟩
theorem MB_rf : MB T0 T0 := ⟨fun _ _ _ _ _ => rfl, fun _ _ => rfl, fun _ _ => rfl, rfl⟩
theorem cdA_push {f : Nat → Int32} {q c : Nat} {K : List Nat} (h : cdA f q K) : cdA (upd f (q + K.length) (nI c)) q (K ++ [c]) := by
  rw [cdA_app]
  exact ⟨cdA_congr (fun i h1 h2 => pk_un (by omega)) h, pk_us, trivial⟩
theorem sg_end (h : t ≤ p) : sg S0 t p = -1 := if_neg (by omega)
/-- a sign is the end or a letter -/
theorem sg_rg (hp : Rp t S0 T0) : sg S0 t p = -1 ∨ p < t ∧ ∃ q, q < 256 ∧ sg S0 t p = nI q := by
  obtain ⟨ht, hS, hT, hv⟩ := hp
  unfold sg
  by_cases q : p < t
  · rw [if_pos q]
    have r := (hv p q).2
    obtain ⟨j, j1, j2⟩ := ix_of (x := S0.1 19 p) (n := 256) ⟨r.1, by have := r.2; omega⟩ (by omega)
    exact Or.inr ⟨q, j, j1, j2⟩
  · rw [if_neg q]; exact Or.inl rfl
theorem x_next {K : List Nat} (hp : Rp t S0 T0) (h : XS S0 p K S) (hpt : p ≤ t) : f_X6_next S = some (sg S0 t p, S) := by
  obtain ⟨ht, hS, hT, hv⟩ := hp
  obtain ⟨a1, a2, a3, a4, b1, b2, b3⟩ := h
  unfold f_X6_next sg
  rw [a3, if_neg (show ¬ (0 : Int32) ≤ -1 by decide), a1, if_neg (nI_pos (by omega)), b2, hS]
  by_cases q : p < t
  · rw [if_neg (nI_ge q (by omega)), if_neg (show ¬ (120 : Int32) ≤ nI p from nI_ge (b := 120) (by omega) (by omega)), zb_an _ (by omega) (by omega), cl_n (by omega), b1 19 (by decide) (by decide), if_pos q]
  · rw [if_pos (nI_le (by omega) (by omega)), if_neg q]
theorem m_sign {K O : List Nat} {dp k : Nat} (hp : Rp t S0 T0) (h : MS T0 p K O dp k T) (hpt : p ≤ t) : f_X12_sign T = some (sg S0 t p, T) := by
  obtain ⟨ht, hS, hT, hv⟩ := hp
  obtain ⟨a1, a2, a3, a4, a5, a6, a7, b1, b2, b3, b4⟩ := h
  unfold f_X12_sign sg
  rw [a1, b2 18 (by decide), hT]
  by_cases q : p < t
  · rw [if_neg (nI_ge q (by omega)), zb_an _ (by omega) (by omega), cl_n (by omega), b1 11 (by decide) (by decide) (by decide) (by decide), if_pos q, (hv p q).1]
  · rw [if_pos (nI_le (by omega) (by omega)), if_neg q]
theorem x_pl {K : List Nat} (h : XS S0 p K S) : XS S0 (p + 1) K (u1 S 18 4 (S.1 18 4 + 1)) := by
  obtain ⟨a1, a2, a3, a4, b⟩ := h
  refine ⟨by rw [rd_1, if_pos rfl, if_pos rfl, a1, nI_1], ?_, ?_, by rw [ne_u1 _ _ _ (by decide)]; exact a4, XB_18 b (by decide)⟩
  · rw [rd_1, if_pos rfl, if_neg (by decide)]; exact a2
  · rw [rd_1, if_pos rfl, if_neg (by decide)]; exact a3
theorem x_go1 {K : List Nat} (hp : Rp t S0 T0) (h : XS S0 p K S) (hpt : p ≤ t) {y : Int32} (hy : sg S0 t p = y) : ∃ S', f_X6_goesOnWith y S = some (1, S') ∧ XS S0 (p + 1) K S' := by
  unfold f_X6_goesOnWith
  rw [x_next hp h hpt, zb_2, if_pos hy]
  exact ⟨_, rfl, x_pl h⟩
theorem x_go0 {K : List Nat} (hp : Rp t S0 T0) (h : XS S0 p K S) (hpt : p ≤ t) {y : Int32} (hy : ¬ sg S0 t p = y) : f_X6_goesOnWith y S = some (0, S) := by
  unfold f_X6_goesOnWith
  rw [x_next hp h hpt, zb_2, if_neg hy]
theorem x_write {K : List Nat} {c : Nat} (h : XS S0 p K S) (hK : K.length < 128) : ∃ S', f_X6_write (nI c) S = some S' ∧ XS S0 p (K ++ [c]) S' := by
  obtain ⟨a1, a2, a3, a4, b⟩ := h
  unfold f_X6_write
  rw [a2, if_neg (show ¬ (128 : Int32) ≤ nI K.length from nI_ge (b := 128) hK (by omega)), zb_an _ hK (by omega), cl_n (by omega)]
  refine ⟨_, rfl, ?_, ?_, ?_, ?_, XB_18 (XB_20 b) (by decide)⟩
  · rw [rd_1, if_pos rfl, if_neg (by decide), ne_u1 _ _ _ (by decide)]; exact a1
  · rw [rd_1, if_pos rfl, if_pos rfl, ne_u1 _ _ _ (by decide), a2, nI_1, List.length_append]; rfl
  · rw [rd_1, if_pos rfl, if_neg (by decide), ne_u1 _ _ _ (by decide)]; exact a3
  · rw [ne_u1 _ _ _ (by decide)]
    have := cdA_push (c := c) a4
    rw [Nat.zero_add] at this
    exact this
theorem x_fail {K : List Nat} (h : XS S0 p K S) (hK : K.length ≤ 128) (hp : p ≤ 120) : ∃ S', f_X6_fail S = some S' ∧ XF S0 p S' := by
  obtain ⟨a1, a2, a3, a4, b⟩ := h
  unfold f_X6_fail
  rw [a3, if_neg (show ¬ (0 : Int32) ≤ -1 by decide), zb_l]
  exact ⟨_, rfl, by rw [rd_1, if_pos rfl, if_pos rfl]; exact a1, hp, ⟨K.length, hK, by rw [rd_1, if_pos rfl, if_neg (by decide)]; exact a2⟩, XB_18 b (by decide)⟩
theorem xf_fail {f : Nat} (h : XF S0 f S) : f_X6_fail S = some S := by
  unfold f_X6_fail
  rw [h.1, if_pos (nI_pos' (by have := h.2.1; omega))]
theorem xf_next {f : Nat} (h : XF S0 f S) : f_X6_next S = some (-1, S) := by
  unfold f_X6_next
  rw [h.1, if_pos (nI_pos' (by have := h.2.1; omega))]
theorem xf_go {f : Nat} (h : XF S0 f S) {y : Int32} (hy : ¬ -1 = y) : f_X6_goesOnWith y S = some (0, S) := by
  unfold f_X6_goesOnWith
  rw [xf_next h, zb_2, if_neg hy]
theorem xf_write {f : Nat} {v : Int32} (h : XF S0 f S) : ∃ S', f_X6_write v S = some S' ∧ XF S0 f S' := by
  obtain ⟨a1, a2, ⟨n, n1, n2⟩, b⟩ := id h
  unfold f_X6_write
  rw [n2]
  by_cases q : n = 128
  · rw [q, if_pos (by decide)]
    exact ⟨S, rfl, h⟩
  · rw [if_neg (show ¬ (128 : Int32) ≤ nI n from nI_ge (b := 128) (by omega) (by omega)), zb_an _ (by omega) (by omega)]
    refine ⟨_, rfl, ?_, a2, ⟨n + 1, by omega, ?_⟩, XB_18 (XB_20 b) (by decide)⟩
    · rw [rd_1, if_pos rfl, if_neg (by decide), ne_u1 _ _ _ (by decide)]; exact a1
    · rw [rd_1, if_pos rfl, if_pos rfl, ne_u1 _ _ _ (by decide), n2, nI_1]
theorem m_pl {K O : List Nat} {dp k : Nat} (h : MS T0 p K O dp k T) : MS T0 (p + 1) K O dp k (u1 T 0 27 (T.1 0 27 + 1)) := by
  obtain ⟨a1, a2, a3, a4, a5, a6, a7, b⟩ := h
  refine ⟨by rw [rd_1, if_pos rfl, if_pos rfl, a1, nI_1], ?_, ?_, ?_, ?_, by rw [ne_u1 _ _ _ (by decide)]; exact a6, by rw [ne_u1 _ _ _ (by decide)]; exact a7, MB_0 b (by decide)⟩
  · rw [rd_1, if_pos rfl, if_neg (by decide)]; exact a2
  · rw [rd_1, if_pos rfl, if_neg (by decide)]; exact a3
  · rw [rd_1, if_pos rfl, if_neg (by decide)]; exact a4
  · rw [rd_1, if_pos rfl, if_neg (by decide)]; exact a5
theorem m_code {K O : List Nat} {dp k c : Nat} (h : MS T0 p K O dp k T) (hK : K.length < 128) : ∃ T', f_X12_code (nI c) T = some T' ∧ MS T0 p (K ++ [c]) O dp k T' ∧ T'.1 19 = T.1 19 := by
  obtain ⟨a1, a2, a3, a4, a5, a6, a7, b⟩ := h
  unfold f_X12_code
  rw [a2, show (256 : Int32) + nI K.length = nI (256 + K.length) from nI_add 256 _, zb_an _ (by omega) (by omega), cl_n (by omega)]
  refine ⟨_, rfl, ⟨?_, ?_, ?_, ?_, ?_, ?_, ?_, MB_0 (MB_17 b (by omega)) (by decide)⟩, ?_⟩
  · rw [rd_1, if_pos rfl, if_neg (by decide), ne_u1 _ _ _ (by decide)]; exact a1
  · rw [rd_1, if_pos rfl, if_pos rfl, ne_u1 _ _ _ (by decide), a2, nI_1, List.length_append]; rfl
  · rw [rd_1, if_pos rfl, if_neg (by decide), ne_u1 _ _ _ (by decide)]; exact a3
  · rw [rd_1, if_pos rfl, if_neg (by decide), ne_u1 _ _ _ (by decide)]; exact a4
  · rw [rd_1, if_pos rfl, if_neg (by decide), ne_u1 _ _ _ (by decide)]; exact a5
  · rw [ne_u1 _ _ _ (by decide)]; exact cdA_push a6
  · rw [ne_u1 _ _ _ (by decide), ne_u1 _ _ _ (by decide)]; exact a7
  · rw [ne_u1 _ _ _ (by decide), ne_u1 _ _ _ (by decide)]
/-! the reference's waiting signs -/
def bd (o : Nat) : Nat := if o ≤ 2 then o else if o ≤ 5 then 3 else if o ≤ 7 then 4 else if o ≤ 10 then 5 else 6
theorem p_binds {o : Nat} (ho : o < 2 ^ 31) : f_X12_binds (nI o) T = some (nI (bd o), T) := by
  unfold f_X12_binds bd
  have key : ∀ l : Nat, l < 2 ^ 31 → ((nI l < nI o) ↔ ¬ o ≤ l) := fun l hl => by rw [nI_ltI hl ho]; omega
  by_cases h2 : o ≤ 2
  · rw [if_neg (show ¬ (2 : Int32) < nI o from fun q => (key 2 (by omega)).mp q h2), if_pos h2]
  · rw [if_pos (show (2 : Int32) < nI o from (key 2 (by omega)).mpr h2), if_neg h2]
    by_cases h5 : o ≤ 5
    · rw [if_neg (show ¬ (5 : Int32) < nI o from fun q => (key 5 (by omega)).mp q h5), if_pos h5]; rfl
    · rw [if_pos (show (5 : Int32) < nI o from (key 5 (by omega)).mpr h5), if_neg h5]
      by_cases h7 : o ≤ 7
      · rw [if_neg (show ¬ (7 : Int32) < nI o from fun q => (key 7 (by omega)).mp q h7), if_pos h7]; rfl
      · rw [if_pos (show (7 : Int32) < nI o from (key 7 (by omega)).mpr h7), if_neg h7]
        by_cases h10 : o ≤ 10
        · rw [if_neg (show ¬ (10 : Int32) < nI o from fun q => (key 10 (by omega)).mp q h10), if_pos h10]; rfl
        · rw [if_pos (show (10 : Int32) < nI o from (key 10 (by omega)).mpr h10), if_neg h10]; rfl
def stp (b : Nat) (O : List Nat) : Prop := ∀ x r, O = x :: r → x < 13 ∧ (x = 0 ∨ bd x < b)
/-- the signs among them that open -/
def uc : List Nat → Nat
  | [] => 0
  | x :: r => (if 10 < x then 1 else 0) + uc r
theorem stk_top {f : Nat → Int32} {x : Nat} {r : List Nat} (h : stk f ((x :: r).map nI)) : f r.length = nI x ∧ stk f (r.map nI) := by
  have h1 := h.1
  have h2 := h.2
  rw [List.length_map] at h1
  exact ⟨h1, h2⟩
theorem m_unwind {b : Nat} (hb : 1 ≤ b) (hb2 : b ≤ 6) : ∀ (P O K : List Nat) (dp k N : Nat) (T : St), (∀ x, x ∈ P → 1 ≤ x ∧ x < 13 ∧ b ≤ bd x) → stp b O → P.length + O.length ≤ 128 → K.length + P.length ≤ 128 → uc P ≤ dp → dp ≤ 1000 → MS T0 p K (P ++ O) dp k T → ∃ T', jx_w (g_X12_unwinds_0 (nI b)) (N + P.length + 1) T = some T' ∧ MS T0 p (K ++ P) O (dp - uc P) k T' ∧ T'.1 19 = T.1 19
  | [], O, K, dp, k, N, T, hP, hO, hl, hk, hu, hd, h => by
    rw [List.nil_append] at h
    refine ⟨T, jx_w_end ?_, by rw [List.append_nil]; exact h, rfl⟩
    obtain ⟨a1, a2, a3, a4, a5, a6, a7, b⟩ := id h
    unfold g_X12_unwinds_0 b_X12_unwinds_0
    rw [a3]
    cases O with
    | nil => rw [if_pos (by decide)]
    | cons x r =>
      obtain ⟨x1, x2⟩ := hO x r rfl
      obtain ⟨s1', s2'⟩ := stk_top a7
      rw [List.length_cons, if_neg (nI_nle (by omega) (by simp only [List.length_cons] at hl; omega)), show nI (r.length + 1) - (1 : Int32) = nI r.length from pk_sub (b := 1) (by omega), zb_an _ (by simp only [List.length_cons, List.length_nil] at hl; omega) (by omega), cl_n (by simp only [List.length_cons, List.length_nil] at hl; omega), s1']
      by_cases q : x = 0
      · rw [q, if_pos (show nI 0 = 0 from rfl)]
      · rw [if_neg (fun z => q (by rw [show (0 : Int32) = nI 0 from rfl, nI_eq (by omega) (by omega)] at z; exact z)), zb_an _ (by simp only [List.length_cons, List.length_nil] at hl; omega) (by omega), p_binds (by omega), zb_2, if_pos (nI_lt (by omega) (by omega))]
  | x :: P, O, K, dp, k, N, T, hP, hO, hl, hk, hu, hd, h => by
    obtain ⟨x1, x2, x3⟩ := hP x List.mem_cons_self
    obtain ⟨a1, a2, a3, a4, a5, a6, a7, bb⟩ := id h
    simp only [List.length_cons] at hl hk
    obtain ⟨s1', s2'⟩ := stk_top (r := P ++ O) a7
    have e0 : g_X12_unwinds_0 (nI b) T = b_X12_unwinds_0 (nI b) T := rfl
    have hlen : (x :: P ++ O).length = (P ++ O).length + 1 := rfl
    have hle : (P ++ O).length = P.length + O.length := List.length_append
    unfold b_X12_unwinds_0 at e0
    rw [a3, hlen, if_neg (nI_nle (by omega) (by omega)), show nI ((P ++ O).length + 1) - (1 : Int32) = nI (P ++ O).length from pk_sub (b := 1) (by omega), zb_an _ (by omega) (by omega), cl_n (by omega), s1', if_neg (fun z => by rw [show (0 : Int32) = nI 0 from rfl, nI_eq (by omega) (by omega)] at z; omega), zb_an _ (by omega) (by omega), p_binds (by omega), zb_2, if_neg (nI_nlt x3 (by unfold bd; split; omega; split; omega; split; omega; split <;> omega)), a3, hlen, show nI ((P ++ O).length + 1) - (1 : Int32) = nI (P ++ O).length from pk_sub (b := 1) (by omega), zb_an _ (by omega) (by omega), cl_n (by omega), s1', a4] at e0
    have e1 : (if nI x ≤ (10 : Int32) then f_X12_unwinds_65i0 (nI b) (nI dp) 0 T else f_X12_unwinds_65i0 (nI b) (nI dp) 1 T) = f_X12_unwinds_65i0 (nI b) (nI dp) (nI (if 10 < x then 1 else 0)) T := by
      by_cases q : 10 < x
      · rw [if_neg (show ¬ nI x ≤ (10 : Int32) from fun z => by have := (nI_leI (b := 10) (by omega) (by omega)).mp z; omega), if_pos q]; rfl
      · rw [if_pos (show nI x ≤ (10 : Int32) from nI_le (b := 10) (by omega) (by omega)), if_neg q]; rfl
    rw [e1] at e0
    have hu' : uc (x :: P) = (if 10 < x then 1 else 0) + uc P := rfl
    rw [hu'] at hu
    generalize (if 10 < x then 1 else 0) = y at e0 hu hu'
    have hm1 : MS T0 p K (x :: P ++ O) (dp - y) k (u1 T 0 31 (nI (dp - y))) := by
      refine ⟨?_, ?_, ?_, by rw [rd_1, if_pos rfl, if_pos rfl], ?_, by rw [ne_u1 _ _ _ (by decide)]; exact a6, by rw [ne_u1 _ _ _ (by decide)]; exact a7, MB_0 bb (by decide)⟩
      · rw [rd_1, if_pos rfl, if_neg (by decide)]; exact a1
      · rw [rd_1, if_pos rfl, if_neg (by decide)]; exact a2
      · rw [rd_1, if_pos rfl, if_neg (by decide)]; exact a3
      · rw [rd_1, if_pos rfl, if_neg (by decide)]; exact a5
    obtain ⟨T2, c1, c2, c3⟩ := m_code (c := x) hm1 (by omega)
    obtain ⟨d1, d2, d3, d4, d5, d6, d7, d8⟩ := id c2
    unfold f_X12_unwinds_65i0 at e0
    rw [pk_sub (by omega), zb_l, hm1.2.2.1, hlen, show nI ((P ++ O).length + 1) - (1 : Int32) = nI (P ++ O).length from pk_sub (b := 1) (by omega), zb_an _ (by omega) (by omega), cl_n (by omega), show (u1 T 0 31 (nI (dp - y))).1 18 (P ++ O).length = nI x by rw [ne_u1 _ _ _ (by decide)]; exact s1', c1, zb_s, d3, hlen, show nI ((P ++ O).length + 1) - (1 : Int32) = nI (P ++ O).length from pk_sub (b := 1) (by omega), zb_l] at e0
    have hm2 : MS T0 p (K ++ [x]) (P ++ O) (dp - y) k (u1 T2 0 30 (nI (P ++ O).length)) := by
      refine ⟨?_, ?_, by rw [rd_1, if_pos rfl, if_pos rfl], ?_, ?_, by rw [ne_u1 _ _ _ (by decide)]; exact d6, by rw [ne_u1 _ _ _ (by decide)]; exact (stk_top (r := P ++ O) d7).2, MB_0 d8 (by decide)⟩
      · rw [rd_1, if_pos rfl, if_neg (by decide)]; exact d1
      · rw [rd_1, if_pos rfl, if_neg (by decide)]; exact d2
      · rw [rd_1, if_pos rfl, if_neg (by decide)]; exact d4
      · rw [rd_1, if_pos rfl, if_neg (by decide)]; exact d5
    obtain ⟨T3, f1, f2, f3⟩ := m_unwind hb hb2 P O (K ++ [x]) (dp - y) k N _ (fun z hz => hP z (List.mem_cons_of_mem _ hz)) hO (by omega) (by rw [List.length_append]; simp only [List.length_cons, List.length_nil]; omega) (by omega) (by omega) hm2
    refine ⟨T3, ?_, ?_, ?_⟩
    · rw [show N + (x :: P).length + 1 = N + P.length + 1 + 1 from rfl, jx_w_step e0]
      exact f1
    · rw [hu', show dp - (y + uc P) = dp - y - uc P by omega, show K ++ x :: P = K ++ [x] ++ P by rw [List.append_assoc]; rfl]
      exact f2
    · rw [f3, ne_u1 _ _ _ (by decide), c3, ne_u1 _ _ _ (by decide)]
theorem m_unwinds {b : Nat} (hb : 1 ≤ b) (hb2 : b ≤ 6) {P O K : List Nat} {dp k : Nat} {T : St} (hP : ∀ x, x ∈ P → 1 ≤ x ∧ x < 13 ∧ b ≤ bd x) (hO : stp b O) (hl : P.length + O.length ≤ 128) (hk : K.length + P.length ≤ 128) (hu : uc P ≤ dp) (hd : dp ≤ 1000) (h : MS T0 p K (P ++ O) dp k T) : ∃ T', f_X12_unwinds (nI b) T = some T' ∧ MS T0 p (K ++ P) O (dp - uc P) k T' ∧ T'.1 19 = T.1 19 := by
  obtain ⟨T', f1, f2, f3⟩ := m_unwind hb hb2 P O K dp k (FU - P.length - 1) T hP hO hl hk hu hd h
  refine ⟨T', ?_, f2, f3⟩
  unfold f_X12_unwinds f_X12_unwinds_97
  rw [show FU = FU - P.length - 1 + P.length + 1 by unfold FU; omega, f1, zb_s]
