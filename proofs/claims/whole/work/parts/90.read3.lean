variable {S T S0 T0 : St} {t p : Nat}
/-! an operand is read by both -/
abbrev eZ : Type := (St) ⊕ ((St) ⊕ ((St) ⊕ (St)))
def eE (z : eZ) : Option (Int32 × St) := Sum.elim (fun z => f_X12_eRead_91 z) (fun z => Sum.elim (fun z => f_X12_eRead_101 z) (fun z => Sum.elim (fun z => f_X12_eRead_136 z) (fun z => f_X12_eRead_210 z) z) z) z
/-- the reference stops at a fault -/
def MFail (T0 : St) (t p f : Nat) (w : Int32) (T : St) : Prop := ∃ kk, kk ≤ t - p ∧ ∃ (z : eZ) (T' : St), (∀ G, jx_w g_X12_eRead_24 (G + kk + 1) (w, T) = some z) ∧ eE z = some (0, T') ∧ T'.1 0 27 = nI f ∧ MB T0 T'
def Bad (S0 T0 : St) (t p : Nat) (r : Option St) (w : Int32) (T : St) : Prop := ∃ f S', r = some S' ∧ XF S0 f S' ∧ MFail T0 t p f w T
def Spec (S0 T0 : St) (t : Nat) (rc : Int32 → Int32 → St → Option St) (lo op : Nat) : Prop :=
  ∀ (p : Nat) (KX KM U O : List Nat) (k : Nat) (c : Bool) (S T : St), XS S0 p KX S → MS T0 p KM (U ++ O) op k T → k ≤ op → T.1 19 k = tb c → (lo ≤ 3 → c = false) → (U ≠ [] → lo = 6) → (∀ x, x ∈ U → x = 11 ∨ x = 12) → U.length ≤ op → stp lo O → p ≤ t → KX.length ≤ p + 1 → KM.length + U.length + O.length ≤ p →
  Bad S0 T0 t p (rc (nI lo) (nI op) S) 1 T ∨ ∃ (p' : Nat) (R P Q : List Nat) (S' T' : St) (kk : Nat) (c' : Bool), p < p' ∧ p' ≤ t ∧ rc (nI lo) (nI op) S = some S' ∧ XS S0 p' (KX ++ R) S' ∧ kk ≤ p' - p ∧ (∀ G, jx_w g_X12_eRead_24 (G + kk) (1, T) = jx_w g_X12_eRead_24 G (0, T')) ∧ MS T0 p' (KM ++ Q) (P ++ O) (op - U.length) k T' ∧ Q ++ P = R.map mu ++ U ∧ (∀ x, x ∈ P → 1 ≤ x ∧ x ≤ 10 ∧ lo ≤ bd x) ∧ WFx R ∧ R.length ≤ p' - p ∧ T'.1 19 k = tb c' ∧ (4 ≤ lo → c' = c) ∧ (∀ i, i < k → T'.1 19 i = T.1 19 i) ∧ (rk (sg S0 t p') < lo ∨ (rk (sg S0 t p') = 3 ∧ c' = true ∧ lo ≤ 3))
theorem mf_step {f n p1 : Nat} {w w1 : Int32} {T1 : St} (h : ∀ G, jx_w g_X12_eRead_24 (G + n) (w, T) = jx_w g_X12_eRead_24 G (w1, T1)) (hp : p + n ≤ p1) (h1 : p1 ≤ t) (hf : MFail T0 t p1 f w1 T1) : MFail T0 t p f w T := by
  obtain ⟨kk, k1, z, T', k2, k3⟩ := hf
  refine ⟨kk + n, by omega, z, T', fun G => ?_, k3⟩
  rw [show G + (kk + n) + 1 = G + kk + 1 + n by omega, h]
  exact k2 G
theorem mf_now {f : Nat} {w : Int32} {z : eZ} {T' : St} (h : g_X12_eRead_24 (w, T) = some (.inr z)) (h2 : eE z = some (0, T')) (h3 : T'.1 0 27 = nI f) (h4 : MB T0 T') : MFail T0 t p f w T := ⟨0, by omega, z, T', fun G => jx_w_end h, h2, h3, h4⟩
theorem st1 {w w1 : Int32} {T1 : St} (h : g_X12_eRead_24 (w, T) = some (.inl (w1, T1))) (G : Nat) : jx_w g_X12_eRead_24 (G + 1) (w, T) = jx_w g_X12_eRead_24 G (w1, T1) := jx_w_step h
theorem wf_leaf {c : Nat} (h : c < 10007) : WFx [c] := fun d => by
  have k0 : nops c = 0 := if_pos (by omega)
  exact ⟨Or.inl h, by omega, by show d - nops c + 1 = d + 1; omega⟩
theorem wf_un {c : Nat} {R : List Nat} (h : WFx R) (hc : c = 30000 ∨ c = 30033) : WFx (R ++ [c]) := fun d => by
  have k1 : nops c = 1 := by unfold nops; rw [if_neg (by omega), if_pos hc]
  refine WFd_app (h d) ⟨?_, by omega, by show d + 1 - nops c + 1 = d + 1; omega⟩
  unfold tok; omega
theorem m_leaf {K U O : List Nat} {dp k : Nat} (hU : ∀ x, x ∈ U → x = 11 ∨ x = 12) (hUl : U.length ≤ dp) (hO : stp 6 O) (hd : dp ≤ 6) (hl : K.length + U.length + O.length ≤ 120) (h : MS T0 p K (U ++ O) dp k T) : ∃ T', f_X12_unwinds 6 T = some T' ∧ MS T0 p (K ++ U) O (dp - U.length) k T' ∧ T'.1 19 = T.1 19 := by
  have h6 : bd 11 = 6 ∧ bd 12 = 6 := ⟨rfl, rfl⟩
  obtain ⟨T', f1, f2, f3⟩ := m_unwinds (b := 6) (by omega) (by omega) (P := U) (fun x hx => by
    rcases hU x hx with q | q <;> subst q
    · exact ⟨by omega, by omega, by omega⟩
    · exact ⟨by omega, by omega, by omega⟩) hO (by omega) (by omega) (by rw [uc_n hU]; exact hUl) (by omega) h
  rw [uc_n hU] at f2
  exact ⟨T', f1, f2, f3⟩
/-- nothing goes on: the reference ends there -/
theorem m_stop {K P O : List Nat} {dp k : Nat} {c : Bool} (hp : Rp t S0 T0) (hpt : p ≤ t) (h41 : ¬ sg S0 t p = 41) (hP : ∀ x, x ∈ P → 1 ≤ x ∧ x ≤ 10) (hd : dp ≤ 6) (hk : k + 1 ≤ 6) (hl : K.length + P.length + O.length < 120) (h : MS T0 p K (P ++ 0 :: O) dp (k + 1) T) (hf : T.1 19 (k + 1) = tb c) (he : rk (sg S0 t p) < 1 ∨ (rk (sg S0 t p) = 3 ∧ c = true)) : MFail T0 t p p 0 T := by
  have eM : g_X12_eRead_24 (0, T) = b_X12_eRead_24 0 T := rfl
  unfold b_X12_eRead_24 at eM
  rw [m_sign hp h hpt, zb_2, if_pos rfl] at eM
  have b1 : ∀ x, 1 ≤ x → 1 ≤ bd x := fun x hx => by unfold bd; split; omega; split; omega; split; omega; split <;> omega
  rcases op_all (sg S0 t p) with ⟨o1, o2, o3⟩ | ⟨cc, o1, o2, o3, o4, o5, o6, o7, o8, o9, o10, o11⟩
  · rw [o3, zb_2, if_pos (show nI 0 ≤ 0 from by decide), if_neg h41] at eM
    have h0 : bd 0 = 0 := rfl
    obtain ⟨T1, f1, f2, f3⟩ := m_unwinds (b := 1) (by omega) (by omega) (P := P) (fun x hx => ⟨(hP x hx).1, by have := (hP x hx).2; omega, b1 x (hP x hx).1⟩) (O := 0 :: O) (fun x r e => by obtain ⟨rfl, rfl⟩ := List.cons.inj e; exact ⟨by omega, Or.inl rfl⟩) (by simp only [List.length_cons]; omega) (by omega) (by rw [uc_0 (fun x hx => (hP x hx).2)]; omega) (by omega) h
    refine mf_now eM (T' := T1) ?_ f2.1 f2.2.2.2.2.2.2.2
    show f_X12_eRead_210 T = _
    unfold f_X12_eRead_210
    rw [show (1 : Int32) = nI 1 from rfl, f1, zb_s, f2.2.2.2.2.1, if_neg (fun z => by rw [show (0 : Int32) = nI 0 from rfl, nI_eq (by omega) (by omega)] at z; omega)]
  · have he2 : rk (sg S0 t p) = 3 ∧ c = true := by rcases he with q | q; omega; exact q
    rw [o4, zb_2, if_neg (nI_nle (by omega) (by omega)), o4, zb_2, m_goesN (by omega) o6 hk (by rw [hf, he2.2]) h, zb_2, if_pos rfl] at eM
    exact mf_now eM rfl h.1 h.2.2.2.2.2.2.2
theorem m_close {K P U O : List Nat} {dp k : Nat} (hp : Rp t S0 T0) (hpt : p ≤ t) (h41 : sg S0 t p = 41) (hP : ∀ x, x ∈ P → 1 ≤ x ∧ x ≤ 10) (hd : dp + 1 ≤ 6) (hk : k + 1 ≤ 6) (hU : ∀ x, x ∈ U → x = 11 ∨ x = 12) (hUl : U.length ≤ dp) (hO : stp 6 O) (hl : K.length + P.length + U.length + O.length < 120) (h : MS T0 p K (P ++ 0 :: (U ++ O)) (dp + 1) (k + 1) T) : ∃ T', g_X12_eRead_24 (0, T) = some (.inl (0, T')) ∧ MS T0 (p + 1) (K ++ P ++ U) O (dp - U.length) k T' ∧ T'.1 19 = T.1 19 := by
  have eM : g_X12_eRead_24 (0, T) = b_X12_eRead_24 0 T := rfl
  unfold b_X12_eRead_24 at eM
  have b1 : ∀ x, 1 ≤ x → 1 ≤ bd x := fun x hx => by unfold bd; split; omega; split; omega; split; omega; split <;> omega
  have h0 : bd 0 = 0 := rfl
  obtain ⟨T1, f1, f2, f3⟩ := m_unwinds (b := 1) (by omega) (by omega) (P := P) (fun x hx => ⟨(hP x hx).1, by have := (hP x hx).2; omega, b1 x (hP x hx).1⟩) (O := 0 :: (U ++ O)) (fun x r e => by obtain ⟨rfl, rfl⟩ := List.cons.inj e; exact ⟨by omega, Or.inl rfl⟩) (by simp only [List.length_cons, List.length_append]; omega) (by omega) (by rw [uc_0 (fun x hx => (hP x hx).2)]; omega) (by omega) h
  rw [uc_0 (fun x hx => (hP x hx).2), Nat.sub_zero] at f2
  obtain ⟨a1, a2, a3, a4, a5, a6, a7, bb⟩ := id f2
  rw [m_sign hp h hpt, zb_2, if_pos rfl, h41, show f_X12_opOf 41 T = some (0, T) from rfl, zb_2, if_pos (show (0 : Int32) ≤ 0 by decide), if_pos rfl, h.2.2.2.2.1, if_neg (nI_nle (by omega) (by omega)), show f_X12_unwinds (1 : Int32) T = some T1 from f1, zb_s] at eM
  simp only [zb_l] at eM
  rw [show T1.1 0 30 - 1 = nI (U ++ O).length from by rw [a3]; exact pk_sub (b := 1) (by simp)] at eM
  rw [show (u1 T1 0 30 (nI (U ++ O).length)).1 0 31 - 1 = nI dp from by rw [rd_1, if_pos rfl, if_neg (by decide), a4]; exact pk_sub (b := 1) (by omega)] at eM
  rw [show (u1 (u1 T1 0 30 (nI (U ++ O).length)) 0 31 (nI dp)).1 0 33 - 1 = nI k from by rw [rd_1, if_pos rfl, if_neg (by decide), rd_1, if_pos rfl, if_neg (by decide), a5]; exact pk_sub (b := 1) (by omega)] at eM
  rw [show (u1 (u1 (u1 T1 0 30 (nI (U ++ O).length)) 0 31 (nI dp)) 0 33 (nI k)).1 0 27 + 1 = nI (p + 1) from by rw [rd_1, if_pos rfl, if_neg (by decide), rd_1, if_pos rfl, if_neg (by decide), rd_1, if_pos rfl, if_neg (by decide), a1, nI_1]] at eM
  have hm : MS T0 (p + 1) (K ++ P) (U ++ O) dp k (u1 (u1 (u1 (u1 T1 0 30 (nI (U ++ O).length)) 0 31 (nI dp)) 0 33 (nI k)) 0 27 (nI (p + 1))) := by
    refine ⟨?_, ?_, ?_, ?_, ?_, ?_, ?_, MB_0 (MB_0 (MB_0 (MB_0 bb (by decide)) (by decide)) (by decide)) (by decide)⟩
    · simp only [rd_1, reduceIte]
    · simp only [rd_1, reduceIte, Nat.reduceEqDiff]; exact a2
    · simp only [rd_1, reduceIte, Nat.reduceEqDiff]
    · simp only [rd_1, reduceIte, Nat.reduceEqDiff]
    · simp only [rd_1, reduceIte, Nat.reduceEqDiff]
    · rw [ne_u1 _ _ _ (by decide), ne_u1 _ _ _ (by decide), ne_u1 _ _ _ (by decide), ne_u1 _ _ _ (by decide)]; exact a6
    · rw [ne_u1 _ _ _ (by decide), ne_u1 _ _ _ (by decide), ne_u1 _ _ _ (by decide), ne_u1 _ _ _ (by decide)]; exact (stk_top a7).2
  obtain ⟨T2, g1, g2, g3⟩ := m_leaf hU hUl hO (by omega) (by rw [List.length_append]; omega) hm
  rw [g1, zb_s] at eM
  exact ⟨T2, eM, g2, by rw [g3, ne_u1 _ _ _ (by decide), ne_u1 _ _ _ (by decide), ne_u1 _ _ _ (by decide), ne_u1 _ _ _ (by decide), f3]⟩
