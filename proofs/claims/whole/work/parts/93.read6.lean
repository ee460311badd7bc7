variable {S T S0 T0 : St} {t p : Nat}
/-! one expression, one line -/
theorem qp_expr {KX K : List Nat} (hp : Rp t S0 T) (hx : XS S0 p KX S) (h27 : T.1 0 27 = nI p) (h28 : T.1 0 28 = nI K.length) (h17 : cdA (T.1 17) 256 K) (hpt : p ≤ t) (hKX : KX.length ≤ p + 1) (hKM : K.length ≤ p) : (∃ f S' T', f_X6_readJoined 60 (1 : Int32) (0 : Int32) S = some S' ∧ XF S0 f S' ∧ f_X12_eRead T = some (0, T') ∧ T'.1 0 27 = nI f ∧ MB T T') ∨ ∃ (p' : Nat) (R : List Nat) (S' T' : St), p < p' ∧ p' ≤ t ∧ f_X6_readJoined 60 (1 : Int32) (0 : Int32) S = some S' ∧ XS S0 p' (KX ++ R) S' ∧ WFx R ∧ R.length ≤ p' - p ∧ ((f_X12_eRead T = some (1, T') ∧ MS T p' (K ++ R.map mu) [] 0 0 T') ∨ (f_X12_eRead T = some (0, T') ∧ T'.1 0 27 = nI p' ∧ MB T T' ∧ rk (sg S0 t p') = 3)) := by
  have ht := hp.1
  obtain ⟨T5, e5⟩ : ∃ T5, T5 = u1 (u1 (u1 (u1 T 0 30 0) 0 31 0) 0 33 0) 19 0 0 := ⟨_, rfl⟩
  have hm : MS T p K [] 0 0 T5 := by
    rw [e5]
    refine ⟨?_, ?_, ?_, ?_, ?_, ?_, ?_, MB_19 (MB_0 (MB_0 (MB_0 MB_rf (by decide)) (by decide)) (by decide))⟩
    · simp only [rd_1, reduceIte, Nat.reduceEqDiff]; exact h27
    · simp only [rd_1, reduceIte, Nat.reduceEqDiff]; exact h28
    · simp only [rd_1, reduceIte, Nat.reduceEqDiff]; rfl
    · simp only [rd_1, reduceIte, Nat.reduceEqDiff]; rfl
    · simp only [rd_1, reduceIte, Nat.reduceEqDiff]; rfl
    · rw [ne_u1 _ _ _ (by decide), ne_u1 _ _ _ (by decide), ne_u1 _ _ _ (by decide), ne_u1 _ _ _ (by decide)]; exact h17
    · trivial
  have hf : T5.1 19 0 = tb false := by rw [e5, rd_1, if_pos rfl, if_pos rfl]; rfl
  have eR : f_X12_eRead T = jx_b (jx_w g_X12_eRead_24 FU (1, T5)) eE := by
    rw [e5]
    unfold f_X12_eRead
    have z8 : ∀ {β : Type} (k : Option β), jx_a (0 : Int32) 8 k = k := fun k => zb_an (j := 0) k (by omega) (by omega)
    rw [zb_l, zb_l, zb_l, z8]
    rfl
  rcases qp_rj hp 60 1 0 (by omega) (by omega) (by omega) (by omega) p KX K [] [] 0 false S T5 hx hm (by omega) hf (fun _ => rfl) (fun e => absurd rfl e) (fun x hxx => absurd hxx List.not_mem_nil) (by simp) (fun x r e => by cases e) hpt hKX (by simp only [List.length_nil]; omega) with ⟨f, S', b1, b2, kk, b3, z, T', b4, b5, b6, b7⟩ | ⟨p', R, P, Q, S', T', kk, c', g1, g2, g3, g4, g5, g6, g7, g8, g9, g10, g11, g12, g13, g14, g15⟩
  · refine Or.inl ⟨f, S', T', b1, b2, ?_, b6, b7⟩
    have := b4 (FU - kk - 1)
    rw [show FU - kk - 1 + kk + 1 = FU by unfold FU; omega] at this
    rw [eR, this, zb_s, b5]
  · rw [List.append_nil] at g7 g8
    refine Or.inr ?_
    have hlen : Q.length + P.length = R.length := by rw [← List.length_append, g8, List.length_map]
    have st := g6 (FU - kk - 1 + 1)
    rw [show FU - kk - 1 + 1 + kk = FU by unfold FU; omega] at st
    have eM : g_X12_eRead_24 (0, T') = b_X12_eRead_24 0 T' := rfl
    unfold b_X12_eRead_24 at eM
    rw [m_sign hp g7 g2, zb_2, if_pos rfl] at eM
    have b1 : ∀ x, 1 ≤ x → 1 ≤ bd x := fun x hx => by unfold bd; split; omega; split; omega; split; omega; split <;> omega
    have fin : g_X12_eRead_24 (0, T') = some (.inr (.inr (.inr (.inr T')))) → ∃ T9, f_X12_eRead T = some (1, T9) ∧ MS T p' (K ++ R.map mu) [] 0 0 T9 := fun e => by
      obtain ⟨T9, f1, f2, f3⟩ := m_unwinds (b := 1) (O := []) (P := P) (K := K ++ Q) (dp := 0) (k := 0) (by omega) (by omega) (fun x hx => ⟨(g9 x hx).1, by have := (g9 x hx).2.1; omega, b1 x (g9 x hx).1⟩) (fun x r e => by cases e) (by simp only [List.length_nil]; omega) (by simp only [List.length_append]; omega) (by rw [uc_0 (fun x hx => (g9 x hx).2.1)]; omega) (by omega) (by rw [List.append_nil]; exact g7)
      rw [List.append_assoc, g8, uc_0 (fun x hx => (g9 x hx).2.1)] at f2
      refine ⟨T9, ?_, f2⟩
      rw [eR, st, jx_w_end e, zb_s]
      show f_X12_eRead_210 T' = _
      unfold f_X12_eRead_210
      rw [show f_X12_unwinds (1 : Int32) T' = some T9 from f1, zb_s, f2.2.2.2.2.1, if_pos (show nI 0 = 0 from rfl)]
    rcases op_all (sg S0 t p') with ⟨o1, o2, o3⟩ | ⟨cc, o1, o2, o3, o4, o5, o6, o7, o8, o9, o10, o11⟩
    · rw [o3, zb_2, if_pos (show nI 0 ≤ 0 from by decide), g7.2.2.2.2.1, if_pos (show nI 0 ≤ 0 from by decide)] at eM
      have eM2 : g_X12_eRead_24 (0, T') = some (.inr (.inr (.inr (.inr T')))) := by
        rw [eM]
        split <;> rfl
      obtain ⟨T9, f1, f2⟩ := fin eM2
      exact ⟨p', R, S', T9, g1, g2, g3, g4, g10, g11, Or.inl ⟨f1, f2⟩⟩
    · have he2 : rk (sg S0 t p') = 3 ∧ c' = true := by
        rcases g15 with q | q
        · omega
        · exact ⟨q.1, q.2.1⟩
      rw [o4, zb_2, if_neg (nI_nle (by omega) (by omega)), o4, zb_2, m_goesN (by omega) o6 (by omega) (by rw [g12, he2.2]) g7, zb_2, if_pos rfl] at eM
      refine ⟨p', R, S', T', g1, g2, g3, g4, g10, g11, Or.inr ⟨?_, g7.1, g7.2.2.2.2.2.2.2, he2.1⟩⟩
      rw [eR, st, jx_w_end eM, zb_s]
      rfl
/-- the frame of a text's reading -/
def MT (T0 T : St) : Prop := (∀ a, a ≠ 0 → a ≠ 13 → a ≠ 14 → a ≠ 15 → a ≠ 16 → a ≠ 17 → a ≠ 18 → a ≠ 19 → T.1 a = T0.1 a) ∧ (∀ j, j ∉ [27, 28, 30, 31, 33] → T.1 0 j = T0.1 0 j) ∧ (∀ i, i < 2 → T.1 13 i = T0.1 13 i) ∧ (∀ i, i < 128 → T.1 14 i = T0.1 14 i ∧ T.1 15 i = T0.1 15 i ∧ T.1 16 i = T0.1 16 i) ∧ (∀ i, i < 256 → T.1 17 i = T0.1 17 i) ∧ T.2 = T0.2
theorem MT_rf : MT T0 T0 := ⟨fun _ _ _ _ _ _ _ _ _ => rfl, fun _ _ => rfl, fun _ _ => rfl, fun _ _ => ⟨rfl, rfl, rfl⟩, fun _ _ => rfl, rfl⟩
theorem MT_MB {T' : St} (h : MT T0 T) (h2 : MB T T') : MT T0 T' := by
  obtain ⟨a1, a2, a3, a4, a5, a6⟩ := h
  obtain ⟨b1, b2, b3, b4⟩ := h2
  refine ⟨fun a h0 h13 h14 h15 h16 h17 h18 h19 => by rw [b1 a h0 h17 h18 h19, a1 a h0 h13 h14 h15 h16 h17 h18 h19], fun j hj => by rw [b2 j hj, a2 j hj], fun i hi => by rw [b1 13 (by decide) (by decide) (by decide) (by decide), a3 i hi], fun i hi => ?_, fun i hi => by rw [b3 i hi, a5 i hi], by rw [b4, a6]⟩
  rw [b1 14 (by decide) (by decide) (by decide) (by decide), b1 15 (by decide) (by decide) (by decide) (by decide), b1 16 (by decide) (by decide) (by decide) (by decide)]
  exact a4 i hi
theorem MT_0 {j : Nat} {v : Int32} (h : MT T0 T) (hj : j ∈ [27, 28, 30, 31, 33]) : MT T0 (u1 T 0 j v) := MT_MB h (MB_0 MB_rf hj)
theorem MT_r {r i : Nat} {v : Int32} (h : MT T0 T) (hr : r = 14 ∨ r = 15 ∨ r = 16) (hi : 128 ≤ i) : MT T0 (u1 T r i v) := by
  obtain ⟨a1, a2, a3, a4, a5, a6⟩ := h
  refine ⟨fun a h0 h13 h14 h15 h16 h17 h18 h19 => by rw [ne_u1 _ _ _ (by omega)]; exact a1 a h0 h13 h14 h15 h16 h17 h18 h19, fun j hj => by rw [ne_u1 _ _ _ (by omega)]; exact a2 j hj, fun j hj => by rw [ne_u1 _ _ _ (by omega)]; exact a3 j hj, fun j hj => ?_, fun j hj => by rw [ne_u1 _ _ _ (by omega)]; exact a5 j hj, a6⟩
  have key : ∀ b, (u1 T r i v).1 b j = T.1 b j := fun b => by
    rw [rd_1]
    split
    · rename_i e
      rw [if_neg (by omega), e]
    · rfl
  rw [key, key, key]
  exact a4 j hj
theorem MT_13 {v : Int32} (h : MT T0 T) : MT T0 (u1 T 13 2 v) := by
  obtain ⟨a1, a2, a3, a4, a5, a6⟩ := h
  refine ⟨fun a h0 h13 h14 h15 h16 h17 h18 h19 => by rw [ne_u1 _ _ _ h13]; exact a1 a h0 h13 h14 h15 h16 h17 h18 h19, fun j hj => by rw [ne_u1 _ _ _ (by omega)]; exact a2 j hj, fun j hj => by rw [rd_1, if_pos rfl, if_neg (by omega)]; exact a3 j hj, fun j hj => ?_, fun j hj => by rw [ne_u1 _ _ _ (by omega)]; exact a5 j hj, a6⟩
  rw [ne_u1 _ _ _ (by decide), ne_u1 _ _ _ (by decide), ne_u1 _ _ _ (by decide)]
  exact a4 j hj
theorem Rp_MT (hp : Rp t S0 T0) (h : MT T0 T) : Rp t S0 T := by
  obtain ⟨a1, a2, a3, a4⟩ := hp
  refine ⟨a1, a2, by rw [h.2.1 18 (by decide)]; exact a3, fun i hi => ?_⟩
  rw [h.1 11 (by decide) (by decide) (by decide) (by decide) (by decide) (by decide) (by decide) (by decide)]
  exact a4 i hi
theorem cdA_val {f : Nat → Int32} : ∀ {K : List Nat} {q i : Nat}, cdA f q K → i < K.length → ∃ c, f (q + i) = nI c ∧ K[i]? = some c
  | c :: K, q, 0, h, _ => ⟨c, h.1, rfl⟩
  | c :: K, q, i + 1, h, hi => by
    obtain ⟨d, d1, d2⟩ := cdA_val (i := i) h.2 (by simp only [List.length_cons] at hi; omega)
    exact ⟨d, by rw [show q + (i + 1) = q + 1 + i by omega]; exact d1, d2⟩
theorem cdA_eq {f g : Nat → Int32} {K : List Nat} {q i : Nat} (hf : cdA f q K) (hg : cdA g q K) (h1 : q ≤ i) (h2 : i < q + K.length) : g i = f i := by
  obtain ⟨c, c1, c2⟩ := cdA_val (i := i - q) hf (by omega)
  obtain ⟨d, d1, d2⟩ := cdA_val (i := i - q) hg (by omega)
  rw [show q + (i - q) = i by omega] at c1 d1
  rw [c2] at d2
  rw [c1, d1, Option.some.inj d2]
theorem LM_agree {T' : St} {w : Nat} : ∀ {L : Lns} {k o : Nat}, (∀ a i, a = 14 ∨ a = 15 ∨ a = 16 → 64 * w + k ≤ i → i < 64 * w + k + L.length → T'.1 a i = T.1 a i) → (∀ i, 128 * w + o ≤ i → i < 128 * w + o + szM L → T'.1 17 i = T.1 17 i) → LM T w k o L → LM T' w k o L
  | [], _, _, _, _, _ => trivial
  | l :: r, k, o, h1, h2, h => by
    have e : szM (l :: r) = l.1.length + l.2.length + szM r := rfl
    rw [e] at h2
    simp only [List.length_cons] at h1
    obtain ⟨a1, a2, a3, a4, a5, a6⟩ := h
    refine ⟨?_, ?_, ?_, cdA_congr (fun i i1 i2 => h2 i (by omega) (by rw [List.length_map] at i2; omega)) a4, cdA_congr (fun i i1 i2 => h2 i (by omega) (by rw [List.length_map] at i2; omega)) a5, LM_agree (fun a i i0 i1 i2 => h1 a i i0 (by omega) (by omega)) (fun i i1 i2 => h2 i (by omega) (by omega)) a6⟩
    · rw [h1 14 _ (Or.inl rfl) (by omega) (by omega)]; exact a1
    · rw [h1 15 _ (Or.inr (Or.inl rfl)) (by omega) (by omega)]; exact a2
    · rw [h1 16 _ (Or.inr (Or.inr rfl)) (by omega) (by omega)]; exact a3
theorem LM_snoc {w : Nat} {l : List Nat × List Nat} : ∀ {L : Lns} {k o : Nat}, LM T w k o L → LM T w (k + L.length) (o + szM L) [l] → LM T w k o (L ++ [l])
  | [], _, _, _, h2 => h2
  | l2 :: r, k, o, h, h2 => by
    obtain ⟨a1, a2, a3, a4, a5, a6⟩ := h
    refine ⟨a1, a2, a3, a4, a5, LM_snoc a6 ?_⟩
    have e : szM (l2 :: r) = l2.1.length + l2.2.length + szM r := rfl
    rw [e, List.length_cons] at h2
    rw [show k + 1 + r.length = k + (r.length + 1) by omega, show o + l2.1.length + l2.2.length + szM r = o + (l2.1.length + l2.2.length + szM r) by omega]
    exact h2
theorem flat_snoc {l : List Nat × List Nat} : ∀ {L : Lns}, flat (L ++ [l]) = flat L ++ (l.1 ++ (l.2 ++ [if l.1 = [] then 20000 else 20001]))
  | [] => rfl
  | l2 :: r => by
    show l2.1 ++ (l2.2 ++ (_ :: flat (r ++ [l]))) = (l2.1 ++ (l2.2 ++ (_ :: flat r))) ++ _
    rw [flat_snoc]
    simp only [List.append_assoc, List.cons_append]
theorem szM_snoc {l : List Nat × List Nat} : ∀ {L : Lns}, szM (L ++ [l]) = szM L + l.1.length + l.2.length
  | [] => by show l.1.length + l.2.length + 0 = 0 + l.1.length + l.2.length; omega
  | l2 :: r => by
    show l2.1.length + l2.2.length + szM (r ++ [l]) = l2.1.length + l2.2.length + szM r + l.1.length + l.2.length
    rw [szM_snoc]; omega
