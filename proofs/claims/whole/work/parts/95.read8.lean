variable {S T S0 T0 S' T' : St} {t p : Nat}
/-! a text -/
def XE (S0 S : St) : Prop := (∀ a, a ≠ 18 → a ≠ 20 → S.1 a = S0.1 a) ∧ S.1 18 2 = 0 ∧ S.2 = S0.2
theorem pz_61 (h : XB S0 S) : XE S0 (u1 S 18 2 0) := ⟨fun a h1 h2 => by rw [ne_u1 _ _ _ h1]; exact h.1 a h1 h2, by rw [rd_1, if_pos rfl, if_pos rfl], h.2.2⟩
theorem pz_f {f : Nat} (h : XF S0 f S) : f_X6_parse_46 S = some (nI f, u1 S 18 2 0) := by
  have e : f_X6_parse_61 S = some (nI f, u1 S 18 2 0) := by
    show some ((u1 S 18 2 0).1 18 5, u1 S 18 2 0) = _
    rw [rd_1, if_pos rfl, if_neg (by decide), h.1]
  unfold f_X6_parse_46
  rw [xf_fail h, zb_s, e]
  split <;> rfl
abbrev tZ : Type := (St) ⊕ ((St) ⊕ (St))
def eT (z : tZ) : Option (Int32 × St) := Sum.elim (fun z => f_X12_textRead_24 z) (fun z => Sum.elim (fun z => f_X12_textRead_40 z) (fun z => f_X12_textRead_51 z) z) z
def TxO (S0 T0 : St) (r r2 : Option (Int32 × St)) : Prop := (∃ f S' T', r = some (nI f, S') ∧ f ≤ 120 ∧ XE S0 S' ∧ r2 = some (nI f, T') ∧ MT T0 T') ∨ ∃ (L : Lns) (S' T' : St), r = some (-1, S') ∧ r2 = some (-1, T') ∧ XE S0 S' ∧ MT T0 T' ∧ S'.1 18 3 = nI (flat L).length ∧ cdA (S'.1 20) 0 (flat L) ∧ (flat L).length ≤ 121 ∧ L.length ≤ 61 ∧ L ≠ [] ∧ LM T' 2 0 0 L ∧ T'.1 13 2 = nI L.length ∧ WFl L
theorem qp_text (hp : Rp t S0 T0) : ∀ m p (L : Lns) (K : List Nat) (S T : St) F G, t - p < m → t - p < F → t - p < G → p ≤ t → XS S0 p (flat L) S → TS T0 p L K T → 2 * L.length ≤ p → (flat L).length ≤ p → ∃ S4 z zM, f_X6_readLine S = some S4 ∧ jx_w g_X6_parse_21 F (nI L.length, S4) = some z ∧ jx_w g_X12_textRead_17 G T = some zM ∧ TxO S0 T0 (f_X6_parse_46 z) (eT zM)
  | 0, p, L, K, S, T, F, G, hm0, _, _, _, _, _, _, _ => absurd hm0 (by omega)
  | m + 1, p, L, K, S, T, F, G, hm0, hF, hG, hpt, hx, hT, h2, hfl => by
    have ht := hp.1
    obtain ⟨N, rfl⟩ : ∃ N, F = N + 1 := ⟨F - 1, by omega⟩
    obtain ⟨M, rfl⟩ : ∃ M, G = M + 1 := ⟨G - 1, by omega⟩
    have eM : g_X12_textRead_17 T = b_X12_textRead_17 T := rfl
    unfold b_X12_textRead_17 at eM
    rcases qp_line hp hx hT hpt h2 hfl with ⟨f, S4, T4, a1, a2, a3, a4, a5⟩ | ⟨p', Kx, S4, T4, a1, a2, a3, a4, a5, a6, a7, a8⟩ | ⟨p', l, K', S4, T4, a1, a2, a3, a4, a5, a6, a7⟩
    · have eX : g_X6_parse_21 (nI L.length, S4) = some (.inr S4) := by
        show b_X6_parse_21 (nI L.length) S4 = _
        unfold b_X6_parse_21
        rw [if_neg (show ¬ (120 : Int32) ≤ nI L.length from nI_ge (b := 120) (by omega) (by omega)), xf_go a2 (by decide), zb_2, if_pos rfl]
      rw [a3, zb_2, if_pos rfl] at eM
      refine ⟨S4, S4, _, a1, jx_w_end eX, jx_w_end eM, Or.inl ⟨f, _, T4, pz_f a2, a2.2.1, pz_61 a2.2.2.2, ?_, a5⟩⟩
      show some (T4.1 0 27, T4) = _
      rw [a4]
    · have eX : g_X6_parse_21 (nI L.length, S4) = some (.inr S4) := by
        show b_X6_parse_21 (nI L.length) S4 = _
        unfold b_X6_parse_21
        rw [if_neg (show ¬ (120 : Int32) ≤ nI L.length from nI_ge (b := 120) (by omega) (by omega)), x_go0 hp a3 (by omega) a5, zb_2, if_pos rfl]
      rw [a6, zb_2, if_pos rfl] at eM
      obtain ⟨S5, w1, w2⟩ := x_fail a3 a4 (by omega)
      have e46 : f_X6_parse_46 S4 = f_X6_parse_46 S5 := by
        obtain ⟨b1, b2, b3, b4, b5⟩ := a3
        have e5 : f_X6_parse_46 S5 = f_X6_parse_61 S5 := by
          unfold f_X6_parse_46
          rw [xf_fail w2, zb_s]
          split <;> rfl
        rw [e5]
        unfold f_X6_parse_46
        rw [b5.2.1, hp.2.1, b1, if_neg (nI_ge a1 (by omega)), w1, zb_s]
      refine ⟨S4, S4, _, a2, jx_w_end eX, jx_w_end eM, Or.inl ⟨p', _, T4, by rw [e46]; exact pz_f w2, by omega, pz_61 w2.2.2.2, ?_, a8⟩⟩
      show some (T4.1 0 27, T4) = _
      rw [a7]
    · obtain ⟨t1, t2, t3, t4, t5, t6, t7, t8⟩ := id a7
      have hp4 := Rp_MT hp t8
      have hl1 : (L ++ [l]).length = L.length + 1 := by rw [List.length_append]; rfl
      rw [a6, zb_2, if_neg one_ne, t1, hp4.2.2.1] at eM
      have hn : ¬ (120 : Int32) ≤ nI L.length := nI_ge (b := 120) (by omega) (by omega)
      by_cases q : p' = t
      · subst q
        rw [if_pos rfl] at eM
        have eX : g_X6_parse_21 (nI L.length, S4) = some (.inr S4) := by
          show b_X6_parse_21 (nI L.length) S4 = _
          unfold b_X6_parse_21
          rw [if_neg hn, x_go0 hp a4 a2 (by rw [sg_end (Nat.le_refl _)]; decide), zb_2, if_pos rfl]
        obtain ⟨b1, b2, b3, b4, b5⟩ := a4
        refine ⟨S4, S4, _, a3, jx_w_end eX, jx_w_end eM, Or.inr ⟨L ++ [l], u1 S4 18 2 0, T4, ?_, rfl, pz_61 b5, t8, ?_, by rw [ne_u1 _ _ _ (by decide)]; exact b4, by omega, by omega, by simp, t6, t4, t7⟩⟩
        · unfold f_X6_parse_46 f_X6_parse_61
          rw [b5.2.1, hp.2.1, b1, if_pos (nI_le (Nat.le_refl _) (by omega)), zb_l, show (u1 S4 18 2 0).1 18 5 = -1 by rw [rd_1, if_pos rfl, if_neg (by decide)]; exact b3]
        · rw [rd_1, if_pos rfl, if_neg (by decide)]; exact b2
      · rw [if_neg (fun z => q ((nI_eq (by omega) (by omega)).mp z)), m_sg hp4 t1 a2, zb_2] at eM
        by_cases q2 : sg S0 t p' = 59
        · rw [if_pos q2, t1, nI_1, zb_l] at eM
          obtain ⟨S5, x1, x2⟩ := x_go1 hp a4 a2 q2
          have hT5 : TS T0 (p' + 1) (L ++ [l]) K' (u1 T4 0 27 (nI (p' + 1))) := by
            refine ⟨by rw [rd_1, if_pos rfl, if_pos rfl], by rw [rd_1, if_pos rfl, if_neg (by decide)]; exact t2, t3, by rw [ne_u1 _ _ _ (by decide)]; exact t4, by rw [ne_u1 _ _ _ (by decide)]; exact t5, LM_agree (fun x i hx _ _ => by rw [ne_u1 _ _ _ (by omega)]) (fun i _ _ => by rw [ne_u1 _ _ _ (by decide)]) t6, t7, MT_0 t8 (by decide)⟩
          obtain ⟨S6, z, zM, i1, i2, i3, i4⟩ := qp_text hp m (p' + 1) (L ++ [l]) K' S5 _ N M (by omega) (by omega) (by omega) (by omega) x2 hT5 (by omega) (by omega)
          have eX : g_X6_parse_21 (nI L.length, S4) = some (.inl (nI (L ++ [l]).length, S6)) := by
            show b_X6_parse_21 (nI L.length) S4 = _
            unfold b_X6_parse_21
            rw [if_neg hn, x1, zb_2, if_neg one_ne, i1, zb_s, zb_l, nI_1, hl1]
          exact ⟨S4, z, zM, a3, by rw [jx_w_step eX]; exact i2, by rw [jx_w_step eM]; exact i3, i4⟩
        · rw [if_neg q2] at eM
          have eX : g_X6_parse_21 (nI L.length, S4) = some (.inr S4) := by
            show b_X6_parse_21 (nI L.length) S4 = _
            unfold b_X6_parse_21
            rw [if_neg hn, x_go0 hp a4 a2 q2, zb_2, if_pos rfl]
          obtain ⟨S5, w1, w2⟩ := x_fail a4 (by omega) (by omega)
          have e46 : f_X6_parse_46 S4 = f_X6_parse_46 S5 := by
            obtain ⟨b1, b2, b3, b4, b5⟩ := a4
            have e5 : f_X6_parse_46 S5 = f_X6_parse_61 S5 := by
              unfold f_X6_parse_46
              rw [xf_fail w2, zb_s]
              split <;> rfl
            rw [e5]
            unfold f_X6_parse_46
            rw [b5.2.1, hp.2.1, b1, if_neg (nI_ge (by omega) (by omega)), w1, zb_s]
          refine ⟨S4, S4, _, a3, jx_w_end eX, jx_w_end eM, Or.inl ⟨p', _, T4, by rw [e46]; exact pz_f w2, by omega, pz_61 w2.2.2.2, ?_, t8⟩⟩
          show some (T4.1 0 27, T4) = _
          rw [t1]
theorem qp_parse (hp : Rp t S T) : TxO S T (f_X6_parse S) (f_X12_textRead T) := by
  obtain ⟨S3, e3⟩ : ∃ S3, S3 = u1 (u1 (u1 S 18 4 0) 18 3 0) 18 5 (-1) := ⟨_, rfl⟩
  obtain ⟨T4, e4⟩ : ∃ T4, T4 = u1 (u1 (u1 T 0 27 0) 0 28 0) 13 2 0 := ⟨_, rfl⟩
  have hx : XS S 0 (flat []) S3 := by
    rw [e3]
    refine ⟨?_, ?_, ?_, trivial, XB_18 (XB_18 (XB_18 ⟨fun _ _ _ => rfl, rfl, rfl⟩ (by decide)) (by decide)) (by decide)⟩
    · simp only [rd_1, reduceIte, Nat.reduceEqDiff]; rfl
    · simp only [rd_1, reduceIte, Nat.reduceEqDiff]; rfl
    · simp only [rd_1, reduceIte, Nat.reduceEqDiff]
  have hT : TS T 0 [] [] T4 := by
    rw [e4]
    refine ⟨?_, ?_, rfl, ?_, trivial, trivial, fun l hl => absurd hl List.not_mem_nil, MT_13 (MT_0 (MT_0 MT_rf (by decide)) (by decide))⟩
    · simp only [rd_1, reduceIte, Nat.reduceEqDiff]; rfl
    · simp only [rd_1, reduceIte, Nat.reduceEqDiff]; rfl
    · simp only [rd_1, reduceIte, Nat.reduceEqDiff]; rfl
  have ht := hp.1
  obtain ⟨S4, z, zM, i1, i2, i3, i4⟩ := qp_text hp (t + 1) 0 [] [] S3 T4 FU FU (by omega) (by unfold FU; omega) (by unfold FU; omega) (by omega) hx hT (by simp) (by simp [flat])
  have z23 : ∀ {β : Type} (k : Option β), jx_a (2 : Int32) 3 k = k := fun k => zb_an (j := 2) k (by omega) (by omega)
  have eX : f_X6_parse S = f_X6_parse_46 z := by
    unfold f_X6_parse
    rw [zb_l, zb_l, zb_l, ← e3, i1, zb_s, show ((0 : Int32), S4) = (nI ([] : Lns).length, S4) from rfl, i2, zb_s]
  have eM : f_X12_textRead T = eT zM := by
    unfold f_X12_textRead
    rw [zb_l, zb_l, z23, zb_l, show Int32.toNatClampNeg (2 : Int32) = 2 from rfl, ← e4, i3, zb_s]
    rfl
  rw [eX, eM]
  exact i4
