variable {S T S0 T0 : St} {t p : Nat}
/-! lines of a text -/
def TS (T0 : St) (p : Nat) (L : Lns) (K : List Nat) (T : St) : Prop := T.1 0 27 = nI p ∧ T.1 0 28 = nI K.length ∧ K.length = szM L ∧ T.1 13 2 = nI L.length ∧ cdA (T.1 17) 256 K ∧ LM T 2 0 0 L ∧ WFl L ∧ MT T0 T
theorem m_sg (hp : Rp t S0 T) (h27 : T.1 0 27 = nI p) (hpt : p ≤ t) : f_X12_sign T = some (sg S0 t p, T) := by
  obtain ⟨ht, hS, hT, hv⟩ := hp
  unfold f_X12_sign sg
  rw [h27, hT]
  by_cases q : p < t
  · rw [if_neg (nI_ge q (by omega)), zb_an _ (by omega) (by omega), cl_n (by omega), if_pos q, (hv p q).1]
  · rw [if_pos (nI_le (by omega) (by omega)), if_neg q]
/-- the line that is being read -/
def TL (T0 : St) (L : Lns) (K K1 : List Nat) (a b : Nat) (T : St) : Prop := cdA (T.1 17) 256 (K ++ K1) ∧ T.1 14 (128 + L.length) = nI a ∧ T.1 15 (128 + L.length) = nI b ∧ T.1 13 2 = nI L.length ∧ LM T 2 0 0 L ∧ MT T0 T
theorem TL_MB {L : Lns} {K K1 K2 : List Nat} {a b : Nat} {T' : St} (h : TL T0 L K K1 a b T) (hK : K.length = szM L) (hM : MB T T') (hc : cdA (T'.1 17) 256 (K ++ (K1 ++ K2))) : TL T0 L K (K1 ++ K2) a b T' := by
  obtain ⟨h1, h2, h3, h4, h5, h6⟩ := h
  have c1 : cdA (T.1 17) 256 K := (cdA_app.mp h1).1
  have c2 : cdA (T'.1 17) 256 K := (cdA_app.mp hc).1
  refine ⟨hc, by rw [hM.1 14 (by decide) (by decide) (by decide) (by decide)]; exact h2, by rw [hM.1 15 (by decide) (by decide) (by decide) (by decide)]; exact h3, by rw [hM.1 13 (by decide) (by decide) (by decide) (by decide)]; exact h4, LM_agree (fun x i hx i1 i2 => ?_) (fun i i1 i2 => cdA_eq c1 c2 (by omega) (by omega)) h5, MT_MB h6 hM⟩
  rw [hM.1 x (by omega) (by omega) (by omega) (by omega)]
theorem p_end {L : Lns} {K : List Nat} {l : List Nat × List Nat} (hK : K.length = szM L) (hw : WFl L) (hl : (l.1 = [] ∨ WFx l.1) ∧ WFx l.2) (hL : L.length < 64) (h27 : T.1 0 27 = nI p) (h28 : T.1 0 28 = nI (K ++ (l.1.map mu ++ l.2.map mu)).length) (h : TL T0 L K (l.1.map mu ++ l.2.map mu) K.length (K.length + l.1.length) T) : ∃ T', f_X12_lineRead_78 (nI (128 + L.length)) T = some (1, T') ∧ TS T0 p (L ++ [l]) (K ++ (l.1.map mu ++ l.2.map mu)) T' := by
  obtain ⟨h1, h2, h3, h4, h5, h6⟩ := h
  have z23 : ∀ {β : Type} (k : Option β), jx_a (2 : Int32) 3 k = k := fun k => zb_an (j := 2) k (by omega) (by omega)
  unfold f_X12_lineRead_78
  rw [zb_an _ (by omega) (by omega), cl_n (by omega), zb_l, z23, z23, zb_l]
  obtain ⟨c1, c2⟩ := cdA_app.mp h1
  obtain ⟨c3, c4⟩ := cdA_app.mp c2
  have r2 : Int32.toNatClampNeg (2 : Int32) = 2 := rfl
  rw [r2]
  refine ⟨_, rfl, ?_, ?_, ?_, ?_, ?_, ?_, ?_, MT_13 (MT_r h6 (by omega) (by omega))⟩
  · rw [ne_u1 _ _ _ (by decide), ne_u1 _ _ _ (by decide)]; exact h27
  · rw [ne_u1 _ _ _ (by decide), ne_u1 _ _ _ (by decide)]; exact h28
  · rw [szM_snoc]; simp only [List.length_append, List.length_map]; omega
  · rw [rd_1, if_pos rfl, if_pos rfl, ne_u1 _ _ _ (by decide), h4, nI_1, List.length_append]; rfl
  · rw [ne_u1 _ _ _ (by decide), ne_u1 _ _ _ (by decide)]; exact h1
  · refine LM_snoc (LM_agree (fun x i hx i1 i2 => ?_) (fun i i1 i2 => ?_) h5) ⟨?_, ?_, ?_, ?_, ?_, trivial⟩
    · rw [ne_u1 _ _ _ (by omega), rd_1]
      split
      · rw [if_neg (by omega)]; rename_i e; rw [e]
      · rfl
    · rw [ne_u1 _ _ _ (by decide), ne_u1 _ _ _ (by decide)]
    · rw [ne_u1 _ _ _ (by decide), ne_u1 _ _ _ (by decide), show 64 * 2 + (0 + L.length) = 128 + L.length by omega, h2, hK, Nat.zero_add]
    · rw [ne_u1 _ _ _ (by decide), ne_u1 _ _ _ (by decide), show 64 * 2 + (0 + L.length) = 128 + L.length by omega, h3, hK, Nat.zero_add]
    · rw [ne_u1 _ _ _ (by decide), rd_1, if_pos rfl, if_pos (by omega), h28, Nat.zero_add]
      rw [show (K ++ (l.1.map mu ++ l.2.map mu)).length = szM L + l.1.length + l.2.length by simp only [List.length_append, List.length_map]; omega]
    · rw [ne_u1 _ _ _ (by decide), ne_u1 _ _ _ (by decide), show 128 * 2 + (0 + szM L) = 256 + K.length by omega]; exact c3
    · rw [ne_u1 _ _ _ (by decide), ne_u1 _ _ _ (by decide), show 128 * 2 + (0 + szM L + l.1.length) = 256 + K.length + (l.1.map mu).length by rw [List.length_map]; omega]; exact c4
  · intro x hxx
    rcases List.mem_append.mp hxx with e | e
    · exact hw x e
    · rw [List.mem_singleton.mp e]; exact hl
theorem wf_ne {R : List Nat} (h : WFx R) : R ≠ [] := fun e => by
  rw [e] at h
  have : (0 : Nat) = 0 + 1 := h 0
  omega
def LinA (S0 T0 : St) (p : Nat) (L : Lns) (r : Option St) (r2 : Option (Int32 × St)) (t : Nat) : Prop :=
  (∃ f S' T', r = some S' ∧ XF S0 f S' ∧ r2 = some (0, T') ∧ T'.1 0 27 = nI f ∧ MT T0 T')
  ∨ (∃ p' Kx S' T', p' < t ∧ r = some S' ∧ XS S0 p' Kx S' ∧ Kx.length ≤ 128 ∧ ¬ sg S0 t p' = 59 ∧ r2 = some (0, T') ∧ T'.1 0 27 = nI p' ∧ MT T0 T')
  ∨ ∃ p' l K' S' T', p < p' ∧ p' ≤ t ∧ r = some S' ∧ XS S0 p' (flat (L ++ [l])) S' ∧ (flat (L ++ [l])).length ≤ p' + 1 ∧ r2 = some (1, T') ∧ TS T0 p' (L ++ [l]) K' T'
theorem rk3 {x : Int32} (h : rk x = 3) : ¬ x = 59 ∧ ¬ x = 63 ∧ ¬ x = -1 := by
  refine ⟨fun e => ?_, fun e => ?_, fun e => ?_⟩ <;> (rw [e] at h; exact absurd h (by decide))
theorem qp_line {L : Lns} {K : List Nat} (hp : Rp t S0 T0) (hx : XS S0 p (flat L) S) (hT : TS T0 p L K T) (hpt : p ≤ t) (h2 : 2 * L.length ≤ p) (hf : (flat L).length ≤ p) : LinA S0 T0 p L (f_X6_readLine S) (f_X12_lineRead T) t := by
  have ht := hp.1
  obtain ⟨t1, t2, t3, t4, t5, t6, t7, t8⟩ := hT
  have hfl := flat_len L
  have z23 : ∀ {β : Type} (k : Option β), jx_a (2 : Int32) 3 k = k := fun k => zb_an (j := 2) k (by omega) (by omega)
  have r2 : Int32.toNatClampNeg (2 : Int32) = 2 := rfl
  obtain ⟨r, eX0⟩ : ∃ r, f_X6_readLine S = r := ⟨_, rfl⟩
  obtain ⟨rm, eM0⟩ : ∃ r, f_X12_lineRead T = r := ⟨_, rfl⟩
  have eX := eX0
  have eM := eM0
  rw [eX0, eM0]
  unfold f_X6_readLine at eX
  unfold f_X12_lineRead at eM
  rw [z23, r2, t4, show (128 : Int32) + nI L.length = nI (128 + L.length) from nI_add 128 _, zb_l, zb_an _ (by omega) (by omega), cl_n (by omega), t2, zb_l, zb_an _ (by omega) (by omega), ne_u1 _ _ _ (show (0 : Nat) ≠ 14 by decide), t2, zb_l] at eM
  obtain ⟨T2, e2⟩ : ∃ T2, T2 = u1 (u1 T 14 (128 + L.length) (nI K.length)) 15 (128 + L.length) (nI K.length) := ⟨_, rfl⟩
  rw [← e2] at eM
  have l27 : T2.1 0 27 = nI p := by rw [e2, ne_u1 _ _ _ (by decide), ne_u1 _ _ _ (by decide)]; exact t1
  have l28 : T2.1 0 28 = nI K.length := by rw [e2, ne_u1 _ _ _ (by decide), ne_u1 _ _ _ (by decide)]; exact t2
  have l17 : T2.1 17 = T.1 17 := by rw [e2, ne_u1 _ _ _ (by decide), ne_u1 _ _ _ (by decide)]
  have lt : MT T0 T2 := by rw [e2]; exact MT_r (MT_r t8 (by omega) (by omega)) (by omega) (by omega)
  have ll : TL T0 L K [] K.length K.length T2 := by
    refine ⟨by rw [l17, List.append_nil]; exact t5, ?_, ?_, ?_, LM_agree (fun x i hxx i1 i2 => ?_) (fun i _ _ => by rw [l17]) t6, lt⟩
    · rw [e2, ne_u1 _ _ _ (by decide), rd_1, if_pos rfl, if_pos rfl]
    · rw [e2, rd_1, if_pos rfl, if_pos rfl]
    · rw [e2, ne_u1 _ _ _ (by decide), ne_u1 _ _ _ (by decide)]; exact t4
    · rw [e2, rd_1]
      split
      · rw [if_neg (by omega)]; rename_i e; rw [e, ne_u1 _ _ _ (by decide)]
      · rw [rd_1]
        split
        · rw [if_neg (by omega)]; rename_i e; rw [e]
        · rfl
  have hp2 := Rp_MT hp lt
  rcases qp_expr hp2 hx l27 l28 (by rw [l17]; exact t5) hpt (by omega) (by omega) with ⟨f, S1, T3, a1, a2, a3, a4, a5⟩ | ⟨p1, R1, S1, T3, a1, a2, a3, a4, a5, a6, a7⟩
  · rw [a1, zb_s, xf_go a2 (by decide), zb_2, if_pos rfl] at eX
    obtain ⟨S2, w1, w2⟩ := xf_write (v := (20000 : Int32)) a2
    rw [w1, zb_s] at eX
    rw [a3, zb_2, if_pos rfl] at eM
    exact Or.inl ⟨f, S2, T3, eX.symm, w2, eM.symm, a4, MT_MB lt a5⟩
  · rw [a3, zb_s] at eX
    have hR := wf_ne a5
    rcases a7 with ⟨m1, m2⟩ | ⟨m1, m2, m3, m4⟩
    · rw [m1, zb_2, if_neg one_ne, m_sign hp2 m2 a2, zb_2] at eM
      have lt3 := MT_MB lt m2.2.2.2.2.2.2.2
      have ll3 := TL_MB ll t3 m2.2.2.2.2.2.2.2 (K2 := R1.map mu) (by rw [List.nil_append]; exact m2.2.2.2.2.2.1)
      rw [List.nil_append] at ll3
      have hlen1 : (flat L ++ R1).length ≤ p1 := by rw [List.length_append]; omega
      by_cases q : sg S0 t p1 = 63
      · have hlt : p1 < t := by
          rcases sg_rg (p := p1) hp with e | ⟨e, -⟩
          · rw [q] at e; exact absurd e (by decide)
          · exact e
        obtain ⟨S2, x1, x2⟩ := x_go1 hp2 a4 a2 q
        rw [x1, zb_2, if_neg one_ne] at eX
        rw [if_pos q, m2.1, nI_1, zb_l, zb_an _ (by omega) (by omega), show (u1 T3 0 27 (nI (p1 + 1))).1 0 28 = nI (K ++ R1.map mu).length by rw [rd_1, if_pos rfl, if_neg (by decide)]; exact m2.2.1, zb_l] at eM
        obtain ⟨T5, e5⟩ : ∃ T5, T5 = u1 (u1 T3 0 27 (nI (p1 + 1))) 15 (128 + L.length) (nI (K ++ R1.map mu).length) := ⟨_, rfl⟩
        rw [← e5] at eM
        have lt5 : MT T0 T5 := by rw [e5]; exact MT_r (MT_0 lt3 (by decide)) (by omega) (by omega)
        have hp5 := Rp_MT hp lt5
        have g27 : T5.1 0 27 = nI (p1 + 1) := by rw [e5, ne_u1 _ _ _ (by decide), rd_1, if_pos rfl, if_pos rfl]
        have g28 : T5.1 0 28 = nI (K ++ R1.map mu).length := by rw [e5, ne_u1 _ _ _ (by decide), rd_1, if_pos rfl, if_neg (by decide)]; exact m2.2.1
        have g17 : T5.1 17 = T3.1 17 := by rw [e5, ne_u1 _ _ _ (by decide), ne_u1 _ _ _ (by decide)]
        have ll5 : TL T0 L K (R1.map mu) K.length (K.length + R1.length) T5 := by
          obtain ⟨h1, h2', h3, h4, h5, h6⟩ := ll3
          refine ⟨by rw [g17]; exact h1, ?_, ?_, ?_, LM_agree (fun x i hxx i1 i2 => ?_) (fun i _ _ => by rw [g17]) h5, lt5⟩
          · rw [e5, ne_u1 _ _ _ (by decide), ne_u1 _ _ _ (by decide)]; exact h2'
          · rw [e5, rd_1, if_pos rfl, if_pos rfl, List.length_append, List.length_map]
          · rw [e5, ne_u1 _ _ _ (by decide), ne_u1 _ _ _ (by decide)]; exact h4
          · rw [e5, rd_1]
            split
            · rw [if_neg (by omega)]; rename_i e; rw [e, ne_u1 _ _ _ (by decide)]
            · rw [ne_u1 _ _ _ (by omega)]
        rcases qp_expr (K := K ++ R1.map mu) hp5 x2 g27 g28 (by rw [g17]; exact m2.2.2.2.2.2.1) (by omega) (by omega) (by simp only [List.length_append, List.length_map]; omega) with ⟨f, S3, T6, b1, b2, b3, b4, b5⟩ | ⟨p2, R2, S3, T6, b1, b2, b3, b4, b5, b6, b7⟩
        · obtain ⟨S4, w1, w2⟩ := xf_write (v := (20001 : Int32)) b2
          rw [b1, zb_s, w1, zb_s] at eX
          rw [b3, zb_2, if_pos rfl] at eM
          exact Or.inl ⟨f, S4, T6, eX.symm, w2, eM.symm, b4, MT_MB lt5 b5⟩
        · obtain ⟨S4, w1, w2⟩ := x_write (c := 20001) b4 (by rw [List.length_append]; omega)
          rw [b3, zb_s, show (20001 : Int32) = nI 20001 from rfl, w1, zb_s] at eX
          have hlen2 : (flat L ++ R1 ++ R2).length ≤ p2 := by rw [List.length_append]; omega
          have efl : flat L ++ R1 ++ R2 ++ [20001] = flat (L ++ [(R1, R2)]) := by
            rw [flat_snoc]
            show _ = flat L ++ (R1 ++ (R2 ++ [if R1 = [] then 20000 else 20001]))
            rw [if_neg hR]
            simp only [List.append_assoc]
          have hlen3 : (flat L ++ R1 ++ R2 ++ [20001]).length ≤ p2 + 1 := by rw [List.length_append]; exact Nat.add_le_add_right hlen2 1
          rcases b7 with ⟨n1, n2⟩ | ⟨n1, n2, n3, n4⟩
          · rw [n1, zb_2, if_neg one_ne] at eM
            have ec : K ++ R1.map mu ++ R2.map mu = K ++ (R1.map mu ++ R2.map mu) := List.append_assoc ..
            rw [ec] at n2
            have ll6 := TL_MB ll5 t3 n2.2.2.2.2.2.2.2 n2.2.2.2.2.2.1
            obtain ⟨T7, f1, f2⟩ := p_end (l := (R1, R2)) t3 t7 ⟨Or.inr a5, b5⟩ (by omega) n2.1 n2.2.1 ll6
            rw [f1] at eM
            exact Or.inr (Or.inr ⟨p2, (R1, R2), _, S4, T7, by omega, b2, eX.symm, by rw [← efl]; exact w2, by rw [← efl]; exact hlen3, eM.symm, f2⟩)
          · rw [n1, zb_2, if_pos rfl] at eM
            obtain ⟨k1, k2, k3⟩ := rk3 n4
            have hlt2 : p2 < t := by
              rcases sg_rg (p := p2) hp with e | ⟨e, -⟩
              · exact absurd e k3
              · exact e
            exact Or.inr (Or.inl ⟨p2, _, S4, T6, hlt2, eX.symm, w2, by omega, k1, eM.symm, n2, MT_MB lt5 n3⟩)
      · rw [if_neg q] at eM
        rw [x_go0 hp2 a4 a2 q, zb_2, if_pos rfl] at eX
        obtain ⟨S4, w1, w2⟩ := x_write (c := 20000) a4 (by omega)
        rw [show (20000 : Int32) = nI 20000 from rfl, w1, zb_s] at eX
        have efl : flat L ++ R1 ++ [20000] = flat (L ++ [([], R1)]) := by
          rw [flat_snoc]
          show _ = flat L ++ ([] ++ (R1 ++ [if ([] : List Nat) = [] then 20000 else 20001]))
          rw [if_pos rfl]
          simp only [List.append_assoc, List.nil_append]
        have hlen3 : (flat L ++ R1 ++ [20000]).length ≤ p1 + 1 := by rw [List.length_append]; exact Nat.add_le_add_right hlen1 1
        obtain ⟨T7, f1, f2⟩ := p_end (l := ([], R1)) t3 t7 ⟨Or.inl rfl, a5⟩ (by omega) m2.1 m2.2.1 ll3
        rw [f1] at eM
        exact Or.inr (Or.inr ⟨p1, ([], R1), _, S4, T7, a1, a2, eX.symm, by rw [← efl]; exact w2, by rw [← efl]; exact hlen3, eM.symm, f2⟩)
    · rw [m1, zb_2, if_pos rfl] at eM
      obtain ⟨k1, k2, k3⟩ := rk3 m4
      rw [x_go0 hp2 a4 a2 k2, zb_2, if_pos rfl] at eX
      obtain ⟨S4, w1, w2⟩ := x_write (c := 20000) a4 (by rw [List.length_append]; omega)
      rw [show (20000 : Int32) = nI 20000 from rfl, w1, zb_s] at eX
      have hlt2 : p1 < t := by
        rcases sg_rg (p := p1) hp with e | ⟨e, -⟩
        · exact absurd e k3
        · exact e
      exact Or.inr (Or.inl ⟨p1, _, S4, T3, hlt2, eX.symm, w2, by simp only [List.length_append, List.length_cons, List.length_nil]; omega, k1, eM.symm, m2, MT_MB lt m3⟩)
