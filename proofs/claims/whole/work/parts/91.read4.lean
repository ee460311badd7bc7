variable {S T S0 T0 : St} {t p : Nat}
/-- a number or a name -/
theorem qp_leaf {rc : Int32 → Int32 → St → Option St} {op k : Nat} {KX KM W : List Nat} {v : Int32} (hp : Rp t S0 T0) (hx : XS S0 p KX S) (hm : MS T0 p KM W op k T) (hpt : p ≤ t) (hKX : KX.length ≤ p + 1) (hKM : KM.length ≤ p) : (∃ c p' S' T', c < 10007 ∧ p < p' ∧ p' ≤ t ∧ f_X6_readOperand rc v S = some S' ∧ XS S0 p' (KX ++ [c]) S' ∧ f_X12_oneRead T = some (1, T') ∧ MS T0 p' (KM ++ [mu c]) W op k T' ∧ T'.1 19 = T.1 19 ∧ ¬ sg S0 t p = 40 ∧ ¬ sg S0 t p = 33 ∧ ¬ sg S0 t p = 45) ∨ ((∀ S, f_X8_nameOf (sg S0 t p) S = some (-1, S)) ∧ ¬ (48 ≤ sg S0 t p ∧ sg S0 t p ≤ 57) ∧ f_X12_oneRead T = some (0, T)) := by
  have ht := hp.1
  obtain ⟨r, eX0⟩ : ∃ r, f_X6_readOperand rc v S = r := ⟨_, rfl⟩
  obtain ⟨r2, eM0⟩ : ∃ r2, f_X12_oneRead T = r2 := ⟨_, rfl⟩
  have eX := eX0
  have eM := eM0
  unfold f_X6_readOperand at eX
  unfold f_X12_oneRead at eM
  rw [x_next hp hx hpt, zb_2] at eX
  rw [m_sign hp hm hpt, zb_2] at eM
  rcases nm_all (sg S0 t p) with ⟨n1, n2⟩ | ⟨⟨q, q1, n1, n2⟩, n3, n4, n5, n6, n7⟩
  · rw [n1, zb_2, q_within, zb_2] at eX
    rw [n2, zb_2, if_pos (by decide), m_sign hp hm hpt, zb_2, p_in, zb_2] at eM
    by_cases dg : 48 ≤ sg S0 t p ∧ sg S0 t p ≤ 57
    · rw [if_pos dg, if_neg one_ne] at eX eM
      obtain ⟨v', p', S1, T1, d1, d2, d3, d4, d5, d6, d7, d8, d9⟩ := qp_dig hp 4 0 0 p S T FU rfl (by decide) hpt (by unfold FU; omega) hx hm
      unfold f_X6_readNumber f_X6_readNumber_52 at eX
      rw [show ((0 : Int32), (0 : Int32), S) = (nI 0, nI 0, S) from rfl, d1, zb_s] at eX
      rw [show ((0 : Int32), (0 : Int32), T) = (nI 0, nI 0, T) from rfl, d2, zb_s] at eM
      unfold f_X12_oneRead_100 at eM
      obtain ⟨S2, w1, w2⟩ := x_write (c := v') d7 (by omega)
      obtain ⟨T2, w3, w4, w5⟩ := m_code (c := mu v') d8 (by omega)
      have hmu : mu v' = v' + 1000 := if_pos d3
      rw [w1] at eX
      rw [show (1000 : Int32) + nI v' = nI (mu v') by rw [hmu, Nat.add_comm v' 1000]; exact nI_add 1000 v', w3] at eM
      refine Or.inl ⟨v', p', S2, T2, by omega, d6 rfl dg, d5, eX0.trans eX.symm, w2, eM0.trans eM.symm, w4, by rw [w5, d9], ?_, ?_, ?_⟩
      · intro z; rw [z] at dg; exact absurd dg (by decide)
      · intro z; rw [z] at dg; exact absurd dg (by decide)
      · intro z; rw [z] at dg; exact absurd dg (by decide)
    · rw [if_neg dg, if_pos rfl] at eM
      exact Or.inr ⟨n1, dg, eM0.trans eM.symm⟩
  · have hlt : p < t := by
      rcases sg_rg (p := p) hp with e | ⟨e, -⟩
      · exact absurd e n7
      · exact e
    rw [n1, zb_2, q_within, zb_2, if_neg n3, if_pos rfl, if_neg (nI_pos (by omega)), zb_l] at eX
    rw [n2, zb_2, if_neg (nI_pos (by omega))] at eM
    obtain ⟨S2, w1, w2⟩ := x_write (c := 10000 + q) (x_pl hx) (by omega)
    obtain ⟨T2, w3, w4, w5⟩ := m_code (c := mu (10000 + q)) hm (by omega)
    have hmu : mu (10000 + q) = 100 + q := by unfold mu; rw [if_neg (by omega), if_pos (by omega)]; omega
    rw [show (10000 : Int32) + nI q = nI (10000 + q) from nI_add 10000 q, w1] at eX
    rw [show (100 : Int32) + nI q = nI (mu (10000 + q)) by rw [hmu]; exact nI_add 100 q, w3, zb_s, zb_l] at eM
    exact Or.inl ⟨10000 + q, p + 1, S2, _, by omega, by omega, hlt, eX0.trans eX.symm, w2, eM0.trans eM.symm, m_pl w4, by rw [ne_u1 _ _ _ (by decide), w5], n4, n5, n6⟩
/-- an operand -/
def Opd (S0 T0 : St) (t p : Nat) (r : Option St) (KX KM U O : List Nat) (op k : Nat) (T : St) : Prop := Bad S0 T0 t p r 1 T ∨ ∃ (p' : Nat) (R : List Nat) (S' T' : St) (kk : Nat), p < p' ∧ p' ≤ t ∧ r = some S' ∧ XS S0 p' (KX ++ R) S' ∧ kk ≤ p' - p ∧ (∀ G, jx_w g_X12_eRead_24 (G + kk) (1, T) = jx_w g_X12_eRead_24 G (0, T')) ∧ MS T0 p' (KM ++ (R.map mu ++ U)) O (op - U.length) k T' ∧ WFx R ∧ R.length ≤ p' - p ∧ ∀ i, i ≤ k → T'.1 19 i = T.1 19 i
theorem qp_un {rc : Int32 → Int32 → St → Option St} {op k o c : Nat} {KX KM U O : List Nat} {cf : Bool} {S1 T1 : St} (hc : (o = 11 ∧ c = 30033) ∨ (o = 12 ∧ c = 30000)) (hop : op < 6) (hlt : p < t) (ht : t ≤ 120) (h6 : Spec S0 T0 t rc 6 (op + 1)) (hx : XS S0 (p + 1) KX S1) (hm : MS T0 (p + 1) KM (o :: (U ++ O)) (op + 1) k T1) (hfl : T1.1 19 = T.1 19) (hst : ∀ G, jx_w g_X12_eRead_24 (G + 1) (1, T) = jx_w g_X12_eRead_24 G (1, T1)) (hk : k ≤ op) (hf : T.1 19 k = tb cf) (hU : ∀ x, x ∈ U → x = 11 ∨ x = 12) (hUl : U.length ≤ op) (hO : stp 6 O) (hKX : KX.length ≤ p + 1) (hKM : KM.length + U.length + O.length ≤ p) : Opd S0 T0 t p (jx_b (rc (nI 6) (nI (op + 1)) S1) (fun S => jx_b (f_X6_write (nI c) S) (fun S => some S))) KX KM U O op k T := by
  have hmuc : mu c = o := by rcases hc with ⟨q, q2⟩ | ⟨q, q2⟩ <;> subst q <;> subst q2 <;> rfl
  rcases h6 (p + 1) KX KM (o :: U) O k cf S1 T1 hx hm (by omega) (by rw [hfl]; exact hf) (fun h => by omega) (fun _ => rfl) (fun x hxx => by
    rcases List.mem_cons.mp hxx with q | q
    · omega
    · exact hU x q) (by simp only [List.length_cons]; omega) hO hlt (by omega) (by simp only [List.length_cons]; omega) with ⟨f, S2, b1, b2, b3⟩ | ⟨p', R, P, Q, S2, T2, kk, c', g1, g2, g3, g4, g5, g6, g7, g8, g9, g10, g11, g12, g13, g14, g15⟩
  · obtain ⟨S3, w1, w2⟩ := xf_write (v := nI c) b2
    refine Or.inl ⟨f, S3, ?_, w2, mf_step (n := 1) (p1 := p + 1) hst (by omega) hlt b3⟩
    rw [b1, zb_s, w1, zb_s]
  · have hP0 : P = [] := by
      cases P with
      | nil => rfl
      | cons x r =>
        obtain ⟨x1, x2, x3⟩ := g9 x List.mem_cons_self
        have : bd x ≤ 5 := by unfold bd; split; omega; split; omega; split; omega; omega
        omega
    subst hP0
    rw [List.append_nil] at g8
    obtain ⟨S3, w1, w2⟩ := x_write (c := c) g4 (by rw [List.length_append]; omega)
    refine Or.inr ⟨p', R ++ [c], S3, T2, kk + 1, by omega, g2, ?_, ?_, by omega, fun G => ?_, ?_, wf_un g10 (by omega), ?_, fun i hi => ?_⟩
    · rw [g3, zb_s, w1, zb_s]
    · rw [← List.append_assoc]; exact w2
    · rw [show G + (kk + 1) = G + kk + 1 from rfl, hst]
      exact g6 G
    · rw [List.map_append, List.append_assoc]
      have e : op + 1 - (o :: U).length = op - U.length := by simp only [List.length_cons]; omega
      rw [e, g8] at g7
      show MS T0 p' (KM ++ (R.map mu ++ (mu c :: U))) O (op - U.length) k T2
      rw [hmuc]
      exact g7
    · rw [List.length_append]; simp only [List.length_cons, List.length_nil]; omega
    · rcases Nat.lt_or_ge i k with q | q
      · rw [g14 i q, hfl]
      · have q2 : i = k := by omega
        rw [q2, g12, g13 (by omega), hf]
theorem qp_br {rc : Int32 → Int32 → St → Option St} {op k : Nat} {KX KM U O : List Nat} {S1 T1 : St} (hp : Rp t S0 T0) (hop : op < 6) (hlt : p < t) (h1 : Spec S0 T0 t rc 1 (op + 1)) (hx : XS S0 (p + 1) KX S1) (hm : MS T0 (p + 1) KM (0 :: (U ++ O)) (op + 1) (k + 1) T1) (hf1 : T1.1 19 (k + 1) = tb false) (hfl : ∀ i, i ≠ k + 1 → T1.1 19 i = T.1 19 i) (hst : ∀ G, jx_w g_X12_eRead_24 (G + 1) (1, T) = jx_w g_X12_eRead_24 G (1, T1)) (hk : k ≤ op) (hU : ∀ x, x ∈ U → x = 11 ∨ x = 12) (hUl : U.length ≤ op) (hO : stp 6 O) (hKX : KX.length ≤ p + 1) (hKM : KM.length + U.length + O.length ≤ p) : Opd S0 T0 t p (jx_b (rc (nI 1) (nI (op + 1)) S1) (fun S => jx_b2 (f_X6_goesOnWith (41 : Int32) S) (fun r S => if r = 0 then jx_b (f_X6_fail S) (fun S => some S) else some S))) KX KM U O op k T := by
  have ht := hp.1
  rcases h1 (p + 1) KX KM [] (0 :: (U ++ O)) (k + 1) false S1 T1 hx hm (by omega) hf1 (fun _ => rfl) (fun h => absurd rfl h) (fun x hx => absurd hx List.not_mem_nil) (by simp) (fun x r e => by obtain ⟨rfl, rfl⟩ := List.cons.inj e; exact ⟨by omega, Or.inl rfl⟩) hlt (by omega) (by simp only [List.length_cons, List.length_append, List.length_nil]; omega) with ⟨f, S2, b1, b2, b3⟩ | ⟨p', R, P, Q, S2, T2, kk, c', g1, g2, g3, g4, g5, g6, g7, g8, g9, g10, g11, g12, g13, g14, g15⟩
  · refine Or.inl ⟨f, S2, ?_, b2, mf_step (n := 1) (p1 := p + 1) hst (by omega) hlt b3⟩
    rw [b1, zb_s, xf_go b2 (by decide), zb_2, if_pos rfl, xf_fail b2, zb_s]
  · rw [List.append_nil] at g8
    have hlen : Q.length + P.length = R.length := by rw [← List.length_append, g8, List.length_map]
    have st2 : ∀ G, jx_w g_X12_eRead_24 (G + (kk + 1)) (1, T) = jx_w g_X12_eRead_24 G (0, T2) := fun G => by
      rw [show G + (kk + 1) = G + kk + 1 from rfl, hst]
      exact g6 G
    rw [List.length_nil, Nat.sub_zero] at g7
    by_cases h41 : sg S0 t p' = 41
    · have hlt' : p' < t := by
        rcases sg_rg (p := p') hp with e | ⟨e, -⟩
        · rw [h41] at e; exact absurd e (by decide)
        · exact e
      obtain ⟨S3, w1, w2⟩ := x_go1 hp g4 g2 h41
      obtain ⟨T3, f1, f2, f3⟩ := m_close hp g2 h41 (fun x hx => ⟨(g9 x hx).1, (g9 x hx).2.1⟩) (by omega) (by omega) hU hUl hO (by rw [List.length_append]; omega) g7
      refine Or.inr ⟨p' + 1, R, S3, T3, kk + 1 + 1, by omega, hlt', ?_, w2, by omega, fun G => ?_, ?_, g10, by omega, fun i hi => ?_⟩
      · rw [g3, zb_s, w1, zb_2, if_neg one_ne]
      · rw [show G + (kk + 1 + 1) = G + 1 + (kk + 1) by omega, st2, st1 f1]
      · rw [← g8]
        rw [show KM ++ (Q ++ P ++ U) = KM ++ Q ++ P ++ U by simp only [List.append_assoc]]
        exact f2
      · rw [f3, g14 i (by omega), hfl i (by omega)]
    · obtain ⟨S3, w1, w2⟩ := x_fail g4 (by rw [List.length_append]; omega) (by omega)
      refine Or.inl ⟨p', S3, ?_, w2, mf_step (n := kk + 1) (p1 := p') st2 (by omega) g2 ?_⟩
      · rw [g3, zb_s, x_go0 hp g4 g2 h41, zb_2, if_pos rfl, w1, zb_s]
      · refine m_stop hp g2 h41 (fun x hx => ⟨(g9 x hx).1, (g9 x hx).2.1⟩) (by omega) (by omega) (by simp only [List.length_append]; omega) g7 g12 ?_
        rcases g15 with q | q
        · exact Or.inl q
        · exact Or.inr ⟨q.1, q.2.1⟩
theorem qp_opd {rc : Int32 → Int32 → St → Option St} {op k : Nat} {KX KM U O : List Nat} {cf : Bool} (hp : Rp t S0 T0) (hop : op ≤ 6) (h6 : op < 6 → Spec S0 T0 t rc 6 (op + 1)) (h1 : op < 6 → Spec S0 T0 t rc 1 (op + 1)) (hx : XS S0 p KX S) (hm : MS T0 p KM (U ++ O) op k T) (hk : k ≤ op) (hf : T.1 19 k = tb cf) (hU : ∀ x, x ∈ U → x = 11 ∨ x = 12) (hUl : U.length ≤ op) (hO : stp 6 O) (hpt : p ≤ t) (hKX : KX.length ≤ p + 1) (hKM : KM.length + U.length + O.length ≤ p) : Opd S0 T0 t p (f_X6_readOperand rc (nI op) S) KX KM U O op k T := by
  have ht := hp.1
  have eM : g_X12_eRead_24 (1, T) = b_X12_eRead_24 1 T := rfl
  unfold b_X12_eRead_24 f_X12_eRead_51i24 f_X12_eRead_56i24 f_X12_eRead_85i24 f_X12_eRead_103i24 f_X12_eRead_115i24 f_X12_eRead_228i24 at eM
  rw [m_sign hp hm hpt, zb_2, if_neg one_ne] at eM
  simp only [one_ne, reduceIte] at eM
  rcases qp_leaf (rc := rc) (v := nI op) hp hx hm hpt hKX (by omega) with ⟨c, p', S', T', l1, l2, l3, l4, l5, l6, l7, l8, l9, l10, l11⟩ | ⟨l1, l2, l3⟩
  · rw [if_neg l9, if_neg l10, if_neg l11, l6, zb_2, if_neg one_ne] at eM
    obtain ⟨T2, f1, f2, f3⟩ := m_leaf hU hUl hO hop (by simp only [List.length_append, List.length_cons, List.length_nil]; omega) l7
    rw [f1, zb_s] at eM
    refine Or.inr ⟨p', [c], S', T2, 1, l2, l3, l4, l5, by omega, fun G => st1 eM G, ?_, wf_leaf l1, by simp only [List.length_cons, List.length_nil]; omega, fun i _ => by rw [f3, l8]⟩
    rw [List.append_assoc] at f2
    exact f2
  · obtain ⟨r, eX0⟩ : ∃ r, f_X6_readOperand rc (nI op) S = r := ⟨_, rfl⟩
    have eX := eX0
    unfold f_X6_readOperand at eX
    rw [x_next hp hx hpt, zb_2, l1, zb_2, q_within, zb_2, if_neg l2, if_pos rfl, if_pos (by decide)] at eX
    rw [eX0]
    obtain ⟨S9, w1, w2⟩ := x_fail hx (by omega) (by omega)
    by_cases hop6 : op < 6
    · rw [if_pos (show nI op < (6 : Int32) from nI_lt (b := 6) hop6 (by omega))] at eX
      by_cases q33 : sg S0 t p = 33
      · have hlt : p < t := by
          rcases sg_rg (p := p) hp with e | ⟨e, -⟩
          · rw [q33] at e; exact absurd e (by decide)
          · exact e
        obtain ⟨S1, x1, x2⟩ := x_go1 hp hx hpt q33
        obtain ⟨T1, y1, y2, y3⟩ := m_openU (o := 11) hop6 (Or.inl rfl) (by rw [List.length_append]; omega) hm
        rw [x1, zb_2, if_neg one_ne, nI_1] at eX
        rw [q33, if_neg (by decide), if_pos rfl, if_neg (by decide), show (11 : Int32) = nI 11 from rfl, y1, zb_2, if_neg one_ne] at eM
        rw [← eX]
        exact qp_un (c := 30033) (Or.inl ⟨rfl, rfl⟩) hop6 hlt ht (h6 hop6) x2 y2 y3 (st1 eM) hk hf hU hUl hO hKX hKM
      · rw [x_go0 hp hx hpt q33, zb_2, if_pos rfl] at eX
        by_cases q45 : sg S0 t p = 45
        · have hlt : p < t := by
            rcases sg_rg (p := p) hp with e | ⟨e, -⟩
            · rw [q45] at e; exact absurd e (by decide)
            · exact e
          obtain ⟨S1, x1, x2⟩ := x_go1 hp hx hpt q45
          obtain ⟨T1, y1, y2, y3⟩ := m_openU (o := 12) hop6 (Or.inr rfl) (by rw [List.length_append]; omega) hm
          rw [x1, zb_2, if_neg one_ne, nI_1] at eX
          rw [q45, if_neg (by decide), if_neg (by decide), if_pos rfl, if_neg (by decide), if_neg (by decide), show (12 : Int32) = nI 12 from rfl, y1, zb_2, if_neg one_ne] at eM
          rw [← eX]
          exact qp_un (c := 30000) (Or.inr ⟨rfl, rfl⟩) hop6 hlt ht (h6 hop6) x2 y2 y3 (st1 eM) hk hf hU hUl hO hKX hKM
        · rw [x_go0 hp hx hpt q45, zb_2, if_pos rfl] at eX
          by_cases q40 : sg S0 t p = 40
          · have hlt : p < t := by
              rcases sg_rg (p := p) hp with e | ⟨e, -⟩
              · rw [q40] at e; exact absurd e (by decide)
              · exact e
            obtain ⟨S1, x1, x2⟩ := x_go1 hp hx hpt q40
            obtain ⟨T1, y1, y2, y3, y4⟩ := m_open0 hop6 (by omega) (by rw [List.length_append]; omega) hm
            rw [x1, zb_2, if_neg one_ne, nI_1] at eX
            rw [q40, if_pos rfl, if_pos rfl, y1, zb_2, if_neg one_ne] at eM
            rw [← eX]
            exact qp_br hp hop6 hlt (h1 hop6) x2 y2 y3 y4 (st1 eM) hk hU hUl hO hKX hKM
          · rw [x_go0 hp hx hpt q40, zb_2, if_pos rfl, w1, zb_s] at eX
            rw [if_neg q40, if_neg q33, if_neg q45, l3, zb_2, if_pos rfl] at eM
            exact Or.inl ⟨p, S9, eX.symm, w2, mf_now eM rfl hm.1 hm.2.2.2.2.2.2.2⟩
    · obtain rfl : op = 6 := by omega
      rw [if_neg (by decide), w1, zb_s] at eX
      refine Or.inl ⟨p, S9, eX.symm, w2, ?_⟩
      by_cases q40 : sg S0 t p = 40
      · rw [if_pos q40, if_pos q40, m_open6 hm, zb_2, if_pos rfl] at eM
        exact mf_now eM rfl hm.1 hm.2.2.2.2.2.2.2
      · rw [if_neg q40] at eM
        by_cases q33 : sg S0 t p = 33
        · rw [if_pos q33, if_neg q40, if_pos q33, m_open6 hm, zb_2, if_pos rfl] at eM
          exact mf_now eM rfl hm.1 hm.2.2.2.2.2.2.2
        · rw [if_neg q33] at eM
          by_cases q45 : sg S0 t p = 45
          · rw [if_pos q45, if_neg q40, if_neg q33, m_open6 hm, zb_2, if_pos rfl] at eM
            exact mf_now eM rfl hm.1 hm.2.2.2.2.2.2.2
          · rw [if_neg q45, l3, zb_2, if_pos rfl] at eM
            exact mf_now eM rfl hm.1 hm.2.2.2.2.2.2.2
