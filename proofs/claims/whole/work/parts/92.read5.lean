variable {S T S0 T0 : St} {t p : Nat}
/-! what is joined is read by both -/
theorem stp_mono {a b : Nat} {O : List Nat} (h : stp a O) (hab : a ≤ b) : stp b O := fun x r e => by
  have := h x r e
  omega
theorem rk_le (x : Int32) : rk x ≤ 5 := by
  rcases op_all x with ⟨o1, -, -⟩ | ⟨cc, -, -, -, -, -, -, -, -, o9, -⟩
  · omega
  · exact o9
theorem wf_bin {c : Nat} {R R2 : List Nat} (h : WFx R) (hc : bin c) (h2 : ∀ d, WFd R2 (d + 1) (d + 1)) (d : Nat) : WFd (R ++ ([c] ++ R2)) (d + 1) (d + 1) := by
  have k2 : nops c = 2 := by
    unfold nops bin at *
    rw [if_neg (by omega), if_neg (by omega)]
  refine WFd_app (h (d + 1)) ⟨?_, by omega, ?_⟩
  · unfold tok bin at *; omega
  · show WFd R2 (d + 1 + 1 - nops c + 1) (d + 1)
    rw [k2, show d + 1 + 1 - 2 + 1 = d + 1 by omega]
    exact h2 d
theorem xf_loop {rc : Int32 → Int32 → St → Option St} {lo f : Nat} {o h n : Int32} (hlo : 1 ≤ lo ∧ lo ≤ 6) (hS : XF S0 f S) (F : Nat) : ∃ z, jx_w (g_X6_readJoined_27 rc (nI lo) o) (F + 1) (h, n, S) = some z ∧ Sum.elim id id z = S := by
  by_cases q : (120 : Int32) ≤ n
  · refine ⟨.inl S, jx_w_end ?_, rfl⟩
    show b_X6_readJoined_27 rc (nI lo) o h n S = _
    unfold b_X6_readJoined_27
    rw [if_pos q]
  · refine ⟨.inr S, jx_w_end ?_, rfl⟩
    show b_X6_readJoined_27 rc (nI lo) o h n S = _
    unfold b_X6_readJoined_27
    rw [if_neg q, xf_next hS, zb_2, show f_X6_rankOf (-1) S = some (nI 0, S) from rfl, zb_2, if_pos (nI_lt (by omega) (by omega))]
theorem qp_loop {rc : Int32 → Int32 → St → Option St} {lo op k : Nat} {O : List Nat} (hp : Rp t S0 T0) (hop : op ≤ 6) (hlo : 1 ≤ lo ∧ lo ≤ 6) (hS : ∀ r, lo ≤ r → r ≤ 5 → Spec S0 T0 t rc (r + 1) op) (hO : stp lo O) (hk : k ≤ op) : ∀ m p h n dp (KX KM P : List Nat) (c : Bool) (S T : St) F, t - p < m → t - p < F → n < p → p ≤ t → h ≤ 5 → dp ≤ op → (lo ≤ 5 → dp = op) → XS S0 p KX S → MS T0 p KM (P ++ O) dp k T → T.1 19 k = tb c → (c = true → lo ≤ 3 → h ≤ 2) → (rk (sg S0 t p) ≤ h ∨ rk (sg S0 t p) < lo ∨ (rk (sg S0 t p) = 3 ∧ c = true)) → (∀ x, x ∈ P → 1 ≤ x ∧ x ≤ 10 ∧ lo ≤ bd x ∧ h ≤ bd x) → KX.length ≤ p + 1 → KM.length + P.length + O.length ≤ p →
    (∃ f S' z, jx_w (g_X6_readJoined_27 rc (nI lo) (nI op)) F (nI h, nI n, S) = some z ∧ Sum.elim id id z = S' ∧ XF S0 f S' ∧ MFail T0 t p f 0 T) ∨ ∃ (p' : Nat) (R P' Q : List Nat) (S' T' : St) (kk : Nat) (c' : Bool), p ≤ p' ∧ p' ≤ t ∧ (∃ z, jx_w (g_X6_readJoined_27 rc (nI lo) (nI op)) F (nI h, nI n, S) = some z ∧ Sum.elim id id z = S') ∧ XS S0 p' (KX ++ R) S' ∧ kk ≤ p' - p ∧ (∀ G, jx_w g_X12_eRead_24 (G + kk) (0, T) = jx_w g_X12_eRead_24 G (0, T')) ∧ MS T0 p' (KM ++ Q) (P' ++ O) dp k T' ∧ Q ++ P' = P ++ R.map mu ∧ (∀ x, x ∈ P' → 1 ≤ x ∧ x ≤ 10 ∧ lo ≤ bd x) ∧ (∀ d, WFd R (d + 1) (d + 1)) ∧ R.length ≤ p' - p ∧ T'.1 19 k = tb c' ∧ (4 ≤ lo → c' = c) ∧ (∀ i, i < k → T'.1 19 i = T.1 19 i) ∧ (rk (sg S0 t p') < lo ∨ (rk (sg S0 t p') = 3 ∧ c' = true ∧ lo ≤ 3)) ∧ (lo = 6 → R = [])
  | 0, p, h, n, dp, KX, KM, P, c, S, T, F, hm0, _, _, _, _, _, _, _, _, _, _, _, _, _, _ => absurd hm0 (by omega)
  | m + 1, p, h, n, dp, KX, KM, P, c, S, T, F, hm0, hF, hn, hpt, hh, hdp, hdp2, hx, hm, hf, hc, hr, hP, hKX, hKM => by
    have ht := hp.1
    obtain ⟨N, rfl⟩ : ∃ N, F = N + 1 := ⟨F - 1, by omega⟩
    have eX : g_X6_readJoined_27 rc (nI lo) (nI op) (nI h, nI n, S) = b_X6_readJoined_27 rc (nI lo) (nI op) (nI h) (nI n) S := rfl
    unfold b_X6_readJoined_27 at eX
    rw [if_neg (show ¬ (120 : Int32) ≤ nI n from nI_ge (b := 120) (by omega) (by omega)), x_next hp hx hpt, zb_2] at eX
    have stop : g_X6_readJoined_27 rc (nI lo) (nI op) (nI h, nI n, S) = some (.inr (.inr S)) → (rk (sg S0 t p) < lo ∨ (rk (sg S0 t p) = 3 ∧ c = true ∧ lo ≤ 3)) → ∃ (p' : Nat) (R P' Q : List Nat) (S' T' : St) (kk : Nat) (c' : Bool), p ≤ p' ∧ p' ≤ t ∧ (∃ z, jx_w (g_X6_readJoined_27 rc (nI lo) (nI op)) (N + 1) (nI h, nI n, S) = some z ∧ Sum.elim id id z = S') ∧ XS S0 p' (KX ++ R) S' ∧ kk ≤ p' - p ∧ (∀ G, jx_w g_X12_eRead_24 (G + kk) (0, T) = jx_w g_X12_eRead_24 G (0, T')) ∧ MS T0 p' (KM ++ Q) (P' ++ O) dp k T' ∧ Q ++ P' = P ++ R.map mu ∧ (∀ x, x ∈ P' → 1 ≤ x ∧ x ≤ 10 ∧ lo ≤ bd x) ∧ (∀ d, WFd R (d + 1) (d + 1)) ∧ R.length ≤ p' - p ∧ T'.1 19 k = tb c' ∧ (4 ≤ lo → c' = c) ∧ (∀ i, i < k → T'.1 19 i = T.1 19 i) ∧ (rk (sg S0 t p') < lo ∨ (rk (sg S0 t p') = 3 ∧ c' = true ∧ lo ≤ 3)) ∧ (lo = 6 → R = []) := fun e1 e2 =>
      ⟨p, [], P, [], S, T, 0, c, Nat.le_refl _, hpt, ⟨.inr S, jx_w_end e1, rfl⟩, by rw [List.append_nil]; exact hx, Nat.zero_le _, fun _ => rfl, by rw [List.append_nil]; exact hm, by simp, fun x hxx => ⟨(hP x hxx).1, (hP x hxx).2.1, (hP x hxx).2.2.1⟩, fun _ => rfl, by simp, hf, fun _ => rfl, fun _ _ => rfl, e2, fun _ => rfl⟩
    rcases op_all (sg S0 t p) with ⟨o1, o2, o3⟩ | ⟨cc, o1, o2, o3, o4, o5, o6, o7, o8, o9, o10, o11⟩
    · rw [o2, zb_2, if_pos (nI_lt (by omega) (by omega))] at eX
      exact Or.inr (stop eX (Or.inl (by omega)))
    · rw [o3, zb_2] at eX
      by_cases c1 : rk (sg S0 t p) < lo
      · rw [if_pos (nI_lt c1 (by omega))] at eX
        exact Or.inr (stop eX (Or.inl c1))
      · rw [if_neg (nI_nlt (by omega) (by omega))] at eX
        by_cases c2 : rk (sg S0 t p) ≤ h
        · -- it goes on
          have hdo : dp = op := hdp2 (by omega)
          subst hdo
          have hlt : p < t := by
            rcases sg_rg (p := p) hp with e | ⟨e, -⟩
            · exact absurd e o10
            · exact e
          rw [if_pos (nI_le c2 (by omega))] at eX
          have hc3 : rk (sg S0 t p) = 3 → c = false := fun e => by
            cases c with
            | false => rfl
            | true => have := hc rfl (by omega); omega
          have eM : g_X12_eRead_24 (0, T) = b_X12_eRead_24 0 T := rfl
          unfold b_X12_eRead_24 f_X12_eRead_228i24 at eM
          obtain ⟨T1, m1, m2, m3, m4⟩ := m_goes (o := mu cc) ⟨o5, o6⟩ (fun x hxx => ⟨(hP x hxx).1, (hP x hxx).2.1, by have := (hP x hxx).2.2.2; omega⟩) (stp_mono hO (by omega)) (by omega) (by omega) hop (by omega) hf (fun e => hc3 (by omega)) hm
          rw [m_sign hp hm hpt, zb_2, if_pos rfl, o4, zb_2, if_neg (nI_nle (by omega) (by omega)), o4, zb_2, m1, zb_2, if_neg one_ne] at eM
          unfold f_X6_readRest at eX
          rw [x_next hp hx hpt, zb_2, zb_l, nI_1] at eX
          rw [o7] at m3
          rcases hS (rk (sg S0 t p)) (by omega) o9 (p + 1) KX (KM ++ P) [] (mu cc :: O) k _ _ T1 (x_pl hx) m2 hk m3 (fun e => by rw [if_pos (by omega)]) (fun e => absurd rfl e) (fun x hxx => absurd hxx List.not_mem_nil) (by simp) (fun x r e => by obtain ⟨rfl, rfl⟩ := List.cons.inj e; exact ⟨by omega, Or.inr (by omega)⟩) hlt (by omega) (by simp only [List.length_append, List.length_cons, List.length_nil]; omega) with ⟨f, S2, b1, b2, b3⟩ | ⟨p1, R1, P1, Q1, S2, T2, kk, c2', g1, g2, g3, g4, g5, g6, g7, g8, g9, g10, g11, g12, g13, g14, g15⟩
          · obtain ⟨S3, w1, w2⟩ := xf_write (v := nI cc) b2
            rw [b1, zb_s, o2, w1, zb_s, zb_s] at eX
            obtain ⟨h', hX⟩ : ∃ h', g_X6_readJoined_27 rc (nI lo) (nI dp) (nI h, nI n, S) = some (.inl (h', nI n + 1, S3)) := by
              by_cases q : nI (rk (sg S0 t p)) = (3 : Int32)
              · rw [if_pos q] at eX; exact ⟨_, eX⟩
              · rw [if_neg q] at eX; exact ⟨_, eX⟩
            obtain ⟨N2, rfl⟩ : ∃ N2, N = N2 + 1 := ⟨N - 1, by omega⟩
            obtain ⟨z, z1, z2⟩ := xf_loop (rc := rc) (o := nI dp) (h := h') (n := nI n + 1) hlo w2 N2
            exact Or.inl ⟨f, S3, z, by rw [jx_w_step hX]; exact z1, z2, w2, mf_step (n := 1) (p1 := p + 1) (st1 eM) (by omega) hlt b3⟩
          · obtain ⟨S3, w1, w2⟩ := x_write (c := cc) g4 (by rw [List.length_append]; omega)
            rw [g3, zb_s, o2, w1, zb_s, zb_s] at eX
            obtain ⟨h', hh1, hh2, hX⟩ : ∃ h', (rk (sg S0 t p) = 3 → h' = 2) ∧ (rk (sg S0 t p) ≠ 3 → h' = rk (sg S0 t p)) ∧ g_X6_readJoined_27 rc (nI lo) (nI dp) (nI h, nI n, S) = some (.inl (nI h', nI (n + 1), S3)) := by
              by_cases q : rk (sg S0 t p) = 3
              · rw [if_pos (show nI (rk (sg S0 t p)) = 3 by rw [q]; rfl)] at eX
                exact ⟨2, fun _ => rfl, fun e => absurd q e, by rw [eX, ← nI_1 n]; rfl⟩
              · rw [if_neg (fun z => q (by rw [show (3 : Int32) = nI 3 from rfl, nI_eq (by omega) (by omega)] at z; exact z))] at eX
                exact ⟨_, fun e => absurd e q, fun _ => rfl, by rw [eX, ← nI_1 n]; rfl⟩
            rw [List.append_nil] at g8
            rw [List.length_nil, Nat.sub_zero] at g7
            have hlen : Q1.length + P1.length = R1.length := by rw [← List.length_append, g8, List.length_map]
            have st2 : ∀ G, jx_w g_X12_eRead_24 (G + (kk + 1)) (0, T) = jx_w g_X12_eRead_24 G (0, T2) := fun G => by
              rw [show G + (kk + 1) = G + kk + 1 from rfl, st1 eM]
              exact g6 G
            have h'le : h' ≤ rk (sg S0 t p) := by
              by_cases q : rk (sg S0 t p) = 3
              · have := hh1 q; omega
              · have := hh2 q; omega
            have c45 : 4 ≤ rk (sg S0 t p) → c2' = c := fun e => by
              rw [g13 (by omega), if_neg (by omega), if_neg (by omega)]
            have ih := qp_loop hp hop hlo hS hO hk m p1 h' (n + 1) dp (KX ++ R1 ++ [cc]) (KM ++ P ++ Q1) (P1 ++ [mu cc]) c2' S3 T2 N (by omega) (by omega) (by omega) g2 (by omega) (Nat.le_refl _) (fun _ => rfl) w2 (by rw [List.append_assoc P1]; exact g7) g12 (fun e1 e2 => by
              by_cases q : 4 ≤ rk (sg S0 t p)
              · have := hc (by rw [← c45 q]; exact e1) e2; omega
              · by_cases q3 : rk (sg S0 t p) = 3
                · have := hh1 q3; omega
                · omega) (by
              rcases g15 with e | e
              · by_cases q3 : rk (sg S0 t p) = 3
                · by_cases q4 : rk (sg S0 t p1) = 3
                  · refine Or.inr (Or.inr ⟨q4, ?_⟩)
                    rw [g13 (by omega), if_neg (by omega), if_pos q3]
                  · have := hh1 q3; exact Or.inl (by omega)
                · have := hh2 q3; exact Or.inl (by omega)
              · exact Or.inr (Or.inr ⟨e.1, e.2.1⟩)) (fun x hxx => by
              rcases List.mem_append.mp hxx with e | e
              · have := g9 x e; exact ⟨this.1, this.2.1, by omega, by omega⟩
              · rw [List.mem_singleton.mp e]; exact ⟨o5, o6, by omega, by omega⟩) (by simp only [List.length_append, List.length_cons, List.length_nil]; omega) (by simp only [List.length_append, List.length_cons, List.length_nil]; omega)
            rcases ih with ⟨f, S', z, i1, i2, i3, i4⟩ | ⟨p', R2, P', Q2, S', T', kk2, c', i1, i2, ⟨z, i3, i4⟩, i5, i6, i7, i8, i9, i10, i11, i12, i13, i14, i15, i16, i17⟩
            · exact Or.inl ⟨f, S', z, by rw [jx_w_step hX]; exact i1, i2, i3, mf_step (n := kk + 1) (p1 := p1) st2 (by omega) g2 i4⟩
            · refine Or.inr ⟨p', R1 ++ ([cc] ++ R2), P', P ++ (Q1 ++ Q2), S', T', kk2 + (kk + 1), c', by omega, i2, ⟨z, by rw [jx_w_step hX]; exact i3, i4⟩, ?_, by omega, fun G => ?_, ?_, ?_, i10, wf_bin g10 o1 i11, ?_, i13, fun e => ?_, fun i hi => ?_, i16, fun e => by omega⟩
              · rw [show KX ++ (R1 ++ ([cc] ++ R2)) = KX ++ R1 ++ [cc] ++ R2 by simp only [List.append_assoc]]
                exact i5
              · rw [show G + (kk2 + (kk + 1)) = G + kk2 + (kk + 1) by omega, st2]
                exact i7 G
              · rw [show KM ++ (P ++ (Q1 ++ Q2)) = KM ++ P ++ Q1 ++ Q2 by simp only [List.append_assoc]]
                exact i8
              · rw [show P ++ (Q1 ++ Q2) ++ P' = P ++ (Q1 ++ (Q2 ++ P')) by simp only [List.append_assoc], i9]
                rw [show P ++ (Q1 ++ (P1 ++ [mu cc] ++ R2.map mu)) = P ++ (Q1 ++ P1 ++ ([mu cc] ++ R2.map mu)) by simp only [List.append_assoc], g8, List.map_append, List.map_append]
                rfl
              · simp only [List.length_append, List.length_cons, List.length_nil]; omega
              · rw [i14 e, c45 (by omega)]
              · rw [i15 i hi, g14 i hi, m4 i (by omega)]
        · rw [if_neg (nI_ge (by omega) (by omega))] at eX
          refine Or.inr (stop eX ?_)
          rcases hr with q | q | q
          · exact absurd q c2
          · exact absurd q c1
          · exact Or.inr ⟨q.1, q.2, by omega⟩
theorem qp_rj (hp : Rp t S0 T0) : ∀ n lo op, 1 ≤ lo → lo ≤ 6 → op ≤ 6 → (6 - op) * 6 + (7 - lo) ≤ n → Spec S0 T0 t (f_X6_readJoined n) lo op
  | 0, lo, op, h1, h2, h3, h4 => absurd h4 (by omega)
  | n + 1, lo, op, h1, h2, h3, h4 => by
    intro p KX KM U O k c S T hx hm hk hf hc hU6 hU hUl hO hpt hKX hKM
    have ht := hp.1
    have rest : ∀ S1 z, jx_w (g_X6_readJoined_27 (f_X6_readJoined n) (nI lo) (nI op)) FU ((5 : Int32), (0 : Int32), S1) = some z → f_X6_readOperand (f_X6_readJoined n) (nI op) S = some S1 → f_X6_readJoined (n + 1) (nI lo) (nI op) S = some (Sum.elim id id z) := fun S1 z e1 e2 => by
      show fb_X6_readJoined (f_X6_readJoined n) (nI lo) (nI op) S = _
      unfold fb_X6_readJoined
      rw [if_neg (show ¬ (6 : Int32) < nI lo from nI_nlt (a := 6) h2 (by omega)), if_pos (show nI op ≤ (6 : Int32) from nI_le (b := 6) h3 (by omega)), e2, zb_s, e1, zb_s]
      cases z <;> rfl
    have hop := qp_opd (rc := f_X6_readJoined n) hp h3 (fun e => qp_rj hp n 6 (op + 1) (by omega) (by omega) (by omega) (by omega)) (fun e => qp_rj hp n 1 (op + 1) (by omega) (by omega) (by omega) (by omega)) hx hm hk hf hU hUl (stp_mono hO h2) hpt hKX hKM
    rcases hop with ⟨f, S1, a1, a2, a3⟩ | ⟨p1, R1, S1, T1, kk, a1, a2, a3, a4, a5, a6, a7, a8, a9, a10⟩
    · obtain ⟨z, z1, z2⟩ := xf_loop (rc := f_X6_readJoined n) (o := nI op) (h := 5) (n := 0) ⟨h1, h2⟩ a2 (FU - 1)
      refine Or.inl ⟨f, S1, ?_, a2, a3⟩
      rw [rest S1 z z1 a1, z2]
    · have hl := qp_loop (rc := f_X6_readJoined n) hp h3 ⟨h1, h2⟩ (fun r r1 r2 => qp_rj hp n (r + 1) op (by omega) (by omega) h3 (by omega)) hO hk (t + 1) p1 5 0 (op - U.length) (KX ++ R1) (KM ++ (R1.map mu ++ U)) [] c S1 T1 FU (by omega) (by unfold FU; omega) (by omega) a2 (by omega) (by omega) (fun e => by
        cases U with
        | nil => rfl
        | cons x r => have := hU6 (by simp); omega) a4 a7 (by rw [a10 k (Nat.le_refl _)]; exact hf) (fun e1 e2 => by rw [hc e2] at e1; exact absurd e1 (by decide)) (Or.inl (rk_le _)) (fun x hxx => absurd hxx List.not_mem_nil) (by rw [List.length_append]; omega) (by simp only [List.length_append, List.length_map, List.length_nil]; omega)
      rcases hl with ⟨f, S', z, i1, i2, i3, i4⟩ | ⟨p', R2, P', Q2, S', T', kk2, c', i1, i2, ⟨z, i3, i4⟩, i5, i6, i7, i8, i9, i10, i11, i12, i13, i14, i15, i16, i17⟩
      · refine Or.inl ⟨f, S', ?_, i3, mf_step a6 (by omega) a2 i4⟩
        rw [rest S1 z i1 a3, i2]
      · refine Or.inr ⟨p', R1 ++ R2, P', R1.map mu ++ U ++ Q2, S', T', kk2 + kk, c', by omega, i2, ?_, ?_, by omega, fun G => ?_, ?_, ?_, i10, fun d => WFd_app (a8 d) (i11 d), by rw [List.length_append]; omega, i13, i14, fun i hi => ?_, i16⟩
        · rw [rest S1 z i3 a3, i4]
        · rw [← List.append_assoc]; exact i5
        · rw [show G + (kk2 + kk) = G + kk2 + kk by omega, a6]
          exact i7 G
        · rw [← List.append_assoc]; exact i8
        · rw [List.append_assoc _ Q2, i9, List.nil_append, List.map_append]
          cases U with
          | nil => simp only [List.append_nil]
          | cons x r =>
            rw [i17 (hU6 (by simp))]
            simp only [List.map_nil, List.append_nil]
        · rw [i15 i hi, a10 i (by omega)]
