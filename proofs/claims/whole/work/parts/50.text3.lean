/-! the reference's run over a text -/
theorem s1_same {S : St} {k : Nat} {f : Nat → Int32} : (s1 S k f).1 k = f := if_pos rfl
theorem cons1 {st : List Int32} (h : 1 ≤ st.length) : ∃ a r, st = a :: r := by
  cases st with
  | nil => exact absurd h (by simp)
  | cons a r => exact ⟨a, r, rfl⟩
theorem cons2 {st : List Int32} (h : 2 ≤ st.length) : ∃ b a r, st = b :: a :: r := by
  obtain ⟨b, r, rfl⟩ := cons1 (st := st) (by omega)
  obtain ⟨a, r, rfl⟩ := cons1 (st := r) (by simp only [List.length_cons] at h; omega)
  exact ⟨b, a, r, rfl⟩
def LM (T : St) (w : Nat) : Nat → Nat → Lns → Prop
  | _, _, [] => True
  | k, o, l :: r => T.1 14 (64 * w + k) = nI o ∧ T.1 15 (64 * w + k) = nI (o + l.1.length) ∧ T.1 16 (64 * w + k) = nI (o + l.1.length + l.2.length) ∧ cdA (T.1 17) (128 * w + o) (l.1.map mu) ∧ cdA (T.1 17) (128 * w + (o + l.1.length)) (l.2.map mu) ∧ LM T w (k + 1) (o + l.1.length + l.2.length) r
def szM : Lns → Nat
  | [] => 0
  | l :: r => l.1.length + l.2.length + szM r
theorem flat_len : ∀ L : Lns, (flat L).length = szM L + L.length
  | [] => rfl
  | l :: r => by
    have := flat_len r
    simp only [flat, szM, List.length_append, List.length_cons]; omega
theorem p_push {w b h p : Nat} {T : St} {v : Int32} (hh : h < 128) : f_X12_valueOf_67i6 (nI w) (nI b) (nI h) (nI p) (nI h) v T = some (.inl (nI (h + 1), nI (p + 1), u1 T 21 h v)) := by
  unfold f_X12_valueOf_67i6 f_X12_valueOf_163i6
  rw [zb_an _ hh (by omega), zb_l, zb_l, zb_l, cl_n (by omega), nI_1, nI_1]
theorem p_push1 {w b h p : Nat} {T : St} {v : Int32} (hh : h < 128) : f_X12_valueOf_126i6 (nI w) (nI b) (nI (h + 1)) (nI p) (nI h) v T = some (.inl (nI (h + 1), nI (p + 1), u1 T 21 h v)) := by
  unfold f_X12_valueOf_126i6 f_X12_valueOf_163i6
  rw [zb_an _ hh (by omega), zb_l, zb_l, cl_n (by omega), nI_1]
theorem w128 (w p : Nat) : (128 : Int32) * nI w + nI p = nI (128 * w + p) := by rw [show (128 : Int32) * nI w = nI (128 * w) from pk_mul 128 w, nI_add]
def pv6 (x6_11 x1 x3 x4 x5 : Int32) (S : St) : Option ((Int32 × Int32 × St) ⊕ (St)) :=
  (if x6_11 < (100 : Int32) then (if x6_11 ≤ (10 : Int32) then jx_l (x4 + (-1)) (fun x4_14 => jx_a (x4_14 - (1 : Int32)) 128 (jx_a x4_14 128 (jx_b2 (f_X12_two x6_11 (S.1 21 (Int32.toNatClampNeg (x4_14 - (1 : Int32)))) (S.1 21 (Int32.toNatClampNeg x4_14)) S) (fun r_19 S_17 => jx_a (x4_14 - (1 : Int32)) 128 (jx_l (u1 S_17 21 (Int32.toNatClampNeg (x4_14 - (1 : Int32))) r_19) (fun S_21 => f_X12_valueOf_163i6 x1 x3 x4_14 x5 S_21)))))) else (if x6_11 = (12 : Int32) then jx_a (x4 - (1 : Int32)) 128 (f_X12_valueOf_126i6 x1 x3 x4 x5 (x4 - (1 : Int32)) (-(S.1 21 (Int32.toNatClampNeg (x4 - (1 : Int32))))) S) else jx_a (x4 - (1 : Int32)) 128 ((if (S.1 21 (Int32.toNatClampNeg (x4 - (1 : Int32)))) = 0 then f_X12_valueOf_126i6 x1 x3 x4 x5 (x4 - (1 : Int32)) (1 : Int32) S else f_X12_valueOf_126i6 x1 x3 x4 x5 (x4 - (1 : Int32)) (0 : Int32) S)))) else (if x6_11 < (1000 : Int32) then jx_a (x6_11 - (100 : Int32)) 7 (f_X12_valueOf_67i6 x1 x3 x4 x5 x4 (S.1 20 (Int32.toNatClampNeg (x6_11 - (100 : Int32)))) S) else f_X12_valueOf_67i6 x1 x3 x4 x5 x4 (x6_11 - (1000 : Int32)) S))
theorem p_step {w b p : Nat} {T : St} {st : List Int32} {c : Nat} (hc : tok c) (hp : p < b) (hb : b ≤ 128) (hw : w < 3) (hcode : T.1 17 (128 * w + p) = nI (mu c)) (hst : stk (T.1 21) st) (hd : nops c ≤ st.length) (hh : st.length < 128) : ∃ v r, sv (T.1 20) c st = v :: r ∧ r.length + nops c = st.length ∧ stk (upd (T.1 21) r.length v) (v :: r) ∧ g_X12_valueOf_6 (nI w) (nI b) (nI st.length, nI p, T) = some (.inl (nI (r.length + 1), nI (p + 1), u1 T 21 r.length v)) := by
  have st0 : g_X12_valueOf_6 (nI w) (nI b) (nI st.length, nI p, T) = pv6 (nI (mu c)) (nI w) (nI b) (nI st.length) (nI p) T := by
    unfold g_X12_valueOf_6 b_X12_valueOf_6 pv6
    rw [if_neg (nI_ge hp (by omega)), w128, zb_an _ (by omega) (by omega), cl_n (by omega), hcode, zb_l]
  rw [st0]
  rcases tok_kind hc with h | h | h | h
  · have k0 : nops c = 0 := if_pos (by omega)
    have hm : mu c = c + 1000 := if_pos h
    refine ⟨nI c, st, by unfold sv; rw [if_pos h], by omega, stk_push hst, ?_⟩
    unfold pv6
    rw [hm, if_neg (by exact nI_nlt (b := 100) (by omega) (by omega)), if_neg (by exact nI_nlt (b := 1000) (by omega) (by omega)), show nI (c + 1000) - (1000 : Int32) = nI c from by rw [show (1000 : Int32) = nI 1000 from rfl, pk_sub (by omega), Nat.add_sub_cancel]]
    exact p_push hh
  · have k0 : nops c = 0 := if_pos (by omega)
    have hm : mu c = c - 10000 + 100 := by unfold mu; rw [if_neg h.1, if_pos (by omega)]
    refine ⟨T.1 20 (c - 10000), st, by unfold sv; rw [if_neg h.1, if_pos (by omega)], by omega, stk_push hst, ?_⟩
    unfold pv6
    rw [hm, if_neg (by exact nI_nlt (b := 100) (by omega) (by omega)), if_pos (by exact nI_lt (b := 1000) (by omega) (by omega)), show nI (c - 10000 + 100) - (100 : Int32) = nI (c - 10000) from by rw [show (100 : Int32) = nI 100 from rfl, pk_sub (by omega), Nat.add_sub_cancel], zb_an _ (by omega) (by omega), cl_n (by omega)]
    exact p_push hh
  · have k1 : nops c = 1 := by unfold nops; rw [if_neg (by omega), if_pos h]
    rw [k1] at hd ⊢
    obtain ⟨a, r, rfl⟩ := cons1 hd
    simp only [List.length_cons] at hh
    refine ⟨un c a, r, by unfold sv; rw [if_neg (by omega), if_neg (by omega), if_pos h], rfl, stk_push hst.2, ?_⟩
    rw [show (a :: r).length = r.length + 1 from rfl]
    unfold pv6
    rw [nI_pred]
    rcases h with h | h <;> subst h
    · rw [show mu 30000 = 12 from rfl, if_pos (by decide), if_neg (by decide), if_pos (by decide), zb_an _ (by omega) (by omega), cl_n (by omega), hst.1]
      exact p_push1 (by omega)
    · rw [show mu 30033 = 11 from rfl, if_pos (by decide), if_neg (by decide), if_neg (by decide), zb_an _ (by omega) (by omega), cl_n (by omega), hst.1]
      show (if a = 0 then _ else _) = some (Sum.inl (nI (r.length + 1), nI (p + 1), u1 T 21 r.length (if a = 0 then 1 else 0)))
      by_cases q : a = 0
      · rw [if_pos q, if_pos q]; exact p_push1 (by omega)
      · rw [if_neg q, if_neg q]; exact p_push1 (by omega)
  · have h' : 30000 < c ∧ c < 40000 ∧ ¬ (c = 30000 ∨ c = 30033) := by unfold bin at h; omega
    have k2 : nops c = 2 := by unfold nops; rw [if_neg (by omega), if_neg h'.2.2]
    have m10 : mu c ≤ 10 := by
      rcases h with h | h | h | h | h | h | h | h | h | h <;> subst h <;> decide
    rw [k2] at hd ⊢
    obtain ⟨y, a, r, rfl⟩ := cons2 hd
    simp only [List.length_cons] at hh
    refine ⟨bi c a y, r, by unfold sv; rw [if_neg (by omega), if_neg (by omega), if_neg h'.2.2], rfl, stk_push hst.2.2, ?_⟩
    have hy : T.1 21 (r.length + 1) = y := hst.1
    rw [show (y :: a :: r).length = r.length + 1 + 1 from rfl]
    unfold pv6
    rw [if_pos (by exact nI_lt (b := 100) (by omega) (by omega)), if_pos (by exact nI_le (b := 10) (by omega) (by omega)), pk_m1, zb_l, nI_pred, zb_an _ (by omega) (by omega), zb_an _ (by omega) (by omega), cl_n (by omega), cl_n (by omega), hy, hst.2.1, p_two h, zb_2, zb_an _ (by omega) (by omega), zb_l]
    unfold f_X12_valueOf_163i6
    rw [zb_l, nI_1]
theorem p_run {w b : Nat} {nm : Nat → Int32} (hb : b ≤ 128) (hw3 : w < 3) : ∀ (e : List Nat) (st : List Int32) (p d' N : Nat) (T : St), T.1 20 = nm → cdA (T.1 17) (128 * w + p) (e.map mu) → WFd e st.length d' → stk (T.1 21) st → st.length ≤ p → p + e.length ≤ b → ∃ T', jx_w (g_X12_valueOf_6 (nI w) (nI b)) (N + e.length) (nI st.length, nI p, T) = jx_w (g_X12_valueOf_6 (nI w) (nI b)) N (nI (run nm e st).length, nI (p + e.length), T') ∧ Sm [21] T T' ∧ stk (T'.1 21) (run nm e st)
  | [], st, p, d', N, T, _, _, _, hst, _, _ => ⟨T, rfl, Sm_rf, hst⟩
  | c :: e, st, p, d', N, T, hnm, hcd, hw, hst, hsp, hpl => by
    simp only [List.length_cons] at hpl
    obtain ⟨v, r, e1, e2, e3, e4⟩ := p_step hw.1 (show p < b by omega) hb hw3 hcd.1 hst hw.2.1 (by omega)
    have m1 : Sm [21] T (u1 T 21 r.length v) := Sm_one (List.mem_singleton.mpr rfl)
    have hr : (v :: r).length = st.length - nops c + 1 := by simp only [List.length_cons]; omega
    obtain ⟨T', f1, f2, f3⟩ := p_run (nm := nm) hb hw3 e (v :: r) (p + 1) d' N (u1 T 21 r.length v) (by rw [ne_u1 _ _ _ (by omega)]; exact hnm) (by rw [ne_u1 _ _ _ (by omega)]; exact hcd.2) (by rw [hr]; exact hw.2.2) (by rw [show (u1 T 21 r.length v).1 21 = upd (T.1 21) r.length v from s1_same]; exact e3) (by simp only [List.length_cons]; omega) (by omega)
    refine ⟨T', ?_, Sm_tr m1 f2, ?_⟩
    · show jx_w (g_X12_valueOf_6 (nI w) (nI b)) ((N + e.length) + 1) _ = _
      rw [jx_w_step e4]
      rw [show run nm (c :: e) st = run nm e (v :: r) from by show run nm e (sv nm c st) = _; rw [← hnm, e1], show p + (c :: e).length = p + 1 + e.length from by simp only [List.length_cons]; omega]
      exact f1
    · rw [show run nm (c :: e) st = run nm e (v :: r) from by show run nm e (sv nm c st) = _; rw [← hnm, e1]]
      exact f3
theorem p_val {w a b : Nat} {e : List Nat} {T : St} (hb : b ≤ 128) (hw3 : w < 3) (hab : b = a + e.length) (hcd : cdA (T.1 17) (128 * w + a) (e.map mu)) (hw : WFx e) : ∃ T', f_X12_valueOf (nI w) (nI a) (nI b) T = some (val (T.1 20) e, T') ∧ Sm [21] T T' := by
  obtain ⟨T', h1, h2, h3⟩ := p_run (nm := T.1 20) hb hw3 e [] a 1 (100000 - e.length - 1 + 1) T rfl hcd (hw 0) trivial (by simp) (by omega)
  rw [run_val _ hw] at h1 h3
  refine ⟨T', ?_, h2⟩
  unfold f_X12_valueOf
  rw [show FU = 100000 - e.length - 1 + 1 + e.length from by unfold FU; omega]
  rw [show ((0 : Int32), nI a, T) = (nI ([] : List Int32).length, nI a, T) from rfl, h1]
  rw [jx_w_end (r := T') (by unfold g_X12_valueOf_6 b_X12_valueOf_6; rw [if_pos (nI_le (by omega) (by omega))]), zb_s]
  unfold f_X12_valueOf_169
  rw [zb_a _ (by decide), show T'.1 21 (Int32.toNatClampNeg 0) = val (T.1 20) e from h3.1]
def tdE (w : Nat) (z : (St) ⊕ ((Int32 × St))) : Option (Int32 × St) := Sum.elim (fun z => f_X12_told_89 z) (fun z => f_X12_told_65 (nI w) z.1 z.2) z
theorem LM_congr {T T' : St} {w : Nat} (h : ∀ a, 14 ≤ a → a ≤ 17 → T'.1 a = T.1 a) : ∀ {L : Lns} {k o : Nat}, LM T w k o L → LM T' w k o L
  | [], _, _, _ => trivial
  | l :: r, k, o, q => by
    unfold LM at q ⊢
    rw [h 14 (by omega) (by omega), h 15 (by omega) (by omega), h 16 (by omega) (by omega), h 17 (by omega) (by omega)]
    exact ⟨q.1, q.2.1, q.2.2.1, q.2.2.2.1, q.2.2.2.2.1, LM_congr h q.2.2.2.2.2⟩
theorem w64 (w : Nat) : (64 : Int32) * nI w = nI (64 * w) := pk_mul 64 w
theorem p_lines {w : Nat} {nm : Nat → Int32} (hw3 : w < 3) : ∀ (L : Lns) (k o N : Nat) (T : St), LM T w k o L → WFl L → k + L.length ≤ 64 → o + szM L ≤ 128 → T.1 13 w = nI (k + L.length) → T.1 20 = nm → ∃ r T', jx_w (g_X12_told_5 (nI w)) (N + L.length + 1) (nI (64 * w + k), T) = some r ∧ tdE w r = some (tv nm L, T') ∧ Sm [21] T T'
  | [], k, o, N, T, hL, hwf, hk, ho, h13, hnm => by
    refine ⟨.inl T, T, jx_w_end ?_, rfl, Sm_rf⟩
    unfold g_X12_told_5 b_X12_told_5
    rw [zb_an _ hw3 (by omega), cl_n (by omega), h13, w64, nI_add, if_pos (nI_le (by simp) (by omega))]
  | l :: r, k, o, N, T, hL, hwf, hk, ho, h13, hnm => by
    obtain ⟨w1, w2⟩ := hwf l (List.mem_cons_self)
    obtain ⟨l1, l2, l3, l4, l5, l6⟩ := hL
    simp only [List.length_cons] at hk h13
    simp only [szM] at ho
    have st0 : g_X12_told_5 (nI w) (nI (64 * w + k), T) = (if nI (o + l.1.length) = nI o then f_X12_told_40i5 (nI w) (nI (64 * w + k)) (1 : Int32) T else f_X12_told_40i5 (nI w) (nI (64 * w + k)) (0 : Int32) T) := by
      unfold g_X12_told_5 b_X12_told_5
      rw [zb_an _ hw3 (by omega), cl_n (by omega), h13, w64, nI_add, if_neg (nI_ge (by omega) (by omega)), zb_an _ (by omega) (by omega), zb_an _ (by omega) (by omega), cl_n (by omega), l1, l2]
    have e65 : ∀ T1 : St, Sm [21] T T1 → ∃ T', f_X12_told_65 (nI w) (nI (64 * w + k)) T1 = some (val nm l.2, T') ∧ Sm [21] T T' := by
      intro T1 hs
      obtain ⟨T', v1, v2⟩ := p_val (w := w) (a := o + l.1.length) (b := o + l.1.length + l.2.length) (T := T1) (by omega) hw3 rfl (by rw [hs.1 17 (by decide)]; exact l5) w2
      refine ⟨T', ?_, Sm_tr hs v2⟩
      unfold f_X12_told_65
      rw [zb_an _ (by omega) (by omega), zb_an _ (by omega) (by omega), cl_n (by omega), hs.1 15 (by decide), hs.1 16 (by decide), l2, l3, v1, zb_2, hs.1 20 (by decide), hnm]
    by_cases q : l.1 = []
    · have ql : l.1.length = 0 := by rw [q]; rfl
      obtain ⟨T', t1, t2⟩ := e65 T Sm_rf
      refine ⟨.inr (nI (64 * w + k), T), T', jx_w_end ?_, ?_, t2⟩
      · rw [st0, if_pos (by rw [ql]; rfl)]
        unfold f_X12_told_40i5
        rw [if_neg one_ne]
      · show f_X12_told_65 (nI w) (nI (64 * w + k)) T = _
        rw [t1]; unfold tv; rw [if_pos q]
    · have w1 := w1.resolve_left q
      have ql : l.1.length ≠ 0 := fun z => q (List.eq_nil_of_length_eq_zero z)
      obtain ⟨T1, v1, v2⟩ := p_val (w := w) (a := o) (b := o + l.1.length) (T := T) (by omega) hw3 rfl l4 w1
      have st1 : g_X12_told_5 (nI w) (nI (64 * w + k), T) = (if val nm l.1 = 0 then some (.inl (nI (64 * w + (k + 1)), T1)) else some (.inr (.inr (nI (64 * w + k), T1)))) := by
        rw [st0, if_neg (fun z => by rw [nI_eq (by omega) (by omega)] at z; omega)]
        unfold f_X12_told_40i5
        rw [if_pos rfl, zb_an _ (by omega) (by omega), zb_an _ (by omega) (by omega), cl_n (by omega), l1, l2, v1, zb_2, hnm, zb_l, nI_1]
        rfl
      by_cases z : val nm l.1 = 0
      · rw [if_pos z] at st1
        obtain ⟨r', T', d1, d2, d3⟩ := p_lines (w := w) (nm := nm) hw3 r (k + 1) (o + l.1.length + l.2.length) N T1 (LM_congr (fun a h1 h2 => v2.1 a (by simp; omega)) l6) (fun x hx => hwf x (List.mem_cons_of_mem _ hx)) (by omega) (by omega) (by rw [v2.1 13 (by decide), h13]; congr 1; omega) (by rw [v2.1 20 (by decide)]; exact hnm)
        refine ⟨r', T', ?_, ?_, Sm_tr v2 d3⟩
        · show jx_w (g_X12_told_5 (nI w)) ((N + r.length + 1) + 1) _ = _
          rw [jx_w_step st1]; exact d1
        · rw [d2, show tv nm (l :: r) = (if l.1 = [] then val nm l.2 else if val nm l.1 = 0 then tv nm r else val nm l.2) from rfl, if_neg q, if_pos z]
      · rw [if_neg z] at st1
        obtain ⟨T', t1, t2⟩ := e65 T1 v2
        refine ⟨.inr (nI (64 * w + k), T1), T', jx_w_end st1, ?_, t2⟩
        show f_X12_told_65 (nI w) (nI (64 * w + k)) T1 = _
        rw [t1]; unfold tv; rw [if_neg q, if_neg z]
theorem p_told {w : Nat} {L : Lns} {T : St} (hw3 : w < 3) (hL : LM T w 0 0 L) (hw : WFl L) (h64 : L.length ≤ 64) (hs : szM L ≤ 128) (h13 : T.1 13 w = nI L.length) : ∃ T', f_X12_told (nI w) T = some (tv (T.1 20) L, T') ∧ Sm [21] T T' := by
  obtain ⟨r, T', h1, h2, h3⟩ := p_lines (nm := T.1 20) hw3 L 0 0 (100000 - L.length - 1) T hL hw (by omega) (by omega) (by rw [h13]; congr 1; omega) rfl
  refine ⟨T', ?_, h3⟩
  unfold f_X12_told
  rw [zb_l, w64, show FU = 100000 - L.length - 1 + L.length + 1 from by unfold FU; omega, show 64 * w = 64 * w + 0 from rfl, h1, zb_s]
  exact h2
