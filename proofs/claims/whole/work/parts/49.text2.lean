/-! the class's run over a text -/
theorem jx_w_step {σ ρ : Type} {g : σ → Option (σ ⊕ ρ)} {n : Nat} {s s' : σ} (h : g s = some (.inl s')) : jx_w g (n + 1) s = jx_w g n s' := by
  show (g s).bind _ = _
  rw [h]; rfl
theorem jx_w_end {σ ρ : Type} {g : σ → Option (σ ⊕ ρ)} {n : Nat} {s : σ} {r : ρ} (h : g s = some (.inr r)) : jx_w g (n + 1) s = some r := by
  show (g s).bind _ = _
  rw [h]; rfl
theorem q_push {t h p : Nat} {S : St} {v : Int32} (hh : h < 128) : f_X8_worked_165i4 t (nI h) (nI p) (nI h) v S = some (.inl (nI (h + 1), nI (p + 1), u1 S (40 + 4 * t + 2) h v)) := by
  unfold f_X8_worked_165i4 f_X8_worked_169i4
  rw [zb_an _ hh (by omega), zb_l, zb_l, zb_l, cl_n (by omega), nI_1, nI_1]
theorem q_step0 {t p len h c k : Nat} {S : St} (hp : p < len) (hlen : S.1 (40 + 4 * t) 3 = nI len) (hl : len ≤ 128) (hcode : S.1 (40 + 4 * t + 1) p = nI c) (ho : f_X8_operandsOf (nI c) S = some (nI k, S)) (hk : k ≤ 2) (hd : k ≤ h) (hh : h < 128 + k) : g_X8_worked_4 t (nI h, nI p, S) = if k = 0 then f_X8_worked_70i4 t (nI h) (nI p) (nI c) (nI 0) 0 S else f_X8_worked_70i4 t (nI (h - k)) (nI p) (nI c) (nI k) (S.1 (40 + 4 * t + 2) (h - k)) S := by
  unfold g_X8_worked_4 b_X8_worked_4
  rw [hlen, if_neg (nI_ge hp (by omega)), if_neg (by exact nI_ge (b := 128) (by omega) (by omega)), zb_an _ (by omega) (by omega), cl_n (by omega), hcode, zb_l, ho, zb_2, if_neg (nI_nlt hd (by omega)), pk_sub hd, if_pos (by exact nI_lt (b := 128) (by omega) (by omega)), zb_l]
  by_cases q : k = 0
  · subst q
    rw [if_pos (by decide), if_pos rfl]; rfl
  · rw [if_neg (nI_nle (by omega) (by omega)), if_neg q, zb_an _ (by omega) (by omega), cl_n (by omega)]
theorem q_step {t p len : Nat} {S : St} {st : List Int32} {c : Nat} (hc : tok c) (hp : p < len) (hlen : S.1 (40 + 4 * t) 3 = nI len) (hl : len ≤ 128) (hcode : S.1 (40 + 4 * t + 1) p = nI c) (hst : stk (S.1 (40 + 4 * t + 2)) st) (hd : nops c ≤ st.length) (hh : st.length < 128) : ∃ v r, sv (S.1 (40 + 4 * t + 3)) c st = v :: r ∧ r.length + nops c = st.length ∧ stk (upd (S.1 (40 + 4 * t + 2)) r.length v) (v :: r) ∧ g_X8_worked_4 t (nI st.length, nI p, S) = some (.inl (nI (r.length + 1), nI (p + 1), u1 S (40 + 4 * t + 2) r.length v)) := by
  have hk2 : nops c ≤ 2 := by unfold nops; split; omega; split <;> omega
  rw [q_step0 hp hlen hl hcode (q_ops1 hc S) hk2 hd (by omega)]
  rcases tok_kind hc with h | h | h | h
  · have k0 : nops c = 0 := if_pos (by omega)
    refine ⟨nI c, st, by unfold sv; rw [if_pos h], by omega, stk_push hst, ?_⟩
    rw [k0, if_pos rfl]
    unfold f_X8_worked_70i4 f_X8_worked_90i4 f_X8_worked_126i4 f_X8_told
    rw [if_pos (by decide), if_neg (fun q => by rw [show (20000 : Int32) = nI 20000 from rfl, nI_eq (by omega) (by omega)] at q; omega), if_neg (fun q => by rw [show (20001 : Int32) = nI 20001 from rfl, nI_eq (by omega) (by omega)] at q; omega), if_neg (fun q => by rw [show (20001 : Int32) = nI 20001 from rfl, nI_eq (by omega) (by omega)] at q; omega), if_neg (by exact nI_ge (b := 30000) (by omega) (by omega)), zb_l, if_neg (by have := pk_sneg (a := c) (b := 10000) (by omega) (by omega); rw [i32_lt] at this; rw [i32_le]; exact fun q => absurd this (by have h0 : (0 : Int32).toInt = 0 := rfl; rw [h0] at q ⊢; exact Int.not_lt.mpr q)), zb_2]
    exact q_push hh
  · have k0 : nops c = 0 := if_pos (by omega)
    refine ⟨S.1 (40 + 4 * t + 3) (c - 10000), st, by unfold sv; rw [if_neg h.1, if_pos (by omega)], by omega, stk_push hst, ?_⟩
    rw [k0, if_pos rfl]
    unfold f_X8_worked_70i4 f_X8_worked_90i4 f_X8_worked_126i4 f_X8_told
    rw [if_pos (by decide), if_neg (fun q => by rw [show (20000 : Int32) = nI 20000 from rfl, nI_eq (by omega) (by omega)] at q; omega), if_neg (fun q => by rw [show (20001 : Int32) = nI 20001 from rfl, nI_eq (by omega) (by omega)] at q; omega), if_neg (fun q => by rw [show (20001 : Int32) = nI 20001 from rfl, nI_eq (by omega) (by omega)] at q; omega), if_neg (by exact nI_ge (b := 30000) (by omega) (by omega)), zb_l, show nI c - (10000 : Int32) = nI (c - 10000) from pk_sub (a := c) (b := 10000) (by omega), if_pos (nI_pos' (by omega)), if_neg (by exact nI_ge (b := 7) (by omega) (by omega)), zb_an _ (by omega) (by omega), cl_n (by omega), zb_2]
    exact q_push hh
  · have k1 : nops c = 1 := by unfold nops; rw [if_neg (by omega), if_pos h]
    rw [k1] at hd ⊢
    match st, hd, hst, hh with
    | a :: r, _, hst, hh =>
      refine ⟨un c a, r, by unfold sv; rw [if_neg (by omega), if_neg (by omega), if_pos h], rfl, stk_push hst.2, ?_⟩
      rw [if_neg (by decide), show (a :: r).length - 1 = r.length from rfl, hst.1]
      unfold f_X8_worked_70i4 f_X8_worked_90i4 f_X8_worked_126i4
      rw [if_pos (by decide), if_neg (fun q => by rw [show (20000 : Int32) = nI 20000 from rfl, nI_eq (by omega) (by omega)] at q; omega), if_neg (fun q => by rw [show (20001 : Int32) = nI 20001 from rfl, nI_eq (by omega) (by omega)] at q; omega), if_neg (fun q => by rw [show (20001 : Int32) = nI 20001 from rfl, nI_eq (by omega) (by omega)] at q; omega), if_pos (by exact nI_le (a := 30000) (by omega) (by omega)), q_join1 h, zb_2]
      exact q_push (by simp only [List.length_cons] at hh; omega)
  · have h' : 30000 < c ∧ c < 40000 ∧ ¬ (c = 30000 ∨ c = 30033) := by unfold bin at h; omega
    have k2 : nops c = 2 := by unfold nops; rw [if_neg (by omega), if_neg h'.2.2]
    rw [k2] at hd ⊢
    match st, hd, hst, hh with
    | b :: a :: r, _, hst, hh =>
      refine ⟨bi c a b, r, by unfold sv; rw [if_neg (by omega), if_neg (by omega), if_neg h'.2.2], rfl, stk_push hst.2.2, ?_⟩
      have hb : S.1 (40 + 4 * t + 2) (r.length + 1) = b := hst.1
      simp only [List.length_cons] at hh
      rw [if_neg (by decide), show (b :: a :: r).length - 2 = r.length from rfl, hst.2.1]
      unfold f_X8_worked_70i4 f_X8_worked_90i4 f_X8_worked_126i4
      rw [if_neg (by decide), nI_1, zb_an _ (by omega) (by omega), cl_n (by omega), hb, if_neg (fun q => by rw [show (20000 : Int32) = nI 20000 from rfl, nI_eq (by omega) (by omega)] at q; omega), if_neg (fun q => by rw [show (20001 : Int32) = nI 20001 from rfl, nI_eq (by omega) (by omega)] at q; omega), if_neg (fun q => by rw [show (20001 : Int32) = nI 20001 from rfl, nI_eq (by omega) (by omega)] at q; omega), if_pos (by exact nI_le (a := 30000) (by omega) (by omega)), q_join2 h, zb_2]
      exact q_push (by omega)
theorem q_run {t len : Nat} {nm : Nat → Int32} (hl : len ≤ 128) : ∀ (e : List Nat) (st : List Int32) (p d' N : Nat) (S : St), S.1 (40 + 4 * t) 3 = nI len → S.1 (40 + 4 * t + 3) = nm → cdA (S.1 (40 + 4 * t + 1)) p e → WFd e st.length d' → stk (S.1 (40 + 4 * t + 2)) st → st.length ≤ p → p + e.length ≤ len → ∃ S', jx_w (g_X8_worked_4 t) (N + e.length) (nI st.length, nI p, S) = jx_w (g_X8_worked_4 t) N (nI (run nm e st).length, nI (p + e.length), S') ∧ Sm [40 + 4 * t + 2] S S' ∧ stk (S'.1 (40 + 4 * t + 2)) (run nm e st)
  | [], st, p, d', N, S, _, _, _, _, hst, _, _ => ⟨S, rfl, Sm_rf, hst⟩
  | c :: e, st, p, d', N, S, hlen, hnm, hcd, hw, hst, hsp, hpl => by
    simp only [List.length_cons] at hpl
    obtain ⟨v, r, e1, e2, e3, e4⟩ := q_step hw.1 (by omega) hlen hl hcd.1 hst hw.2.1 (by omega)
    have m1 : Sm [40 + 4 * t + 2] S (u1 S (40 + 4 * t + 2) r.length v) := Sm_one (List.mem_singleton.mpr rfl)
    have hr : (v :: r).length = st.length - nops c + 1 := by simp only [List.length_cons]; omega
    obtain ⟨S', f1, f2, f3⟩ := q_run (nm := nm) hl e (v :: r) (p + 1) d' N (u1 S (40 + 4 * t + 2) r.length v) (by rw [ne_u1 _ _ _ (by omega)]; exact hlen) (by rw [ne_u1 _ _ _ (by omega)]; exact hnm) (by rw [ne_u1 _ _ _ (by omega)]; exact hcd.2) (by rw [hr]; exact hw.2.2) (by rw [show (u1 S (40 + 4 * t + 2) r.length v).1 (40 + 4 * t + 2) = upd (S.1 (40 + 4 * t + 2)) r.length v from if_pos rfl]; exact e3) (by simp only [List.length_cons]; omega) (by omega)
    refine ⟨S', ?_, Sm_tr m1 f2, ?_⟩
    · show jx_w (g_X8_worked_4 t) ((N + e.length) + 1) _ = _
      rw [jx_w_step e4]
      rw [show run nm (c :: e) st = run nm e (v :: r) from by show run nm e (sv nm c st) = _; rw [← hnm, e1], show p + (c :: e).length = p + 1 + e.length from by simp only [List.length_cons]; omega]
      exact f1
    · rw [show run nm (c :: e) st = run nm e (v :: r) from by show run nm e (sv nm c st) = _; rw [← hnm, e1]]
      exact f3
/-! lines -/
abbrev Lns : Type := List (List Nat × List Nat)
def flat : Lns → List Nat
  | [] => []
  | l :: r => l.1 ++ (l.2 ++ ((if l.1 = [] then 20000 else 20001) :: flat r))
def WFl (L : Lns) : Prop := ∀ l, l ∈ L → (l.1 = [] ∨ WFx l.1) ∧ WFx l.2
def tv (nm : Nat → Int32) : Lns → Int32
  | [] => 0
  | l :: r => if l.1 = [] then val nm l.2 else if val nm l.1 = 0 then tv nm r else val nm l.2
theorem q_end1 {t p len : Nat} {S : St} {v : Int32} (hp : p < len) (hlen : S.1 (40 + 4 * t) 3 = nI len) (hl : len ≤ 128) (hcode : S.1 (40 + 4 * t + 1) p = nI 20000) (hst : stk (S.1 (40 + 4 * t + 2)) [v]) : g_X8_worked_4 t (nI 1, nI p, S) = some (.inr (.inr (.inr (nI 20000, v, 0, S)))) := by
  rw [q_step0 (k := 1) hp hlen hl hcode rfl (by omega) (by omega) (by omega), if_neg (by decide), show S.1 (40 + 4 * t + 2) (1 - 1) = v from hst.1]
  unfold f_X8_worked_70i4 f_X8_worked_90i4
  rw [if_pos (by decide), if_pos (by decide)]
theorem q_end2 {t p len : Nat} {S : St} {v w : Int32} (hp : p < len) (hlen : S.1 (40 + 4 * t) 3 = nI len) (hl : len ≤ 128) (hcode : S.1 (40 + 4 * t + 1) p = nI 20001) (hst : stk (S.1 (40 + 4 * t + 2)) [v, w]) : g_X8_worked_4 t (nI 2, nI p, S) = if w = 0 then some (.inl (nI 0, nI (p + 1), S)) else some (.inr (.inr (.inr (nI 20001, w, v, S)))) := by
  rw [q_step0 (k := 2) hp hlen hl hcode rfl (by omega) (by omega) (by omega), if_neg (by decide), show S.1 (40 + 4 * t + 2) (2 - 2) = w from hst.2.1]
  unfold f_X8_worked_70i4 f_X8_worked_90i4 f_X8_worked_126i4 f_X8_worked_169i4
  rw [if_neg (by decide), nI_1, zb_an _ (by omega) (by omega), cl_n (by omega), show S.1 (40 + 4 * t + 2) (2 - 2 + 1) = v from hst.1, if_neg (show ¬ nI 20001 = 20000 by decide), if_pos (show nI 20001 = 20001 by decide), if_pos (show nI 20001 = 20001 by decide), zb_l, nI_1]
def wkE (t : Nat) (z : (St) ⊕ ((St) ⊕ ((Int32 × Int32 × Int32 × St)))) : Option (Int32 × St) := Sum.elim (fun z => f_X8_worked_175 t z) (fun z => Sum.elim (fun z => f_X8_worked_48 t z) (fun z => f_X8_worked_111 t z.1 z.2.1 z.2.2.1 z.2.2.2) z) z
theorem q_lines {t len : Nat} {nm : Nat → Int32} (hl : len ≤ 128) : ∀ (L : Lns) (p N : Nat) (S : St), S.1 (40 + 4 * t) 3 = nI len → S.1 (40 + 4 * t + 3) = nm → cdA (S.1 (40 + 4 * t + 1)) p (flat L) → WFl L → p + (flat L).length = len → ∃ r S', jx_w (g_X8_worked_4 t) (N + (flat L).length + 1) (nI 0, nI p, S) = some r ∧ wkE t r = some (tv nm L, S') ∧ Sm [40 + 4 * t + 2] S S'
  | [], p, N, S, hlen, hnm, hcd, hw, hpl => by
    refine ⟨.inl S, S, jx_w_end ?_, rfl, Sm_rf⟩
    unfold g_X8_worked_4 b_X8_worked_4
    rw [hlen, if_pos (nI_le (by simp only [flat, List.length_nil] at hpl; omega) (by omega))]
  | l :: r, p, N, S, hlen, hnm, hcd, hw, hpl => by
    obtain ⟨w1, w2⟩ := hw l (List.mem_cons_self)
    simp only [flat, List.length_append, List.length_cons] at hpl
    unfold flat at hcd
    rw [cdA_app, cdA_app] at hcd
    obtain ⟨c1, c2, c3⟩ := hcd
    by_cases q : l.1 = []
    · rw [q] at c1 c2 c3 hpl
      rw [if_pos rfl] at c3
      simp only [List.length_nil, Nat.add_zero] at c2 c3 hpl
      obtain ⟨S1, a1, a2, a3⟩ := q_run (nm := nm) hl l.2 [] p 1 (N + (flat r).length + 1 + 1) S hlen hnm c2 (w2 0) trivial (by simp) (by omega)
      rw [run_val nm w2 []] at a1 a3
      refine ⟨.inr (.inr (nI 20000, val nm l.2, 0, S1)), S1, ?_, ?_, a2⟩
      · rw [show N + (flat (l :: r)).length + 1 = N + (flat r).length + 1 + 1 + l.2.length from by simp only [flat, q, List.nil_append, List.length_append, List.length_cons]; omega]
        rw [show (nI 0, nI p, S) = (nI ([] : List Int32).length, nI p, S) from rfl, a1]
        exact jx_w_end (q_end1 (v := val nm l.2) (by omega) (by rw [a2.1 _ (by simp)]; exact hlen) hl (by rw [a2.1 _ (by simp)]; exact c3.1) a3)
      · show some (val nm l.2, S1) = _
        unfold tv
        rw [if_pos q]
    · have w1 := w1.resolve_left q
      rw [if_neg q] at c3
      obtain ⟨S1, a1, a2, a3⟩ := q_run (nm := nm) hl l.1 [] p 1 (N + (flat r).length + 1 + 1 + l.2.length) S hlen hnm c1 (w1 0) trivial (by simp) (by omega)
      rw [run_val nm w1 []] at a1 a3
      obtain ⟨S2, b1, b2, b3⟩ := q_run (nm := nm) hl l.2 [val nm l.1] (p + l.1.length) 2 (N + (flat r).length + 1 + 1) S1 (by rw [a2.1 _ (by simp)]; exact hlen) (by rw [a2.1 _ (by simp)]; exact hnm) (by rw [a2.1 _ (by simp)]; exact c2) (w2 1) a3 (by have : l.1.length ≠ 0 := fun z => q (List.eq_nil_of_length_eq_zero z); simp only [List.length_cons, List.length_nil]; omega) (by omega)
      rw [run_val nm w2 _] at b1 b3
      have ab := Sm_tr a2 b2
      have fl : N + (flat (l :: r)).length + 1 = N + (flat r).length + 1 + 1 + l.2.length + l.1.length := by simp only [flat, List.length_append, List.length_cons]; omega
      have e2 := q_end2 (t := t) (p := p + l.1.length + l.2.length) (S := S2) (v := val nm l.2) (w := val nm l.1) (len := len) (by omega) (by rw [ab.1 _ (by simp)]; exact hlen) hl (by rw [ab.1 _ (by simp)]; exact c3.1) b3
      by_cases z : val nm l.1 = 0
      · rw [if_pos z] at e2
        obtain ⟨r', S3, d1, d2, d3⟩ := q_lines (t := t) (nm := nm) hl r (p + l.1.length + l.2.length + 1) N S2 (by rw [ab.1 _ (by simp)]; exact hlen) (by rw [ab.1 _ (by simp)]; exact hnm) (by rw [ab.1 _ (by simp)]; exact c3.2) (fun x hx => hw x (List.mem_cons_of_mem _ hx)) (by omega)
        refine ⟨r', S3, ?_, ?_, Sm_tr ab d3⟩
        · rw [fl, show (nI 0, nI p, S) = (nI ([] : List Int32).length, nI p, S) from rfl, a1]
          rw [show (nI (val nm l.1 :: ([] : List Int32)).length, nI (p + l.1.length), S1) = (nI [val nm l.1].length, nI (p + l.1.length), S1) from rfl, b1]
          rw [show (nI (val nm l.2 :: [val nm l.1]).length, nI (p + l.1.length + l.2.length), S2) = (nI 2, nI (p + l.1.length + l.2.length), S2) from rfl, jx_w_step e2]
          exact d1
        · rw [d2, show tv nm (l :: r) = (if l.1 = [] then val nm l.2 else if val nm l.1 = 0 then tv nm r else val nm l.2) from rfl, if_neg q, if_pos z]
      · rw [if_neg z] at e2
        refine ⟨.inr (.inr (nI 20001, val nm l.1, val nm l.2, S2)), S2, ?_, ?_, ab⟩
        · rw [fl, show (nI 0, nI p, S) = (nI ([] : List Int32).length, nI p, S) from rfl, a1]
          rw [show (nI (val nm l.1 :: ([] : List Int32)).length, nI (p + l.1.length), S1) = (nI [val nm l.1].length, nI (p + l.1.length), S1) from rfl, b1]
          rw [show (nI (val nm l.2 :: [val nm l.1]).length, nI (p + l.1.length + l.2.length), S2) = (nI 2, nI (p + l.1.length + l.2.length), S2) from rfl]
          exact jx_w_end e2
        · show some (val nm l.2, S2) = _
          unfold tv
          rw [if_neg q, if_neg z]
theorem q_worked {t : Nat} {L : Lns} {S : St} (hlen : S.1 (40 + 4 * t) 3 = nI (flat L).length) (hl : (flat L).length ≤ 128) (hcd : cdA (S.1 (40 + 4 * t + 1)) 0 (flat L)) (hw : WFl L) : ∃ S', f_X8_worked t S = some (tv (S.1 (40 + 4 * t + 3)) L, S') ∧ Sm [40 + 4 * t + 2] S S' := by
  obtain ⟨r, S', h1, h2, h3⟩ := q_lines (t := t) (nm := S.1 (40 + 4 * t + 3)) hl L 0 (100000 - (flat L).length - 1) S hlen rfl hcd hw (by omega)
  refine ⟨S', ?_, h3⟩
  unfold f_X8_worked
  rw [show FU = 100000 - (flat L).length - 1 + (flat L).length + 1 from by unfold FU; omega]
  rw [show ((0 : Int32), (0 : Int32), S) = (nI 0, nI 0, S) from rfl, h1, zb_s]
  exact h2
