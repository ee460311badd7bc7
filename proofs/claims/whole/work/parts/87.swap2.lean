variable {S T : St}
/-! swaps: the search -/
/-- what a search for a swap stands on -/
def Sg (L : Lns) (n A : Nat) (la land day : Int32) (S T : St) : Prop := Rs n S T ∧ TX 0 L S T ∧ la / 10000 = land ∧ la - la / 10000 * 10000 = nI A ∧ A < 10000 ∧ ¬ (A ≤ 1920 ∧ rch (cl (cnS S 6 land) (wnS S) n) A = true)
theorem so_dm {s o n : Nat} (h : o < n) : (s * n + o) / n = s ∧ (s * n + o) % n = o := by
  rw [Nat.mul_comm]
  exact ⟨by rw [Nat.mul_add_div (by omega), Nat.div_eq_of_lt h]; rfl, by rw [Nat.mul_add_mod, Nat.mod_eq_of_lt h]⟩
theorem so_lt {s o n : Nat} (hn : n ≤ 8) (hs : s < n) (h : o < n) : s * n + o < n * n ∧ s * n + o < 64 := by
  have h1 : (s + 1) * n ≤ n * n := Nat.mul_le_mul_right n (by omega)
  have h2 : n * n ≤ 8 * 8 := Nat.mul_le_mul hn hn
  rw [Nat.add_mul, Nat.one_mul] at h1
  omega
/-- the reference's last tries, when the giver would give all of both -/
theorem p_tail {la day : Int32} {b so : Nat} {T1 : St} (hb : b ≤ 6) : ∀ d i, i + d = 4 → b ≤ i → ∀ F, d < F → jx_w (g_X12_swap_68 la day (nI b) (nI so)) F (nI i, T1) = some (.inl T1)
  | 0, i, hi, hbi, F, hF => by
    obtain ⟨N, rfl⟩ : ∃ N, F = N + 1 := ⟨F - 1, by omega⟩
    refine jx_w_end ?_
    show b_X12_swap_68 la day (nI b) (nI so) (nI i) T1 = _
    unfold b_X12_swap_68
    rw [if_pos (show (3 : Int32) < nI i from nI_lt (a := 3) (by omega) (by omega))]
  | d + 1, i, hi, hbi, F, hF => by
    obtain ⟨N, rfl⟩ : ∃ N, F = N + 1 := ⟨F - 1, by omega⟩
    rw [jx_w_step (s' := (nI (i + 1), T1)), p_tail hb d (i + 1) (by omega) (by omega) N (by omega)]
    show b_X12_swap_68 la day (nI b) (nI so) (nI i) T1 = _
    unfold b_X12_swap_68
    rw [if_neg (show ¬ (3 : Int32) < nI i from nI_nlt (a := 3) (by omega) (by omega)), p_in, zb_2, if_neg (show ¬ (1 ≤ nI b - nI i ∧ nI b - nI i ≤ 3) from fun z => by have := z.1; rw [i32_le, pk_sub_toInt (by omega) (by omega), show (1 : Int32).toInt = 1 from rfl] at this; omega), if_pos rfl]
    unfold f_X12_swap_128i68 f_X12_swap_129i68
    rw [if_pos rfl, zb_l, nI_1]
/-- for one giver and one taker -/
theorem qp_in {L : Lns} {n A b s o : Nat} {la land day : Int32} (h : Sg L n A la land day S T) (hb : 2 ≤ b ∧ b ≤ 6) (hsn : s < n) (hon : o < n) : ∀ d i, i + d = 4 → 1 ≤ i → ∀ S1 T1, KX S S1 → KM T T1 → ∀ F, d < F → ∃ S2 T2, KX S S2 ∧ KM T T2 ∧ ((jx_w (g_X11_leastSwap_33 la day (nI b) (nI s) (nI o)) F (nI i, S1) = some (.inl S2) ∧ jx_w (g_X12_swap_68 la day (nI b) (nI (s * n + o))) F (nI i, T1) = some (.inl T2)) ∨ ∃ i', i' < b ∧ i' ≤ 3 ∧ 1 ≤ i' ∧ jx_w (g_X11_leastSwap_33 la day (nI b) (nI s) (nI o)) F (nI i, S1) = some (.inr (nI i', nI (b - i'), S2)) ∧ jx_w (g_X12_swap_68 la day (nI b) (nI (s * n + o))) F (nI i, T1) = some (.inr (nI i', T2)))
  | 0, i, hi, h1, S1, T1, kS, kT, F, hF => by
    obtain ⟨N, rfl⟩ : ∃ N, F = N + 1 := ⟨F - 1, by omega⟩
    refine ⟨S1, T1, kS, kT, Or.inl ⟨jx_w_end ?_, jx_w_end ?_⟩⟩
    · show b_X11_leastSwap_33 la day (nI b) (nI s) (nI o) (nI i) S1 = _
      unfold b_X11_leastSwap_33
      rw [if_pos (show (3 : Int32) < nI i from nI_lt (a := 3) (by omega) (by omega))]
    · show b_X12_swap_68 la day (nI b) (nI (s * n + o)) (nI i) T1 = _
      unfold b_X12_swap_68
      rw [if_pos (show (3 : Int32) < nI i from nI_lt (a := 3) (by omega) (by omega))]
  | d + 1, i, hi, h1, S1, T1, kS, kT, F, hF => by
    obtain ⟨hs, hL, e1, e2, hA, hno⟩ := id h
    obtain ⟨hn, hS, hT, hv⟩ := id hs
    by_cases hbi : b ≤ i
    · refine ⟨S1, T1, kS, kT, Or.inl ⟨?_, p_tail (by omega) (d + 1) i (by omega) hbi F hF⟩⟩
      obtain ⟨N, rfl⟩ : ∃ N, F = N + 1 := ⟨F - 1, by omega⟩
      refine jx_w_end ?_
      show b_X11_leastSwap_33 la day (nI b) (nI s) (nI o) (nI i) S1 = _
      unfold b_X11_leastSwap_33
      rw [if_neg (show ¬ (3 : Int32) < nI i from nI_nlt (a := 3) (by omega) (by omega)), if_pos (nI_le hbi (by omega))]
    · obtain ⟨N, rfl⟩ : ∃ N, F = N + 1 := ⟨F - 1, by omega⟩
      have hX : g_X11_leastSwap_33 la day (nI b) (nI s) (nI o) (nI i, S1) = b_X11_leastSwap_33 la day (nI b) (nI s) (nI o) (nI i) S1 := rfl
      have hM : g_X12_swap_68 la day (nI b) (nI (s * n + o)) (nI i, T1) = b_X12_swap_68 la day (nI b) (nI (s * n + o)) (nI i) T1 := rfl
      unfold b_X11_leastSwap_33 f_X11_leastSwap_111i33 at hX
      unfold b_X12_swap_68 f_X12_swap_128i68 f_X12_swap_129i68 at hM
      rw [if_neg (show ¬ (3 : Int32) < nI i from nI_nlt (a := 3) (by omega) (by omega)), if_neg (nI_ge (by omega) (by omega)), zb_l, pk_sub (by omega)] at hX
      rw [if_neg (show ¬ (3 : Int32) < nI i from nI_nlt (a := 3) (by omega) (by omega)), p_in, zb_2, pk_sub (by omega)] at hM
      simp only [zb_l, nI_1, reduceIte, one_ne] at hX hM
      by_cases hj : b - i ≤ 3
      · have hj1 : (1 : Int32) ≤ nI (b - i) ∧ nI (b - i) ≤ 3 := ⟨nI_le (a := 1) (by omega) (by omega), nI_le (b := 3) hj (by omega)⟩
        obtain ⟨so1, so2⟩ := so_lt hn hsn hon
        obtain ⟨dm1, dm2⟩ := so_dm (s := s) hon
        have hT0 : T1.1 0 0 = nI n := by rw [kT.2.1 0 (by decide)]; exact hT
        have hnn : ¬ nI n = 0 := fun z => by rw [show (0 : Int32) = nI 0 from rfl, nI_eq (by omega) (by omega)] at z; omega
        have e2' := e2
        rw [e1] at e2'
        rw [if_neg (show ¬ (3 : Int32) < nI (b - i) from nI_nlt (a := 3) hj (by omega))] at hX
        rw [if_pos hj1, if_neg one_ne, c10000, c10000, hT0, zb_d _ hnn, zb_d _ hnn, e1, e2', pk_rem (by omega) (by omega) (by omega), pk_div (by omega) (by omega) (by omega), dm1, dm2] at hM
        obtain ⟨bb, S2, T2, k2, j2, g5, g6⟩ := qp_gift hs hL kS kT hsn hon ⟨h1, by omega⟩ ⟨by omega, hj⟩ e1 e2 hA hno
        have hX2 := hX.trans (g5 (β := (Int32 × St) ⊕ (St ⊕ (Int32 × Int32 × St))) (fun S' => some (.inl (nI (i + 1), S'))) (fun S' => some (.inr (.inr (nI i, nI (b - i), S')))))
        rw [g6, zb_2] at hM
        cases bb with
        | true =>
          rw [if_pos rfl] at hX2
          rw [if_pos rfl, if_neg one_ne] at hM
          exact ⟨S2, T2, k2, j2, Or.inr ⟨i, by omega, by omega, h1, jx_w_end hX2, jx_w_end hM⟩⟩
        | false =>
          rw [if_neg (by decide)] at hX2
          rw [if_neg (show ¬ false = true by decide), if_pos rfl] at hM
          obtain ⟨S3, T3, k3, j3, r⟩ := qp_in h hb hsn hon d (i + 1) (by omega) (by omega) S2 T2 k2 j2 N (by omega)
          refine ⟨S3, T3, k3, j3, ?_⟩
          rw [jx_w_step hX2, jx_w_step hM]
          exact r
      · rw [if_pos (show (3 : Int32) < nI (b - i) from nI_lt (a := 3) (by omega) (by omega))] at hX
        rw [if_neg (show ¬ (1 ≤ nI (b - i) ∧ nI (b - i) ≤ 3) from fun z => hj ((nI_leI (b := 3) (by omega) (by omega)).mp z.2)), if_pos rfl] at hM
        obtain ⟨S3, T3, k3, j3, r⟩ := qp_in h hb hsn hon d (i + 1) (by omega) (by omega) S1 T1 kS kT N (by omega)
        refine ⟨S3, T3, k3, j3, ?_⟩
        rw [jx_w_step hX, jx_w_step hM]
        exact r
/-- for one giver -/
theorem qp_mid {L : Lns} {n A b s : Nat} {la land day : Int32} (h : Sg L n A la land day S T) (hb : 2 ≤ b ∧ b ≤ 6) (hsn : s < n) : ∀ d o, o + d = n → ∀ S1 T1, KX S S1 → KM T T1 → ∀ F, d < F → ∀ G, ∃ S2 T2, KX S S2 ∧ KM T T2 ∧ ((jx_w (g_X11_leastSwap_18 la day (nI b) (nI s)) F (nI o, S1) = some (.inl S2) ∧ jx_w (g_X12_swap_51 la day (nI b)) (G + d) (nI (s * n + o), T1) = jx_w (g_X12_swap_51 la day (nI b)) G (nI ((s + 1) * n), T2)) ∨ ∃ o' i', o' < n ∧ i' < b ∧ i' ≤ 3 ∧ 1 ≤ i' ∧ jx_w (g_X11_leastSwap_18 la day (nI b) (nI s)) F (nI o, S1) = some (.inr (nI o', nI i', nI (b - i'), S2)) ∧ jx_w (g_X12_swap_51 la day (nI b)) (G + d) (nI (s * n + o), T1) = some (.inr (nI (s * n + o'), nI i', T2)))
  | 0, o, ho, S1, T1, kS, kT, F, hF, G => by
    obtain ⟨hs, hL, e1, e2, hA, hno⟩ := id h
    obtain ⟨hn, hS, hT, hv⟩ := id hs
    obtain ⟨N, rfl⟩ : ∃ N, F = N + 1 := ⟨F - 1, by omega⟩
    refine ⟨S1, T1, kS, kT, Or.inl ⟨jx_w_end ?_, ?_⟩⟩
    · show b_X11_leastSwap_18 la day (nI b) (nI s) (nI o) S1 = _
      unfold b_X11_leastSwap_18
      rw [kS.1 1 (by decide), hS, if_pos (nI_le (by omega) (by omega))]
    · rw [show s * n + o = (s + 1) * n by rw [Nat.add_mul]; omega]
      rfl
  | d + 1, o, ho, S1, T1, kS, kT, F, hF, G => by
    obtain ⟨hs, hL, e1, e2, hA, hno⟩ := id h
    obtain ⟨hn, hS, hT, hv⟩ := id hs
    obtain ⟨N, rfl⟩ : ∃ N, F = N + 1 := ⟨F - 1, by omega⟩
    obtain ⟨so1, so2⟩ := so_lt hn hsn (show o < n by omega)
    have hnn : n * n ≤ 8 * 8 := Nat.mul_le_mul hn hn
    obtain ⟨S2, T2, k2, j2, r⟩ := qp_in h hb hsn (show o < n by omega) 3 1 rfl (by omega) S1 T1 kS kT FU (by unfold FU; omega)
    have hX : g_X11_leastSwap_18 la day (nI b) (nI s) (nI o, S1) = b_X11_leastSwap_18 la day (nI b) (nI s) (nI o) S1 := rfl
    have hM : g_X12_swap_51 la day (nI b) (nI (s * n + o), T1) = b_X12_swap_51 la day (nI b) (nI (s * n + o)) T1 := rfl
    unfold b_X11_leastSwap_18 f_X11_leastSwap_117i18 at hX
    unfold b_X12_swap_51 f_X12_swap_176i51 at hM
    rw [kS.1 1 (by decide), hS, if_neg (nI_ge (by omega) (by omega)), show ((1 : Int32), S1) = (nI 1, S1) from rfl] at hX
    rw [kT.2.1 0 (by decide), hT, pk_mul, if_neg (nI_ge so1 (by omega)), show ((1 : Int32), T1) = (nI 1, T1) from rfl] at hM
    rcases r with ⟨r1, r2⟩ | ⟨i', q1, q2, q3, r1, r2⟩
    · rw [r1, zb_s] at hX
      rw [r2, zb_s] at hM
      simp only [Sum.elim_inl, zb_l, nI_1] at hX hM
      obtain ⟨S3, T3, k3, j3, r⟩ := qp_mid h hb hsn d (o + 1) (by omega) S2 T2 k2 j2 N (by omega) G
      refine ⟨S3, T3, k3, j3, ?_⟩
      rw [jx_w_step hX, show G + (d + 1) = G + d + 1 from rfl, jx_w_step hM]
      exact r
    · rw [r1, zb_s] at hX
      rw [r2, zb_s] at hM
      exact ⟨S2, T2, k2, j2, Or.inr ⟨o, i', by omega, q1, q2, q3, jx_w_end hX, jx_w_end (n := G + d) hM⟩⟩
/-- for all givers -/
theorem qp_out {L : Lns} {n A b : Nat} {la land day : Int32} (h : Sg L n A la land day S T) (hb : 2 ≤ b ∧ b ≤ 6) : ∀ d s, s + d = n → ∀ S1 T1, KX S S1 → KM T T1 → ∀ F, d < F → ∀ G, ∃ S2 T2, KX S S2 ∧ KM T T2 ∧ ((jx_w (g_X11_leastSwap_3 la day (nI b)) F (nI s, S1) = some (.inl S2) ∧ jx_w (g_X12_swap_51 la day (nI b)) (G + d * n) (nI (s * n), T1) = jx_w (g_X12_swap_51 la day (nI b)) G (nI (n * n), T2)) ∨ ∃ s' o' i', s' < n ∧ o' < n ∧ i' < b ∧ i' ≤ 3 ∧ 1 ≤ i' ∧ jx_w (g_X11_leastSwap_3 la day (nI b)) F (nI s, S1) = some (.inr (nI s', nI o', nI i', nI (b - i'), S2)) ∧ jx_w (g_X12_swap_51 la day (nI b)) (G + d * n) (nI (s * n), T1) = some (.inr (nI (s' * n + o'), nI i', T2)))
  | 0, s, ho, S1, T1, kS, kT, F, hF, G => by
    obtain ⟨hs, hL, e1, e2, hA, hno⟩ := id h
    obtain ⟨hn, hS, hT, hv⟩ := id hs
    obtain ⟨N, rfl⟩ : ∃ N, F = N + 1 := ⟨F - 1, by omega⟩
    obtain rfl : s = n := by omega
    refine ⟨S1, T1, kS, kT, Or.inl ⟨jx_w_end ?_, by rw [Nat.zero_mul]; rfl⟩⟩
    show b_X11_leastSwap_3 la day (nI b) (nI s) S1 = _
    unfold b_X11_leastSwap_3
    rw [kS.1 1 (by decide), hS, if_pos (nI_le (by omega) (by omega))]
  | d + 1, s, ho, S1, T1, kS, kT, F, hF, G => by
    obtain ⟨hs, hL, e1, e2, hA, hno⟩ := id h
    obtain ⟨hn, hS, hT, hv⟩ := id hs
    obtain ⟨N, rfl⟩ : ∃ N, F = N + 1 := ⟨F - 1, by omega⟩
    obtain ⟨S2, T2, k2, j2, r⟩ := qp_mid h hb (show s < n by omega) n 0 (by omega) S1 T1 kS kT FU (by unfold FU; omega) (G + d * n)
    have hX : g_X11_leastSwap_3 la day (nI b) (nI s, S1) = b_X11_leastSwap_3 la day (nI b) (nI s) S1 := rfl
    unfold b_X11_leastSwap_3 f_X11_leastSwap_123i3 at hX
    rw [kS.1 1 (by decide), hS, if_neg (nI_ge (by omega) (by omega)), show ((0 : Int32), S1) = (nI 0, S1) from rfl] at hX
    rw [show G + (d + 1) * n = G + d * n + n by rw [Nat.add_mul]; omega]
    rcases r with ⟨r1, r2⟩ | ⟨o', i', q0, q1, q2, q3, r1, r2⟩
    · rw [r1, zb_s] at hX
      simp only [Sum.elim_inl, zb_l, nI_1] at hX
      obtain ⟨S3, T3, k3, j3, r⟩ := qp_out h hb d (s + 1) (by omega) S2 T2 k2 j2 N (by omega) G
      refine ⟨S3, T3, k3, j3, ?_⟩
      rw [jx_w_step hX, show s * n = s * n + 0 from rfl, r2]
      exact r
    · rw [r1, zb_s] at hX
      exact ⟨S2, T2, k2, j2, Or.inr ⟨s, o', i', by omega, q0, q1, q2, q3, jx_w_end hX, r2⟩⟩
/-- the least of one sum -/
theorem qp_lsw {L : Lns} {n A b : Nat} {la land day : Int32} {S1 T1 : St} (h : Sg L n A la land day S T) (hb : 2 ≤ b ∧ b ≤ 6) (kS : KX S S1) (kT : KM T T1) : ∃ S2 T2, KX S S2 ∧ KM T T2 ∧ ((f_X11_leastSwap la day (nI b) S1 = some (-2, S2) ∧ jx_w (g_X12_swap_51 la day (nI b)) FU (0, T1) = some (.inl T2)) ∨ ∃ s o i, s < n ∧ o < n ∧ i < b ∧ i ≤ 3 ∧ 1 ≤ i ∧ f_X11_leastSwap la day (nI b) S1 = some (nI (s * 1000 + i * 100 + o * 10 + (b - i)), S2) ∧ jx_w (g_X12_swap_51 la day (nI b)) FU (0, T1) = some (.inr (nI (s * n + o), nI i, T2))) := by
  obtain ⟨hs, hL, e1, e2, hA, hno⟩ := id h
  obtain ⟨hn, hS, hT, hv⟩ := id hs
  have hnn : n * n ≤ 8 * 8 := Nat.mul_le_mul hn hn
  obtain ⟨G, hG⟩ : ∃ G, FU = G + 1 + n * n := ⟨FU - n * n - 1, by unfold FU; omega⟩
  obtain ⟨S2, T2, k2, j2, r⟩ := qp_out h hb n 0 (by omega) S1 T1 kS kT FU (by unfold FU; omega) (G + 1)
  rw [← hG, Nat.zero_mul] at r
  refine ⟨S2, T2, k2, j2, ?_⟩
  unfold f_X11_leastSwap f_X11_leastSwap_129 f_X11_leastSwap_89
  rcases r with ⟨r1, r2⟩ | ⟨s, o, i, q0, q1, q2, q3, q4, r1, r2⟩
  · refine Or.inl ⟨?_, ?_⟩
    · rw [show ((0 : Int32), S1) = (nI 0, S1) from rfl, r1]; rfl
    · rw [show ((0 : Int32), T1) = (nI 0, T1) from rfl, r2]
      refine jx_w_end ?_
      show b_X12_swap_51 la day (nI b) (nI (n * n)) T2 = _
      unfold b_X12_swap_51
      rw [j2.2.1 0 (by decide), hT, pk_mul, if_pos (nI_le (Nat.le_refl _) (by omega))]
  · refine Or.inr ⟨s, o, i, q0, q1, q2, q3, q4, ?_, r2⟩
    rw [show ((0 : Int32), S1) = (nI 0, S1) from rfl, r1, zb_s]
    show some (nI s * nI 1000 + nI i * nI 100 + nI o * nI 10 + nI (b - i), S2) = _
    rw [pk_mul, pk_mul, pk_mul, nI_add, nI_add, nI_add]
/-- for all sums -/
theorem qp_both {L : Lns} {n A : Nat} {la land day : Int32} (h : Sg L n A la land day S T) : ∀ d b, b + d = 7 → 2 ≤ b → ∀ S1 T1, KX S S1 → KM T T1 → ∀ F, d < F → ∃ S2 T2, KX S S2 ∧ KM T T2 ∧ ((jx_w (g_X11_swap_59 la day) F (nI b, S1) = some (.inl S2) ∧ jx_w (g_X12_swap_42 la day) F (nI b, T1) = some (.inl T2)) ∨ ∃ b' s o i, b' ≤ 6 ∧ s < n ∧ o < n ∧ i < b' ∧ i ≤ 3 ∧ 1 ≤ i ∧ jx_w (g_X11_swap_59 la day) F (nI b, S1) = some (.inr (nI (s * 1000 + i * 100 + o * 10 + (b' - i)), S2)) ∧ jx_w (g_X12_swap_42 la day) F (nI b, T1) = some (.inr (nI b', nI (s * n + o), nI i, T2)))
  | 0, b, hb, h2, S1, T1, kS, kT, F, hF => by
    obtain ⟨N, rfl⟩ : ∃ N, F = N + 1 := ⟨F - 1, by omega⟩
    refine ⟨S1, T1, kS, kT, Or.inl ⟨jx_w_end ?_, jx_w_end ?_⟩⟩
    · show b_X11_swap_59 la day (nI b) S1 = _
      unfold b_X11_swap_59
      rw [if_pos (show (6 : Int32) < nI b from nI_lt (a := 6) (by omega) (by omega))]
    · show b_X12_swap_42 la day (nI b) T1 = _
      unfold b_X12_swap_42
      rw [if_pos (show (6 : Int32) < nI b from nI_lt (a := 6) (by omega) (by omega))]
  | d + 1, b, hb, h2, S1, T1, kS, kT, F, hF => by
    obtain ⟨N, rfl⟩ : ∃ N, F = N + 1 := ⟨F - 1, by omega⟩
    obtain ⟨S2, T2, k2, j2, r⟩ := qp_lsw h ⟨h2, by omega⟩ kS kT
    have hn : n ≤ 8 := h.1.1
    have hX : g_X11_swap_59 la day (nI b, S1) = b_X11_swap_59 la day (nI b) S1 := rfl
    have hM : g_X12_swap_42 la day (nI b, T1) = b_X12_swap_42 la day (nI b) T1 := rfl
    unfold b_X11_swap_59 at hX
    unfold b_X12_swap_42 f_X12_swap_182i42 at hM
    rw [if_neg (show ¬ (6 : Int32) < nI b from nI_nlt (a := 6) (by omega) (by omega))] at hX hM
    rcases r with ⟨r1, r2⟩ | ⟨s, o, i, q0, q1, q2, q3, q4, r1, r2⟩
    · rw [r1, zb_2, if_pos (by decide), zb_l, nI_1] at hX
      rw [r2, zb_s] at hM
      simp only [Sum.elim_inl, zb_l, nI_1] at hM
      obtain ⟨S3, T3, k3, j3, r⟩ := qp_both h d (b + 1) (by omega) (by omega) S2 T2 k2 j2 N (by omega)
      refine ⟨S3, T3, k3, j3, ?_⟩
      rw [jx_w_step hX, jx_w_step hM]
      exact r
    · rw [r1, zb_2, if_neg (nI_pos (by omega))] at hX
      rw [r2, zb_s] at hM
      exact ⟨S2, T2, k2, j2, Or.inr ⟨b, s, o, i, by omega, q0, q1, q2, q3, q4, jx_w_end hX, jx_w_end hM⟩⟩
theorem op_swap (a y : Int32) (h : RR RxC S T) : OK RxC (f_X11_swap a y S) (f_X12_swap a y T) := by
  obtain ⟨n, m, t, c, e, d, hs, ht, hm, hp, hch, hi, hd, hh, hx0, hx1⟩ := id h
  obtain ⟨hn, hS, hT, hv⟩ := id hs
  obtain ⟨L, hL⟩ := hx0 (by omega)
  unfold f_X11_swap f_X12_swap
  simp only [q_isAmount, p_isAmount, q_isDay, p_isDay, zb_2, ite01, c10000]
  refine ok_if Iff.rfl (fun _ => ok_r _ h) (fun h1 => ok_if Iff.rfl (fun _ => ok_r _ h) (fun h2 => ?_))
  obtain ⟨l, A, hl, hA, e1, e2⟩ := amt_of (nn h1)
  obtain ⟨S1, T1, cs, f1, f2, f3, f4, f5, f6, f7, f8⟩ := qp_pays hs (a / 10000)
  have k1 := Fb_KX f6
  have j1 := Fb_KM f7
  rw [f1, f2, zb_s, zb_s, e2, q_can f4 (by omega), p_canPay f5 (by omega), zb_2, zb_2]
  by_cases hc : A ≤ 1920 ∧ rch cs A = true
  · rw [if_pos hc, if_neg one_ne, if_neg one_ne]
    exact ok_r _ (RR_keep h k1 j1)
  · rw [if_neg hc, if_pos rfl, if_pos rfl]
    have hg : Sg L n A a (a / 10000) y S T := ⟨hs, hL, rfl, e2, hA, by rw [← f3]; exact hc⟩
    obtain ⟨S2, T2, k2, j2, r⟩ := qp_both hg 5 2 rfl (by omega) S1 T1 k1 j1 FU (by unfold FU; omega)
    have hR := RR_keep h k2 j2
    rw [show ((2 : Int32), S1) = (nI 2, S1) from rfl, show ((2 : Int32), T1) = (nI 2, T1) from rfl]
    rcases r with ⟨r1, r2⟩ | ⟨b, s, o, i, q9, q0, q1, q2, q3, q4, r1, r2⟩
    · rw [r1, r2]
      exact ok_r _ hR
    · rw [r1, r2, zb_s, zb_s]
      show OK RxC (some (nI (s * 1000 + i * 100 + o * 10 + (b - i)), S2)) (f_X12_swap_136 (nI b) (nI (s * n + o)) (nI i) T2)
      unfold f_X12_swap_136
      obtain ⟨so1, so2⟩ := so_lt hn q0 q1
      obtain ⟨dm1, dm2⟩ := so_dm (s := s) q1
      have hnn : ¬ nI n = 0 := fun z => by rw [show (0 : Int32) = nI 0 from rfl, nI_eq (by omega) (by omega)] at z; omega
      rw [show T2.1 0 0 = nI n by rw [j2.2.1 0 (by decide)]; exact hT, zb_d _ hnn, zb_d _ hnn, pk_rem (by omega) (by omega) (by omega), pk_div (by omega) (by omega) (by omega), dm1, dm2, show (1000 : Int32) = nI 1000 from rfl, show (100 : Int32) = nI 100 from rfl, show (10 : Int32) = nI 10 from rfl, pk_mul, pk_mul, pk_mul, nI_add, nI_add, nI_add, pk_sub (by omega)]
      rw [show 1000 * s + 100 * i + 10 * o + b - i = s * 1000 + i * 100 + o * 10 + (b - i) by omega]
      exact ok_r _ hR
