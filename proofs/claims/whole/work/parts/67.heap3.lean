variable {S T : St}
abbrev amtP (x : Int32) : Prop := 0 ≤ x ∧ (0 ≤ x / 10000 ∧ x / 10000 ≤ 3)
theorem c10000 {β : Type} (k : Option β) : jx_d 10000 k = k := zb_d k (by decide)
theorem q_isAmount (x : Int32) (S : St) : f_X11_isAmount x S = some (if amtP x then 1 else 0, S) := by
  unfold f_X11_isAmount
  simp only [q_isLand, zb_2, ite01, c10000, lt0]
  grind
theorem p_isAmount (x : Int32) (S : St) : f_X12_isAmount x S = some (if amtP x then 1 else 0, S) := by
  unfold f_X12_isAmount
  simp only [p_isLand, zb_2, ite01, c10000, lt0]
  grind
theorem amt_of {x : Int32} (h : amtP x) : ∃ l a, l < 4 ∧ a < 10000 ∧ x / 10000 = nI l ∧ x - x / 10000 * 10000 = nI a := by
  obtain ⟨D, hD, rfl⟩ := nI_of (x := x) (by rw [lt0]; exact fun q => q h.1)
  obtain ⟨l, hl, e⟩ := lt4 h.2
  exact ⟨l, D % 10000, hl, Nat.mod_lt _ (by omega), e, pk_rem (d := 10000) hD (by omega) (by omega)⟩
theorem q_heaps {n : Nat} (hs : Rs n S T) (land : Int32) (m w g : Nat) (hm : m ≤ 20) (hw : w ≤ 2000) (hg : g ≤ 2000) : ∃ S', f_X3_ways land (nI m) (nI w) (nI g) S = some (nI (Hw (fs S land 0 n) m w g), S') ∧ KX S S' := by
  obtain ⟨hn, hS, hT, hv⟩ := id hs
  unfold f_X3_ways
  rw [zb_l]
  have m0 : Sm [22, 23, 24] S (u1 S 22 2 0) := Sm_one (by decide)
  obtain ⟨S1, w1, w2, w3, w4, w5⟩ := wl_for (g_X3_ways_8 land (nI m) (nI w) (nI g)) (fun i S => (nI i, S)) (fun k S1 => Sm [22, 23, 24] S S1 ∧ S1.1 22 2 = nI (fs S land 0 k).length ∧ cdA (S1.1 23) 0 ((fs S land 0 k).map (fun x => x.1)) ∧ cdA (S1.1 24) 0 ((fs S land 0 k).map (fun x => x.2))) n (fun S1 => Sm [22, 23, 24] S S1 ∧ S1.1 22 2 = nI (fs S land 0 n).length ∧ cdA (S1.1 23) 0 ((fs S land 0 n).map (fun x => x.1)) ∧ cdA (S1.1 24) 0 ((fs S land 0 n).map (fun x => x.2)))
    (fun k S1 hk hI => by
      obtain ⟨mS, h22, h23, h24⟩ := hI
      have hl := fs_len S land k 0
      obtain ⟨a, a1, a2, a3, a4⟩ := w40 hs hk
      obtain ⟨b, b1, b2, b3⟩ := g99 hs hk
      have sn := fs_snoc S land k 0
      rw [Nat.zero_add] at sn
      unfold g_X3_ways_8 b_X3_ways_8 f_X3_ways_70i8
      rw [mS.1 1 (by decide), hS, if_neg (nI_ge hk (by omega))]
      simp (disch := omega) only [zb_an, cl_n, zb_l, mS.1 2 (by decide), mS.1 3 (by decide), mS.1 5 (by decide), h22, rd_1, reduceIte, Nat.reduceEqDiff, nI_1]
      by_cases q : S.1 2 k = land
      · rw [if_pos q] at sn
        rw [if_pos q, sn]
        refine ⟨_, rfl, Sm_u1 (Sm_u1 (Sm_u1 mS (by decide)) (by decide)) (by decide), ?_, ?_, ?_⟩
        · simp only [rd_1, reduceIte, List.length_append, List.length_cons, List.length_nil]
        · rw [List.map_append, cdA_app]
          refine ⟨cdA_congr (fun i _ h2 => ?_) h23, ?_, trivial⟩
          · simp only [List.length_map] at h2
            simp only [rd_1, reduceIte, Nat.reduceEqDiff]
            rw [if_neg (by omega)]
          · simp only [rd_1, reduceIte, Nat.reduceEqDiff, List.length_map, Nat.zero_add]
            rw [a4, a3]
        · rw [List.map_append, cdA_app]
          refine ⟨cdA_congr (fun i _ h2 => ?_) h24, ?_, trivial⟩
          · simp only [List.length_map] at h2
            simp only [rd_1, reduceIte, Nat.reduceEqDiff]
            rw [if_neg (by omega)]
          · simp only [rd_1, reduceIte, Nat.reduceEqDiff, List.length_map, Nat.zero_add]
            rw [b3, b2]
      · rw [if_neg q, List.append_nil] at sn
        rw [if_neg q, sn]
        exact ⟨_, rfl, mS, h22, h23, h24⟩)
    (fun S1 hI => ⟨S1, by unfold g_X3_ways_8 b_X3_ways_8; rw [hI.1.1 1 (by decide), hS, if_pos (nI_le (Nat.le_refl n) (by omega))], hI⟩) FU 0 (u1 S 22 2 0) (by omega) ⟨m0, by simp only [rd_1, reduceIte]; rfl, trivial, trivial⟩ (FU_lt (by omega) 0)
  rw [show ((0 : Int32), u1 S 22 2 0) = (nI 0, u1 S 22 2 0) from rfl, w1, zb_s]
  unfold f_X3_ways_76
  have hl := fs_len S land n 0
  rw [show (0 : Int32) = nI 0 from rfl, q_waysFrom (N := (fs S land 0 n).length) (by omega) w3 12 (fs S land 0 n) 0 m w g (by omega) (by omega) (fs_rg hs n 0 (by omega)) w4 w5 hm hw hg, zb_2]
  exact ⟨S1, rfl, KX_Sm w2 (by decide)⟩
theorem op_heap (a b z : Int32) (h : RR RxC S T) : OK RxC (f_X11_heap a b z S) (f_X12_heap a b z T) := by
  obtain ⟨n, m, t, c, e, d, hs, ht, hm, hp, hch, hi, hd, hh, hx0, hx1⟩ := id h
  unfold f_X11_heap f_X12_heap f_X12_heap_43 f_X12_heap_44
  simp only [q_isAmount, p_isAmount, q_within, p_in, zb_2, ite01, c10000, one_ne, reduceIte]
  by_cases h1 : amtP a
  · obtain ⟨l, A, hl, hA, e1, e2⟩ := amt_of h1
    rw [if_neg (show ¬ ¬ amtP a from fun q => q h1), if_neg (show ¬ ¬ amtP a from fun q => q h1), e2]
    by_cases h2 : nI A ≤ (1200 : Int32)
    · rw [if_pos h2, if_neg (show ¬ (1200 : Int32) < nI A by rw [i32_lt]; rw [i32_le] at h2; omega)]
      refine ok_if Iff.rfl (fun _ => ok_r _ h) (fun h3 => ok_if Iff.rfl (fun _ => ok_r _ h) (fun h4 => ?_))
      obtain ⟨mm, m1, m2, rfl⟩ := ix_lit (k := 20) (by omega) rfl (nn h3)
      obtain ⟨g, g1, g2, rfl⟩ := ix_lit (k := 1980) (by omega) rfl (nn h4)
      have hA2 : A ≤ 1200 := (nI_leI (b := 1200) (by omega) (by omega)).mp h2
      obtain ⟨S', f1, f2⟩ := q_heaps hs (a / 10000) mm A g (by omega) (by omega) (by omega)
      rw [f1, zb_2, show (0 : Int32) = nI 0 from rfl, p_heaps hs 12 0 n mm A g (by omega) (by have := hs.1; omega) (by omega) (by omega) (by omega), zb_2]
      exact ok_mk rfl (RR_keep h f2 KM_rf)
    · rw [if_neg h2, if_pos (show (1200 : Int32) < nI A by rw [i32_lt]; rw [i32_le] at h2; omega)]
      exact ok_r _ h
  · rw [if_pos h1, if_pos h1]
    exact ok_r _ h
