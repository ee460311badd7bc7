variable {S T : St}
theorem rch_V (l : List (Nat × Int)) : ∀ m, rch (l.map (fun x => x.1)) m = (V l m).isSome := by
  induction l with
  | nil =>
    intro m
    show decide (m = 0) = (if m = 0 then some (0 : Int) else none).isSome
    by_cases q : m = 0
    · rw [if_pos q, decide_eq_true q]; rfl
    · rw [if_neg q, decide_eq_false q]; rfl
  | cons x l ih =>
    intro m
    show (rch (l.map (fun x => x.1)) m || (decide (x.1 ≤ m) && rch (l.map (fun x => x.1)) (m - x.1))) = (oM (V l m) (if x.1 ≤ m then oA x.2 (V l (m - x.1)) else none)).isSome
    rw [ih, ih]
    by_cases q : x.1 ≤ m
    · rw [if_pos q, decide_eq_true q]
      cases V l m <;> cases V l (m - x.1) <;> rfl
    · rw [if_neg q, decide_eq_false q]
      cases V l m <;> rfl
theorem cl_pl (c w : Nat → Nat) (M : Int) (g : Nat → Nat) : ∀ n, cl c w n = (pl c w M g n).map (fun x => x.1)
  | 0 => rfl
  | n + 1 => by
    show List.replicate (c n) (w n) ++ cl c w n = (List.replicate (c n) (w n, M + (g n : Int)) ++ pl c w M g n).map _
    rw [List.map_append, List.map_replicate, cl_pl c w M g n]
/-! what comes back -/
def Pk (S : St) (land : Int32) (m s : Nat) : Prop := S.1 2 s = land ∧ (S.1 3 s).toNatClampNeg ≤ m ∧ (S.1 6 s).toNatClampNeg < 6
/-- of the sorts from lo to hi the greatest that fits, the first of like ones; none: -1 -/
def Best (S : St) (land : Int32) (m lo hi : Nat) (r : Int32) : Prop := (r = -1 ∧ ∀ s, lo ≤ s → s < hi → ¬ Pk S land m s) ∨ ∃ f, lo ≤ f ∧ f < hi ∧ r = nI f ∧ Pk S land m f ∧ ∀ s, lo ≤ s → s < hi → Pk S land m s → (S.1 3 s).toNatClampNeg ≤ (S.1 3 f).toNatClampNeg ∧ (s < f → (S.1 3 s).toNatClampNeg < (S.1 3 f).toNatClampNeg)
theorem Best_one {land : Int32} {m hi : Nat} {r r2 : Int32} (h : Best S land m 0 hi r) (h2 : Best S land m 0 hi r2) : r = r2 := by
  rcases h with ⟨a1, a2⟩ | ⟨f, f0, f1, f2, f3, f4⟩
  · rcases h2 with ⟨b1, b2⟩ | ⟨g, g0, g1, g2, g3, g4⟩
    · rw [a1, b1]
    · exact absurd g3 (a2 g g0 g1)
  · rcases h2 with ⟨b1, b2⟩ | ⟨g, g0, g1, g2, g3, g4⟩
    · exact absurd f3 (b2 f f0 f1)
    · have q1 := f4 g g0 g1 g3
      have q2 := g4 f f0 f1 f3
      have : f = g := by omega
      rw [f2, g2, this]
theorem q_gw {n : Nat} (hs : Rs n S T) (land : Int32) (m : Nat) (hm : m < 2 ^ 31) : ∃ r, f_X1_greatestWithin land (nI m) S = some (r, S) ∧ Best S land m 0 n r := by
  obtain ⟨hn, hS, hT, hv⟩ := id hs
  unfold f_X1_greatestWithin f_X1_greatestWithin_89
  obtain ⟨r, w1, w2⟩ := wl_for (g_X1_greatestWithin_5 land (nI m) S) (fun k (r : Int32) => (r, nI k)) (fun k r => Best S land m 0 k r) n (fun r => Best S land m 0 n r)
    (fun k r hk hB => by
      obtain ⟨w, u1, u2, u3, u4⟩ := w40 hs hk
      obtain ⟨c, c1, c2, c3⟩ := h6 hs hk
      unfold g_X1_greatestWithin_5 b_X1_greatestWithin_5 f_X1_greatestWithin_52i5 f_X1_greatestWithin_53i5 f_X1_greatestWithin_80i5 f_X1_greatestWithin_83i5
      have keep : ¬ Pk S land m k → Best S land m 0 (k + 1) r := fun hp => by
        rcases hB with ⟨a1, a2⟩ | ⟨f, f0, f1, f2, f3, f4⟩
        · exact Or.inl ⟨a1, fun s s0 s1 => by
            by_cases e : s = k
            · rw [e]; exact hp
            · exact a2 s s0 (by omega)⟩
        · exact Or.inr ⟨f, f0, by omega, f2, f3, fun s s0 s1 hps => by
            by_cases e : s = k
            · rw [e] at hps; exact absurd hps hp
            · exact f4 s s0 (by omega) hps⟩
      rw [hS, if_neg (nI_ge hk (by omega))]
      simp (disch := omega) only [zb_an, cl_n, zb_l, reduceIte, one_ne, u3, c2, nI_1]
      by_cases q1 : S.1 2 k = land
      · rw [if_pos q1]
        by_cases q2 : m < w
        · rw [if_pos (nI_lt q2 (by omega))]
          exact ⟨_, rfl, keep (fun z => by have := z.2.1; omega)⟩
        · rw [if_neg (nI_nlt (by omega) (by omega))]
          by_cases q3 : c = 6
          · rw [if_pos (show (6 : Int32) ≤ nI c by rw [q3]; decide)]
            exact ⟨_, rfl, keep (fun z => by have := z.2.2; omega)⟩
          · rw [if_neg (show ¬ (6 : Int32) ≤ nI c from nI_ge (b := 6) (by omega) (by omega))]
            have hP : Pk S land m k := ⟨q1, by omega, by omega⟩
            rcases hB with ⟨a1, a2⟩ | ⟨f, f0, f1, f2, f3, f4⟩
            · rw [a1, if_pos (by decide)]
              refine ⟨_, rfl, Or.inr ⟨k, by omega, by omega, rfl, hP, fun s s0 s1 hps => ?_⟩⟩
              by_cases e : s = k
              · rw [e]; exact ⟨Nat.le_refl _, fun z => absurd z (by omega)⟩
              · exact absurd hps (a2 s s0 (by omega))
            · obtain ⟨w', x1, x2, x3, x4⟩ := w40 hs (show f < n by omega)
              rw [f2, if_neg (nI_pos (by omega)), zb_an _ (by omega) (by omega), cl_n (by omega), x3]
              by_cases z : w ≤ w'
              · rw [if_pos ((nI_leI (by omega) (by omega)).mpr z)]
                refine ⟨_, rfl, Or.inr ⟨f, f0, by omega, rfl, f3, fun s s0 s1 hps => ?_⟩⟩
                by_cases e : s = k
                · rw [e]; exact ⟨by omega, fun z => absurd z (by omega)⟩
                · exact f4 s s0 (by omega) hps
              · rw [if_neg (fun y => z ((nI_leI (by omega) (by omega)).mp y))]
                refine ⟨_, rfl, Or.inr ⟨k, by omega, by omega, rfl, hP, fun s s0 s1 hps => ?_⟩⟩
                by_cases e : s = k
                · rw [e]; exact ⟨Nat.le_refl _, fun z => absurd z (by omega)⟩
                · have := (f4 s s0 (by omega) hps).1
                  exact ⟨by omega, fun _ => by omega⟩
      · rw [if_neg q1]
        exact ⟨_, rfl, keep (fun z => q1 z.1)⟩)
    (fun r hB => ⟨r, by unfold g_X1_greatestWithin_5 b_X1_greatestWithin_5; rw [hS, if_pos (nI_le (Nat.le_refl n) (by omega))], hB⟩) FU 0 (-1) (by omega) (Or.inl ⟨rfl, fun s _ h => absurd h (by omega)⟩) (FU_lt (by omega) 0)
  rw [show ((-1 : Int32), (0 : Int32)) = (-1, nI 0) from rfl, w1, zb_s]
  exact ⟨r, rfl, w2⟩
theorem p_gw {n : Nat} {x2 : Int32} (hs : Rs n S T) (land : Int32) (m : Nat) (hm : m < 2 ^ 31) : ∃ r, jx_w (g_X12_comesBack_21 land x2 (nI m) T) FU (-1, nI n + (-1)) = some r ∧ Best S land m 0 n r := by
  obtain ⟨hn, hS, hT, hv⟩ := id hs
  obtain ⟨r, w1, w2⟩ := wl_one (g_X12_comesBack_21 land x2 (nI m) T) (fun z => ∃ k r, k ≤ n ∧ z = (r, nI k + (-1)) ∧ Best S land m k n r) (fun z => (z.2 + 1).toNatClampNeg) (fun r => Best S land m 0 n r)
    (fun z hz => by
      obtain ⟨k, r, hk, rfl, hB⟩ := hz
      unfold g_X12_comesBack_21 b_X12_comesBack_21
      by_cases h0 : k = 0
      · subst h0
        rw [if_pos (show nI 0 + (-1) < 0 by decide)]
        exact Or.inr ⟨_, rfl, hB⟩
      · obtain ⟨k, rfl⟩ : ∃ j, k = j + 1 := ⟨k - 1, by omega⟩
        obtain ⟨w, u1, u2, u3, u4⟩ := w40 hs (show k < n by omega)
        obtain ⟨c, c1, c2, c3⟩ := h6 hs (show k < n by omega)
        have hvk := (hv k (by omega)).1
        have hmu : ∀ z : Int32, ((z, nI k + (-1)) : Int32 × Int32).2 + 1 = nI k := fun z => by
          show nI k + (-1) + 1 = nI k
          rw [Int32.add_assoc, show (-1 : Int32) + 1 = 0 from rfl, Int32.add_zero]
        have hmu2 : (nI k).toNatClampNeg < (nI k + 1).toNatClampNeg := by rw [nI_1, cl_n (by omega), cl_n (by omega)]; omega
        have keep : ¬ Pk S land m k → Best S land m k n r := fun hp => by
          rcases hB with ⟨a1, a2⟩ | ⟨f, f0, f1, f2, f3, f4⟩
          · exact Or.inl ⟨a1, fun s s0 s1 => by
              by_cases e : s = k
              · rw [e]; exact hp
              · exact a2 s (by omega) s1⟩
          · exact Or.inr ⟨f, by omega, f1, f2, f3, fun s s0 s1 hps => by
              by_cases e : s = k
              · rw [e] at hps; exact absurd hps hp
              · exact f4 s (by omega) s1 hps⟩
        rw [pk_m1, if_neg (nI_pos (by omega))]
        unfold f_X12_comesBack_64i21 f_X12_comesBack_65i21 f_X12_comesBack_100i21 f_X12_comesBack_95i21 f_X12_comesBack_102i21
        simp (disch := omega) only [zb_an, cl_n, zb_l, reduceIte, one_ne, hvk.1, hvk.2.1, hvk.2.2.2.2, u3, c2]
        by_cases q1 : S.1 2 k = land
        · rw [if_pos q1]
          by_cases q2 : m < w
          · rw [if_pos (nI_lt q2 (by omega))]
            exact Or.inl ⟨_, rfl, ⟨k, r, by omega, rfl, keep (fun z => by have := z.2.1; omega)⟩, by rw [hmu]; exact hmu2⟩
          · rw [if_neg (nI_nlt (by omega) (by omega))]
            by_cases q3 : c = 6
            · rw [if_pos (show (6 : Int32) ≤ nI c by rw [q3]; decide)]
              exact Or.inl ⟨_, rfl, ⟨k, r, by omega, rfl, keep (fun z => by have := z.2.2; omega)⟩, by rw [hmu]; exact hmu2⟩
            · rw [if_neg (show ¬ (6 : Int32) ≤ nI c from nI_ge (b := 6) (by omega) (by omega))]
              have hP : Pk S land m k := ⟨q1, by omega, by omega⟩
              rcases hB with ⟨a1, a2⟩ | ⟨f, f0, f1, f2, f3, f4⟩
              · rw [a1, if_pos rfl]
                refine Or.inl ⟨_, rfl, ⟨k, _, by omega, rfl, Or.inr ⟨k, by omega, by omega, rfl, hP, fun s s0 s1 hps => ?_⟩⟩, by rw [hmu]; exact hmu2⟩
                by_cases e : s = k
                · rw [e]; exact ⟨Nat.le_refl _, fun z => absurd z (by omega)⟩
                · exact absurd hps (a2 s (by omega) s1)
              · obtain ⟨w', x1, x2, x3, x4⟩ := w40 hs (show f < n by omega)
                rw [f2, if_neg (m1_ne (by omega)), zb_an _ (by omega) (by omega), cl_n (by omega), (hv f f1).1.2.1, x3]
                by_cases z : w < w'
                · rw [if_pos (nI_lt z (by omega))]
                  refine Or.inl ⟨_, rfl, ⟨k, _, by omega, rfl, Or.inr ⟨f, by omega, f1, rfl, f3, fun s s0 s1 hps => ?_⟩⟩, by rw [hmu]; exact hmu2⟩
                  by_cases e : s = k
                  · rw [e]; exact ⟨by omega, fun _ => by omega⟩
                  · exact f4 s (by omega) s1 hps
                · rw [if_neg (nI_nlt (by omega) (by omega))]
                  refine Or.inl ⟨_, rfl, ⟨k, _, by omega, rfl, Or.inr ⟨k, by omega, by omega, rfl, hP, fun s s0 s1 hps => ?_⟩⟩, by rw [hmu]; exact hmu2⟩
                  by_cases e : s = k
                  · rw [e]; exact ⟨Nat.le_refl _, fun z => absurd z (by omega)⟩
                  · have := (f4 s (by omega) s1 hps).1
                    exact ⟨by omega, fun z => absurd z (by omega)⟩
        · rw [if_neg q1]
          exact Or.inl ⟨_, rfl, ⟨k, r, by omega, rfl, keep (fun z => q1 z.1)⟩, by rw [hmu]; exact hmu2⟩)
    FU (-1, nI n + (-1)) ⟨n, -1, Nat.le_refl n, rfl, Or.inl ⟨rfl, fun s h1 h2 => absurd h1 (by omega)⟩⟩ (by show (nI n + (-1) + 1).toNatClampNeg < FU; rw [Int32.add_assoc, show (-1 : Int32) + 1 = 0 from rfl, Int32.add_zero, cl_n (by omega)]; unfold FU; omega)
  exact ⟨r, w1, w2⟩
/-- how many coins there are -/
def hsum (S : St) (n : Nat) : Nat := sumTo (fun s => (S.1 6 s).toNatClampNeg) n
theorem sumTo_upd {f f' : Nat → Nat} {a : Nat} (ha : f' a = f a + 1) (hx : ∀ s, s ≠ a → f' s = f s) : ∀ n, a < n → sumTo f' n = sumTo f n + 1
  | 0, h => absurd h (by omega)
  | n + 1, h => by
    show sumTo f' n + f' n = sumTo f n + f n + 1
    by_cases e : a = n
    · subst e
      rw [sumTo_congr a (fun i hi => hx i (by omega)), ha]; omega
    · rw [sumTo_upd ha hx n (by omega), hx n (fun q => e q.symm)]; omega
theorem hsum_full {n : Nat} (hs : Rs n S T) (h : 6 * n ≤ hsum S n) : ∀ s, s < n → ¬ (S.1 6 s).toNatClampNeg < 6 := by
  intro s hsn hlt
  have key : ∀ k, k ≤ n → hsum S k + (if s < k then 1 else 0) ≤ 6 * k := fun k => by
    induction k with
    | zero => intro _; rw [if_neg (by omega)]; exact Nat.le_refl _
    | succ k ih =>
      intro hk
      have := ih (by omega)
      obtain ⟨c, c1, c2, c3⟩ := h6 hs (show k < n by omega)
      show hsum S k + (S.1 6 k).toNatClampNeg + _ ≤ _
      by_cases e : s = k
      · subst e
        rw [if_neg (by omega)] at this
        rw [if_pos (by omega)]; omega
      · by_cases z : s < k
        · rw [if_pos z] at this; rw [if_pos (by omega)]; omega
        · rw [if_neg z] at this; rw [if_neg (by omega)]; omega
  have := key n (Nat.le_refl n)
  rw [if_pos hsn] at this
  omega
