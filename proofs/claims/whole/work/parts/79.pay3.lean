variable {S T : St}
/-! the reference's payment -/
def lv (n : Nat) (f : Nat → Nat) (j : Nat) : Nat := f (n - 1 - j)
def EU : Option Nat → Int32 → Prop
  | none, e => e = -1
  | some t, e => e = nI t ∧ t ≤ 100
theorem U_le {how : Bool} {c w : Nat → Nat} {n : Nat} (hc : ∀ j, j < n → c j ≤ 6) : ∀ k, k ≤ n → ∀ m t, U how c w k m = some t → t ≤ 6 * k := fun k hk m t h => by
  obtain ⟨a1, a2, a3⟩ := Y_1 k m t h
  rw [← a3]
  have key : ∀ j, j ≤ k → sumTo (Ye how c w k m) j ≤ 6 * j := fun j => by
    induction j with
    | zero => intro _; exact Nat.le_refl _
    | succ j ih =>
      intro hj
      have := ih (by omega)
      have := a1 j (by omega)
      have := hc j (by omega)
      show sumTo (Ye how c w k m) j + Ye how c w k m j ≤ _
      omega
  exact key k (Nat.le_refl k)
theorem m1_ne {t : Nat} (h : t < 2 ^ 31) : ¬ nI t = -1 := fun q => by
  have := congrArg Int32.toInt q
  rw [nI_toInt h, show (-1 : Int32).toInt = -1 from rfl] at this
  omega
def hI (how : Bool) : Int32 := if how then 1 else 0
theorem p_isMore {how : Bool} {o : Option Nat} {a : Nat} {best : Int32} (ha : a ≤ 100) (hE : EU o best) (T : St) : f_X12_isMore (hI how) (nI a) best T = some (if be how o (some a) = some a ∧ (∀ x, o = some x → mo how a x = true) then 1 else 0, T) := by
  unfold f_X12_isMore f_X12_isMore_22
  cases o with
  | none =>
    rw [if_pos (show best = -1 from hE), if_pos ⟨rfl, fun x hx => by cases hx⟩]
  | some x =>
    obtain ⟨e, hx⟩ := hE
    rw [e, if_neg (m1_ne (by omega))]
    have key : (be how (some x) (some a) = some a ∧ ∀ y, some x = some y → mo how a y = true) ↔ mo how a x = true := by
      constructor
      · exact fun h => h.2 x rfl
      · intro h
        refine ⟨by simp only [be]; rw [if_pos h], fun y hy => by rw [← Option.some.inj hy]; exact h⟩
    unfold hI
    cases how
    · rw [if_pos (show (if false = true then (1 : Int32) else 0) = 0 from rfl)]
      by_cases q : x ≤ a
      · rw [if_pos ((nI_leI (by omega) (by omega)).mpr q), if_neg]
        rw [key]; unfold mo; simp; omega
      · rw [if_neg (fun z => q ((nI_leI (by omega) (by omega)).mp z)), if_pos]
        rw [key]; unfold mo; simp; omega
    · rw [if_neg (show ¬ (if true = true then (1 : Int32) else 0) = 0 by decide)]
      by_cases q : a ≤ x
      · rw [if_pos ((nI_leI (by omega) (by omega)).mpr q), if_neg]
        rw [key]; unfold mo; simp; omega
      · rw [if_neg (fun z => q ((nI_leI (by omega) (by omega)).mp z)), if_pos]
        rw [key]; unfold mo; simp; omega
theorem r1921 (s m : Nat) : (1921 : Int32) * nI s + nI m = nI (1921 * s + m) := by rw [show (1921 : Int32) * nI s = nI (1921 * s) from pk_mul 1921 s, nI_add]
/-- one sum of one row -/
theorem p_fill1 {how : Bool} {n s k m : Nat} {c w : Nat → Nat} (hn : n ≤ 8) (hk : s + k + 1 = n) (hc : ∀ j, j < n → c j ≤ 6) (hw : w s ≤ 40) (hm : m ≤ 1920) (hw2 : T.1 2 s = nI (w s)) (hrow : ∀ i, i ≤ 1920 → EU (U how (lv n c) (lv n w) k i) (T.1 23 (1921 * (s + 1) + i))) : ∃ r, jx_w (g_X12_fills_39 (nI s) (hI how) (nI (c s)) (nI m)) FU (-1, nI 0, T) = some (r, T) ∧ EU (U how (lv n c) (lv n w) (k + 1) m) r := by
  have hlc : lv n c k = c s := by unfold lv; congr 1; omega
  have hlw : lv n w k = w s := by unfold lv; congr 1; omega
  have hcs := hc s (by omega)
  rw [U_succ, hlc]
  have hlc6 : ∀ j, j < n → lv n c j ≤ 6 := fun j hj => hc _ (by omega)
  have hb6 : ∀ i, i ≤ c s + 1 → ∀ t, bestTo how (Uf how (lv n c) (lv n w) k m) i = some t → t ≤ 100 := fun i hi t ht => by
    obtain ⟨i', i1, i2⟩ := bestTo_in _ ht
    obtain ⟨-, u, u1, u2⟩ := Uf_some i2
    have := U_le hlc6 k (by omega) _ u u1
    omega
  obtain ⟨⟨r, T2⟩, w1, w2, w3⟩ := wl_one (g_X12_fills_39 (nI s) (hI how) (nI (c s)) (nI m)) (fun z => ∃ b i, z = (b, nI i, T) ∧ i ≤ c s + 1 ∧ EU (bestTo how (Uf how (lv n c) (lv n w) k m) i) b) (fun z => c s + 1 - z.2.1.toNatClampNeg) (fun r => EU (bestTo how (Uf how (lv n c) (lv n w) k m) (c s + 1)) r.1 ∧ r.2 = T)
    (fun z hz => by
      obtain ⟨b, i, rfl, hi, hE⟩ := hz
      unfold g_X12_fills_39 b_X12_fills_39 f_X12_fills_115i39 f_X12_fills_117i39
      by_cases hic : i = c s + 1
      · subst hic
        rw [if_pos (nI_lt (by omega) (by omega))]
        exact Or.inr ⟨_, rfl, hE, rfl⟩
      · have hiw : i * w s ≤ 6 * 40 := Nat.mul_le_mul (by omega) hw
        rw [if_neg (nI_nlt (by omega) (by omega)), zb_an _ (by omega) (by omega), cl_n (by omega), hw2, pk_mul]
        by_cases q : m < i * w s
        · rw [if_pos (nI_lt q (by omega))]
          refine Or.inr ⟨_, rfl, ?_, rfl⟩
          rw [bestTo_stop (c := i) (c s + 1) (by omega) (fun j h1 h2 => by
            unfold Uf
            rw [hlw]
            have := Nat.mul_le_mul_right (w s) h1
            exact if_neg (by omega))]
          exact hE
        · rw [if_neg (nI_nlt (by omega) (by omega)), zb_an _ (by omega) (by omega), nI_1, r1921, pk_sub (by omega), show 1921 * (s + 1) + m - i * w s = 1921 * (s + 1) + (m - i * w s) by omega, zb_an _ (by omega) (by omega), cl_n (by omega), zb_l]
          have hr := hrow (m - i * w s) (by omega)
          have hf : Uf how (lv n c) (lv n w) k m i = oI i (U how (lv n c) (lv n w) k (m - i * w s)) := by unfold Uf; rw [hlw, if_pos (by omega)]
          have hmu : c s + 1 - (nI (i + 1)).toNatClampNeg < c s + 1 - (nI i).toNatClampNeg := by rw [cl_n (by omega), cl_n (by omega)]; omega
          have hbe : bestTo how (Uf how (lv n c) (lv n w) k m) (i + 1) = be how (bestTo how (Uf how (lv n c) (lv n w) k m) i) (oI i (U how (lv n c) (lv n w) k (m - i * w s))) := by rw [← hf]; rfl
          have h100 := hb6 (i + 1) (by omega)
          cases hU : U how (lv n c) (lv n w) k (m - i * w s) with
          | none =>
            rw [hU] at hr hbe
            rw [if_pos (show T.1 23 (1921 * (s + 1) + (m - i * w s)) = -1 from hr), zb_l, nI_1]
            refine Or.inl ⟨_, rfl, ⟨b, i + 1, rfl, by omega, ?_⟩, hmu⟩
            rw [hbe]; exact hE
          | some u =>
            rw [hU] at hr hbe
            obtain ⟨hr1, hr2⟩ := hr
            have hu := U_le hlc6 k (by omega) _ u hU
            rw [hr1, if_neg (m1_ne (by omega)), nI_add, p_isMore (how := how) (a := i + u) (by omega) hE, zb_2]
            simp only [zb_l, nI_1]
            by_cases z : be how (bestTo how (Uf how (lv n c) (lv n w) k m) i) (some (i + u)) = some (i + u) ∧ (∀ x, bestTo how (Uf how (lv n c) (lv n w) k m) i = some x → mo how (i + u) x = true)
            · rw [if_pos z, if_neg one_ne]
              refine Or.inl ⟨_, rfl, ⟨nI (i + u), i + 1, rfl, by omega, ?_⟩, hmu⟩
              rw [hbe]
              show EU (be how _ (some (i + u))) _
              rw [z.1]
              exact ⟨rfl, by omega⟩
            · rw [if_neg z, if_pos rfl]
              refine Or.inl ⟨_, rfl, ⟨b, i + 1, rfl, by omega, ?_⟩, hmu⟩
              have e2 : be how (bestTo how (Uf how (lv n c) (lv n w) k m) i) (some (i + u)) = bestTo how (Uf how (lv n c) (lv n w) k m) i := by
                cases hbt : bestTo how (Uf how (lv n c) (lv n w) k m) i with
                | none => rw [hbt] at z; exact absurd ⟨rfl, fun x hx => by cases hx⟩ z
                | some x =>
                  rw [hbt] at z
                  simp only [be]
                  by_cases y : mo how (i + u) x = true
                  · exact absurd ⟨by simp only [be]; rw [if_pos y], fun x' hx' => by rw [← Option.some.inj hx']; exact y⟩ z
                  · rw [if_neg y]
              rw [hbe]
              show EU (be how _ (some (i + u))) _
              rw [e2]; exact hE)
    FU (-1, nI 0, T) ⟨-1, 0, rfl, by omega, rfl⟩ (FU_lt (show c s + 1 - _ < 100000 by omega) 0)
  subst w3
  exact ⟨r, w1, w2⟩
theorem p_fills {how : Bool} {n s k : Nat} {land : Int32} {c w : Nat → Nat} (hn : n ≤ 8) (hk : s + k + 1 = n) (hP : Pm T land n c w) (hrow : ∀ i, i ≤ 1920 → EU (U how (lv n c) (lv n w) k i) (T.1 23 (1921 * (s + 1) + i))) : ∃ T', f_X12_fills (nI s) land (hI how) T = some T' ∧ Sm [23] T T' ∧ (∀ i, i ≤ 1920 → EU (U how (lv n c) (lv n w) (k + 1) i) (T'.1 23 (1921 * s + i))) ∧ ∀ y, 1921 * (s + 1) ≤ y → T'.1 23 y = T.1 23 y := by
  obtain ⟨p1, p2, p3, p4, p5⟩ := hP s (by omega)
  have run : ∃ T', f_X12_fills_20 (nI s) (hI how) (nI (c s)) T = some T' ∧ Sm [23] T T' ∧ (∀ i, i ≤ 1920 → EU (U how (lv n c) (lv n w) (k + 1) i) (T'.1 23 (1921 * s + i))) ∧ ∀ y, 1921 * (s + 1) ≤ y → T'.1 23 y = T.1 23 y := by
    unfold f_X12_fills_20 f_X12_fills_146
    obtain ⟨T', w1, w2, w3, w4⟩ := wl_for (g_X12_fills_25 (nI s) (hI how) (nI (c s))) (fun m T => (nI m, T)) (fun m T1 => Sm [23] T T1 ∧ (∀ i, i < m → EU (U how (lv n c) (lv n w) (k + 1) i) (T1.1 23 (1921 * s + i))) ∧ ∀ y, 1921 * (s + 1) ≤ y → T1.1 23 y = T.1 23 y) 1921 (fun T1 => Sm [23] T T1 ∧ (∀ i, i < 1921 → EU (U how (lv n c) (lv n w) (k + 1) i) (T1.1 23 (1921 * s + i))) ∧ ∀ y, 1921 * (s + 1) ≤ y → T1.1 23 y = T.1 23 y)
      (fun m T1 hm hI' => by
        obtain ⟨mT, h1, h2⟩ := hI'
        unfold g_X12_fills_25 b_X12_fills_25 f_X12_fills_125i25
        obtain ⟨r, e1, e2⟩ := p_fill1 (T := T1) (how := how) (n := n) (s := s) (k := k) (m := m) (c := c) (w := w) hn hk (fun j hj => (hP j hj).2.1) p5 (by omega) (by rw [mT.1 2 (by decide)]; exact p3) (fun i hi => by rw [h2 _ (by omega)]; exact hrow i hi)
        rw [if_neg (by exact nI_nlt (a := 1920) (by omega) (by omega)), show ((-1 : Int32), (0 : Int32), T1) = (-1, nI 0, T1) from rfl, e1, zb_s]
        show ∃ k', jx_a ((1921 : Int32) * nI s + nI m) 17289 _ = _ ∧ _
        rw [r1921, zb_an _ (by omega) (by omega), zb_l, zb_l, cl_n (by omega), nI_1]
        refine ⟨_, rfl, Sm_u1 mT (by decide), fun i hi => ?_, fun y hy => ?_⟩
        · rw [rd_1, if_pos rfl]
          by_cases e : i = m
          · rw [if_pos (by omega), e]; exact e2
          · rw [if_neg (by omega)]; exact h1 i (by omega)
        · rw [rd_1, if_pos rfl, if_neg (by omega)]; exact h2 y hy)
      (fun T1 hI' => ⟨T1, by unfold g_X12_fills_25 b_X12_fills_25; rw [if_pos (by show (1920 : Int32) < nI 1921; decide)], hI'⟩) FU 0 T (by omega) ⟨Sm_rf, fun i hi => absurd hi (by omega), fun _ _ => rfl⟩ (FU_lt (by omega) 0)
    rw [show ((0 : Int32), T) = (nI 0, T) from rfl, w1, zb_s]
    exact ⟨T', rfl, w2, fun i hi => w3 i (by omega), w4⟩
  obtain ⟨T', r1, r2, r3, r4⟩ := run
  refine ⟨T', ?_, r2, r3, r4⟩
  unfold f_X12_fills
  rw [zb_an _ (by omega) (by omega), cl_n (by omega)]
  rcases p1 with ⟨q1, q2⟩ | ⟨q1, q2⟩
  · rw [if_pos q1, zb_an _ (by omega) (by omega), q2]; exact r1
  · rw [if_neg q1]; rw [q2] at r1; exact r1
