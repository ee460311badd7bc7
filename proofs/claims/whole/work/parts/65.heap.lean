variable {S T : St}
/-! heaps: the number of ways, by a list of sorts (worth, weight) -/
def sumTo (f : Nat → Nat) : Nat → Nat
  | 0 => 0
  | k + 1 => sumTo f k + f k
theorem sumTo_zero {f : Nat → Nat} : ∀ k, (∀ i, i < k → f i = 0) → sumTo f k = 0
  | 0, _ => rfl
  | k + 1, h => by
    show sumTo f k + f k = 0
    rw [sumTo_zero k (fun i hi => h i (by omega)), h k (by omega)]
theorem sumTo_stop {f : Nat → Nat} {c : Nat} : ∀ k, c ≤ k → (∀ i, c ≤ i → i < k → f i = 0) → sumTo f k = sumTo f c
  | 0, hc, _ => by rw [show c = 0 by omega]
  | k + 1, hc, h => by
    by_cases e : c = k + 1
    · rw [e]
    · show sumTo f k + f k = _
      rw [h k (by omega) (by omega), Nat.add_zero]
      exact sumTo_stop k (by omega) (fun i h1 h2 => h i h1 (by omega))
theorem sumTo_one {f : Nat → Nat} {c v : Nat} (hv : f c = v) : ∀ k, c < k → (∀ i, i < k → i ≠ c → f i = 0) → sumTo f k = v
  | 0, hc, _ => absurd hc (by omega)
  | k + 1, hc, h => by
    show sumTo f k + f k = v
    by_cases e : c = k
    · subst e
      rw [sumTo_zero c (fun i hi => h i (by omega) (by omega)), hv]; omega
    · rw [sumTo_one hv k (by omega) (fun i h1 h2 => h i (by omega) h2), h k (by omega) (fun q => e q.symm), Nat.add_zero]
theorem sumTo_const {f : Nat → Nat} : ∀ k, (∀ i, i < k → f i = 1) → sumTo f k = k
  | 0, _ => rfl
  | k + 1, h => by
    show sumTo f k + f k = k + 1
    rw [sumTo_const k (fun i hi => h i (by omega)), h k (by omega)]
theorem sumTo_congr {f f2 : Nat → Nat} : ∀ k, (∀ i, i < k → f i = f2 i) → sumTo f k = sumTo f2 k
  | 0, _ => rfl
  | k + 1, h => by
    show sumTo f k + f k = sumTo f2 k + f2 k
    rw [sumTo_congr k (fun i hi => h i (by omega)), h k (by omega)]
def Hw : List (Nat × Nat) → Nat → Nat → Nat → Nat
  | [], n, w, g => if n = 0 ∧ w = 0 ∧ g = 0 then 1 else 0
  | x :: r, n, w, g => sumTo (fun c => if c * x.1 ≤ w ∧ c * x.2 ≤ g then Hw r (n - c) (w - c * x.1) (g - c * x.2) else 0) (n + 1)
theorem Hw_one (a b n w g : Nat) : Hw [(a, b)] n w g = if n * a = w ∧ n * b = g then 1 else 0 := by
  show sumTo (fun c => if c * a ≤ w ∧ c * b ≤ g then (if n - c = 0 ∧ w - c * a = 0 ∧ g - c * b = 0 then 1 else 0) else 0) (n + 1) = _
  refine sumTo_one (c := n) ?_ (n + 1) (by omega) (fun i h1 h2 => ?_)
  · show (if n * a ≤ w ∧ n * b ≤ g then (if n - n = 0 ∧ w - n * a = 0 ∧ g - n * b = 0 then 1 else 0) else 0) = _
    by_cases q : n * a = w ∧ n * b = g
    · rw [if_pos q, if_pos ⟨by omega, by omega⟩, if_pos ⟨by omega, by omega, by omega⟩]
    · rw [if_neg q]
      by_cases z : n * a ≤ w ∧ n * b ≤ g
      · rw [if_pos z, if_neg (by omega)]
      · rw [if_neg z]
  · show (if i * a ≤ w ∧ i * b ≤ g then (if n - i = 0 ∧ w - i * a = 0 ∧ g - i * b = 0 then 1 else 0) else 0) = 0
    split
    · rw [if_neg (by omega)]
    · rfl
/-- two sorts: a number c of the first that fits -/
def fit2 (a b a2 b2 n w g c : Nat) : Prop := c * a + (n - c) * a2 = w ∧ c * b + (n - c) * b2 = g
theorem Hw_two (a b a2 b2 n w g : Nat) (P : Nat → Prop) (hP : ∀ c, c ≤ n → (P c ↔ fit2 a b a2 b2 n w g c)) (f : Nat → Nat) (hf : ∀ c, c ≤ n → (P c → f c = 1) ∧ (¬ P c → f c = 0)) : Hw [(a, b), (a2, b2)] n w g = sumTo f (n + 1) := by
  show sumTo (fun c => if c * a ≤ w ∧ c * b ≤ g then Hw [(a2, b2)] (n - c) (w - c * a) (g - c * b) else 0) (n + 1) = _
  refine sumTo_congr (n + 1) (fun c hc => ?_)
  show (if c * a ≤ w ∧ c * b ≤ g then Hw [(a2, b2)] (n - c) (w - c * a) (g - c * b) else 0) = _
  rw [Hw_one]
  have h1 := hP c (by omega)
  have h2 := hf c (by omega)
  unfold fit2 at h1
  by_cases q : P c
  · have := h1.mp q
    rw [h2.1 q, if_pos ⟨by omega, by omega⟩, if_pos ⟨by omega, by omega⟩]
  · rw [h2.2 q]
    split
    · rw [if_neg (fun z => q (h1.mpr ⟨by omega, by omega⟩))]
    · rfl
/-! the sorts of a land, from one on -/
def fs (S : St) (land : Int32) : Nat → Nat → List (Nat × Nat)
  | _, 0 => []
  | s, k + 1 => (if S.1 2 s = land then [((S.1 3 s).toNatClampNeg, (S.1 5 s).toNatClampNeg)] else []) ++ fs S land (s + 1) k
theorem fs_snoc (S : St) (land : Int32) : ∀ (k s : Nat), fs S land s (k + 1) = fs S land s k ++ (if S.1 2 (s + k) = land then [((S.1 3 (s + k)).toNatClampNeg, (S.1 5 (s + k)).toNatClampNeg)] else [])
  | 0, s => by
    show (if S.1 2 s = land then _ else _) ++ [] = [] ++ _
    rw [List.append_nil, List.nil_append]; rfl
  | k + 1, s => by
    show (if S.1 2 s = land then _ else _) ++ fs S land (s + 1) (k + 1) = ((if S.1 2 s = land then _ else _) ++ fs S land (s + 1) k) ++ _
    rw [fs_snoc S land k (s + 1), List.append_assoc, show s + 1 + k = s + (k + 1) by omega]
theorem fs_len (S : St) (land : Int32) : ∀ (k s : Nat), (fs S land s k).length ≤ k
  | 0, _ => Nat.le_refl 0
  | k + 1, s => by
    have := fs_len S land k (s + 1)
    show ((if S.1 2 s = land then _ else _) ++ fs S land (s + 1) k).length ≤ k + 1
    rw [List.length_append]
    split
    · simp only [List.length_cons, List.length_nil]; omega
    · simp only [List.length_nil]; omega
theorem g99 {n j : Nat} (hs : Rs n S T) (hj : j < n) : ∃ w, w ≤ 99 ∧ S.1 5 j = nI w ∧ (S.1 5 j).toNatClampNeg = w := by
  obtain ⟨hn, hS, hT, hv⟩ := hs
  have q := (hv j hj).2.2.2.2.1
  obtain ⟨w, w1, w2⟩ := ix_of (x := S.1 5 j) (n := 100) ⟨q.1, by have := q.2; omega⟩ (by omega)
  exact ⟨w, by omega, w2, by rw [w2, cl_n (by omega)]⟩
theorem fs_rg {n : Nat} {land : Int32} (hs : Rs n S T) : ∀ (k s : Nat), s + k ≤ n → ∀ x, x ∈ fs S land s k → x.1 ≤ 40 ∧ x.2 ≤ 99
  | 0, _, _, x, hx => absurd hx (List.not_mem_nil)
  | k + 1, s, h, x, hx => by
    unfold fs at hx
    rcases List.mem_append.mp hx with q | q
    · obtain ⟨w, w1, w2, w3, w4⟩ := w40 hs (show s < n by omega)
      obtain ⟨v, v1, v2, v3⟩ := g99 hs (show s < n by omega)
      split at q
      · rw [List.mem_singleton] at q
        subst q
        exact ⟨by show (S.1 3 s).toNatClampNeg ≤ 40; omega, by show (S.1 5 s).toNatClampNeg ≤ 99; omega⟩
      · exact absurd q List.not_mem_nil
    · exact fs_rg hs k (s + 1) (by omega) x q
/-! the reference's count -/
theorem mulb {c n x y : Nat} (hc : c ≤ n) (hn : n ≤ 20) (hx : x ≤ y) : c * x ≤ 20 * y := Nat.mul_le_mul (by omega) hx
theorem p_heaps {n : Nat} {land : Int32} (hs : Rs n S T) : ∀ (f s k m w g : Nat), s + k = n → k < f → m ≤ 20 → w ≤ 2000 → g ≤ 2000 → f_X12_heaps f (nI s) land (nI m) (nI g) (nI w) T = some (nI (Hw (fs S land s k) m w g), T) := by
  intro f
  induction f with
  | zero => intro s k m w g _ h; exact absurd h (by omega)
  | succ f ih =>
    intro s k m w g hsk hkf hm hw hg
    obtain ⟨hn, hS, hT, hv⟩ := id hs
    show fb_X12_heaps (f_X12_heaps f) (nI s) land (nI m) (nI g) (nI w) T = _
    unfold fb_X12_heaps
    rw [if_neg (nI_pos (by omega)), if_neg (nI_pos (by omega)), if_pos (nI_pos' (by omega)), hT]
    match k, hsk, hkf with
    | 0, hsk, _ =>
      rw [if_pos (by congr 1)]
      show _ = some (nI (if m = 0 ∧ w = 0 ∧ g = 0 then 1 else 0), T)
      have z : ∀ q : Nat, q < 2 ^ 31 → (nI q = 0 ↔ q = 0) := fun q hq => nI_eq (b := 0) hq (by omega)
      simp only [z m (by omega), z g (by omega), z w (by omega)]
      by_cases q1 : m = 0
      · by_cases q2 : g = 0
        · by_cases q3 : w = 0
          · rw [if_pos q1, if_pos q2, if_pos q3, if_pos ⟨q1, q3, q2⟩]; rfl
          · rw [if_pos q1, if_pos q2, if_neg q3, if_neg (fun h => q3 h.2.1)]; rfl
        · rw [if_pos q1, if_neg q2, if_neg (fun h => q2 h.2.2)]; rfl
      · rw [if_neg q1, if_neg (fun h => q1 h.1)]; rfl
    | k + 1, hsk, hkf =>
      have hsn : s < n := by omega
      obtain ⟨a, a1, a2, a3, a4⟩ := w40 hs hsn
      obtain ⟨b, b1, b2, b3⟩ := g99 hs hsn
      rw [if_neg (fun q => by rw [nI_eq (by omega) (by omega)] at q; omega), zb_an _ (by omega) (by omega), cl_n (by omega), (hv s hsn).1.1]
      unfold fs
      by_cases hl : S.1 2 s = land
      · rw [if_pos hl, if_pos hl, a4, b3]
        show _ = some (nI (sumTo (fun c => if c * a ≤ w ∧ c * b ≤ g then Hw (fs S land (s + 1) k) (m - c) (w - c * a) (g - c * b) else 0) (m + 1)), T)
        generalize hF : (fun c => if c * a ≤ w ∧ c * b ≤ g then Hw (fs S land (s + 1) k) (m - c) (w - c * a) (g - c * b) else 0) = F
        obtain ⟨r, w1, w2⟩ := wl_one (g_X12_heaps_74 (f_X12_heaps f) (nI s) land (nI m) (nI g) (nI w)) (fun z => ∃ c, c ≤ m + 1 ∧ z = (nI (sumTo F c), nI c, T)) (fun z => m + 1 - z.2.1.toNatClampNeg) (fun r => r = (nI (sumTo F (m + 1)), T))
          (fun z hI => by
            obtain ⟨c, hc, rfl⟩ := hI
            unfold g_X12_heaps_74 b_X12_heaps_74
            by_cases hcm : c = m + 1
            · subst hcm
              rw [if_pos (nI_lt (by omega) (by omega))]
              exact Or.inr ⟨_, rfl, rfl⟩
            · have cb := mulb (show c ≤ m by omega) hm b1
              have ca := mulb (show c ≤ m by omega) hm a2
              rw [if_neg (nI_nlt (by omega) (by omega))]
              simp (disch := omega) only [zb_an, cl_n, (hv s hsn).1.2.1, (hv s hsn).1.2.2.2.1, a3, b2]
              rw [pk_mul, pk_mul]
              by_cases q1 : g < c * b
              · rw [if_pos (nI_lt q1 (by omega))]
                refine Or.inr ⟨_, rfl, ?_⟩
                rw [sumTo_stop (c := c) (m + 1) (by omega) (fun i h1 h2 => by
                  rw [← hF]
                  have := Nat.mul_le_mul_right b h1
                  exact if_neg (fun z => by omega))]
              · rw [if_neg (nI_nlt (by omega) (by omega))]
                by_cases q2 : w < c * a
                · rw [if_pos (nI_lt q2 (by omega))]
                  refine Or.inr ⟨_, rfl, ?_⟩
                  rw [sumTo_stop (c := c) (m + 1) (by omega) (fun i h1 h2 => by
                    rw [← hF]
                    have := Nat.mul_le_mul_right a h1
                    exact if_neg (fun z => by omega))]
                · rw [if_neg (nI_nlt (by omega) (by omega)), nI_1, pk_sub (by omega), pk_sub (by omega), pk_sub (by omega), ih (s + 1) k (m - c) (w - c * a) (g - c * b) (by omega) (by omega) (by omega) (by omega) (by omega), zb_2, zb_l, zb_l, nI_add, nI_1]
                  refine Or.inl ⟨_, rfl, ⟨c + 1, by omega, ?_⟩, ?_⟩
                  · show _ = (nI (sumTo F c + F c), nI (c + 1), T)
                    rw [← hF]
                    show _ = (nI (sumTo _ c + (if c * a ≤ w ∧ c * b ≤ g then _ else _)), _, T)
                    rw [if_pos ⟨by omega, by omega⟩]
                  · show m + 1 - (nI (c + 1)).toNatClampNeg < m + 1 - c
                    rw [cl_n (by omega)]; omega)
          FU (nI (sumTo F 0), nI 0, T) ⟨0, by omega, rfl⟩ (FU_lt (show m + 1 - _ < 100000 by omega) 0)
        rw [show ((0 : Int32), (0 : Int32), T) = (nI (sumTo F 0), nI 0, T) from rfl, w1, zb_s, w2]
        rfl
      · rw [if_neg hl, if_neg hl, List.nil_append, nI_1, ih (s + 1) k m w g (by omega) (by omega) hm hw hg, zb_2]
