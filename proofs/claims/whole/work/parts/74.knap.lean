variable {S T : St}
/-! the best of all choices, by sums -/
def oM : Option Int → Option Int → Option Int
  | none, b => b
  | some x, none => some x
  | some x, some y => some (if x < y then y else x)
def oA (r : Int) : Option Int → Option Int
  | none => none
  | some x => some (x + r)
def V : List (Nat × Int) → Nat → Option Int
  | [], m => if m = 0 then some 0 else none
  | x :: l, m => oM (V l m) (if x.1 ≤ m then oA x.2 (V l (m - x.1)) else none)
theorem V_bd {R : Int} (hR : 0 ≤ R) : ∀ (l : List (Nat × Int)), (∀ x, x ∈ l → -R ≤ x.2 ∧ x.2 ≤ R) → ∀ m v, V l m = some v → -(R * (l.length : Int)) ≤ v ∧ v ≤ R * (l.length : Int)
  | [], _, m, v, h => by
    unfold V at h
    split at h
    · cases h; simp
    · cases h
  | x :: l, hl, m, v, h => by
    have hx := hl x List.mem_cons_self
    have ih := V_bd hR l (fun y hy => hl y (List.mem_cons_of_mem _ hy))
    have e : R * ((x :: l).length : Int) = R * (l.length : Int) + R := by rw [List.length_cons]; push_cast; rw [Int.mul_add, Int.mul_one]
    have hnn : 0 ≤ R * (l.length : Int) := Int.mul_nonneg hR (by omega)
    unfold V at h
    rw [e]
    generalize h1 : V l m = a at h
    generalize h2 : (if x.1 ≤ m then oA x.2 (V l (m - x.1)) else none) = b at h
    have hb : ∀ y, b = some y → -(R * (l.length : Int) + R) ≤ y ∧ y ≤ R * (l.length : Int) + R := fun y hy => by
      rw [hy] at h2
      split at h2
      · generalize h3 : V l (m - x.1) = c at h2
        cases c with
        | none => cases h2
        | some u =>
          have := ih _ _ h3
          simp only [oA, Option.some.injEq] at h2
          omega
      · cases h2
    have ha : ∀ y, a = some y → -(R * (l.length : Int) + R) ≤ y ∧ y ≤ R * (l.length : Int) + R := fun y hy => by
      have := ih _ _ (h1.trans hy)
      omega
    cases a with
    | none => exact hb v h
    | some y =>
      cases b with
      | none => simp only [oM, Option.some.injEq] at h; subst h; exact ha y rfl
      | some z =>
        simp only [oM, Option.some.injEq] at h
        split at h
        · subst h; exact hb z rfl
        · subst h; exact ha y rfl
theorem V_nn : ∀ (l : List (Nat × Int)), (∀ x, x ∈ l → 0 ≤ x.2) → ∀ m v, V l m = some v → 0 ≤ v
  | [], _, m, v, h => by
    unfold V at h
    split at h
    · cases h; simp
    · cases h
  | x :: l, hl, m, v, h => by
    have hx := hl x List.mem_cons_self
    have ih := V_nn l (fun y hy => hl y (List.mem_cons_of_mem _ hy))
    unfold V at h
    generalize h1 : V l m = a at h
    generalize h2 : (if x.1 ≤ m then oA x.2 (V l (m - x.1)) else none) = b at h
    have hb : ∀ y, b = some y → 0 ≤ y := fun y hy => by
      rw [hy] at h2
      split at h2
      · generalize h3 : V l (m - x.1) = c at h2
        cases c with
        | none => cases h2
        | some u =>
          have := ih _ _ h3
          simp only [oA, Option.some.injEq] at h2
          omega
      · cases h2
    have ha : ∀ y, a = some y → 0 ≤ y := fun y hy => ih _ _ (h1.trans hy)
    cases a with
    | none => exact hb v h
    | some y =>
      cases b with
      | none => simp only [oM, Option.some.injEq] at h; subst h; exact ha y rfl
      | some z =>
        simp only [oM, Option.some.injEq] at h
        split at h
        · subst h; exact hb z rfl
        · subst h; exact ha y rfl
/-- a place of a row holds a value, or the mark of none -/
def Ex (z : Int32) : Option Int → Int32 → Prop
  | none, e => e = z
  | some v, e => e.toInt = v ∧ z.toInt < v
def kn (z : Int32) (w : Nat) (r : Int32) (f : Nat → Int32) (a : Nat) : Int32 := if f (a - w) = z then f a else if f a < f (a - w) + r then f (a - w) + r else f a
theorem Ex_ne {z e : Int32} {v : Int} (h : Ex z (some v) e) : ¬ e = z := fun q => by
  have h1 := h.1
  have h2 := h.2
  rw [q] at h1; omega
theorem i32_add {x y : Int32} (h1 : -2147483648 ≤ x.toInt + y.toInt) (h2 : x.toInt + y.toInt < 2147483648) : (x + y).toInt = x.toInt + y.toInt := by
  rw [Int32.toInt_add]
  exact Int.bmod_eq_of_le (by omega) (by omega)
theorem kn_Ex {z r : Int32} {w a : Nat} {f : Nat → Int32} {l : List (Nat × Int)} (hw : w ≤ a) (h1 : Ex z (V l a) (f a)) (h2 : Ex z (V l (a - w)) (f (a - w))) (hb : ∀ u, V l (a - w) = some u → z.toInt < u + r.toInt ∧ -2147483648 ≤ u + r.toInt ∧ u + r.toInt < 2147483648) : Ex z (V ((w, r.toInt) :: l) a) (kn z w r f a) := by
  show Ex z (oM (V l a) (if w ≤ a then oA r.toInt (V l (a - w)) else none)) (kn z w r f a)
  rw [if_pos hw]
  unfold kn
  generalize V l a = A at h1
  generalize V l (a - w) = B at h2 hb
  cases B with
  | none =>
    rw [if_pos (show f (a - w) = z from h2)]
    cases A with
    | none => exact h1
    | some x => exact h1
  | some u =>
    obtain ⟨b1, b2, b3⟩ := hb u rfl
    rw [if_neg (Ex_ne h2)]
    have e := h2.1
    have es : (f (a - w) + r).toInt = u + r.toInt := by rw [i32_add (by omega) (by omega), e]
    cases A with
    | none =>
      have h1' : f a = z := h1
      rw [if_pos (by rw [i32_lt, es, h1']; exact b1)]
      exact ⟨es, b1⟩
    | some x =>
      have x1 := h1.1
      show Ex z (some (if x < u + r.toInt then u + r.toInt else x)) _
      by_cases q : x < u + r.toInt
      · rw [if_pos q, if_pos (by rw [i32_lt, es, x1]; exact q)]
        exact ⟨es, b1⟩
      · rw [if_neg q, if_neg (by rw [i32_lt, es, x1]; exact q)]
        exact h1
theorem V_skip {w a : Nat} {r : Int} {l : List (Nat × Int)} (h : a < w) : V ((w, r) :: l) a = V l a := by
  show oM (V l a) (if w ≤ a then _ else none) = _
  rw [if_neg (by omega)]
  cases V l a <;> rfl
/-- a row is gone down, place by place, from top to w -/
theorem lp_knap {g : (Int32 × St) → Option ((Int32 × St) ⊕ St)} {k w top : Nat} {z r : Int32} (hw : 1 ≤ w) (ht : top < 10000) (S : St) (hs : ∀ (a : Nat) (S' : St), w ≤ a → a ≤ top → Sm [k] S S' → ∃ S2, g (nI a, S') = some (.inl (nI a + (-1), S2)) ∧ Sm [k] S' S2 ∧ ∀ i, S2.1 k i = if i = a then kn z w r (S'.1 k) a else S'.1 k i) (hx : ∀ (a : Nat) (S' : St), a < w → a ≤ top → Sm [k] S S' → g (nI a, S') = some (.inr S')) : ∃ S', jx_w g FU (nI top, S) = some S' ∧ Sm [k] S S' ∧ ∀ i, S'.1 k i = if w ≤ i ∧ i ≤ top then kn z w r (S.1 k) i else S.1 k i := by
  obtain ⟨S', h1, h2, h3⟩ := wl_one g (fun y => ∃ a S', y = (nI a, S') ∧ a ≤ top ∧ Sm [k] S S' ∧ ∀ i, S'.1 k i = if w ≤ i ∧ a < i ∧ i ≤ top then kn z w r (S.1 k) i else S.1 k i) (fun y => y.1.toNatClampNeg) (fun S' => Sm [k] S S' ∧ ∀ i, S'.1 k i = if w ≤ i ∧ i ≤ top then kn z w r (S.1 k) i else S.1 k i)
    (fun y hI => by
      obtain ⟨a, S1, rfl, ha, hm, hv⟩ := hI
      by_cases q : w ≤ a
      · obtain ⟨S2, e1, e2, e3⟩ := hs a S1 q ha hm
        obtain ⟨b, rfl⟩ : ∃ b, a = b + 1 := ⟨a - 1, by omega⟩
        rw [pk_m1] at e1
        refine Or.inl ⟨_, e1, ⟨b, S2, rfl, by omega, Sm_tr hm e2, fun i => ?_⟩, by show (nI b).toNatClampNeg < (nI (b + 1)).toNatClampNeg; rw [cl_n (by omega), cl_n (by omega)]; omega⟩
        rw [e3 i]
        by_cases ei : i = b + 1
        · subst ei
          rw [if_pos rfl, if_pos ⟨q, by omega, ha⟩]
          have v1 : S1.1 k (b + 1) = S.1 k (b + 1) := by rw [hv (b + 1), if_neg (by omega)]
          have v2 : S1.1 k (b + 1 - w) = S.1 k (b + 1 - w) := by rw [hv (b + 1 - w), if_neg (by omega)]
          unfold kn
          rw [v1, v2]
        · rw [if_neg ei, hv i]
          by_cases z1 : w ≤ i ∧ b + 1 < i ∧ i ≤ top
          · rw [if_pos z1, if_pos ⟨z1.1, by omega, z1.2.2⟩]
          · rw [if_neg z1, if_neg (by omega)]
      · refine Or.inr ⟨S1, hx a S1 (by omega) ha hm, hm, fun i => ?_⟩
        rw [hv i]
        by_cases z1 : w ≤ i ∧ i ≤ top
        · rw [if_pos z1, if_pos ⟨z1.1, by omega, z1.2⟩]
        · rw [if_neg z1, if_neg (by omega)])
    FU (nI top, S) ⟨top, S, rfl, Nat.le_refl _, Sm_rf, fun i => by rw [if_neg (by omega)]⟩ (by show (nI top).toNatClampNeg < FU; rw [cl_n (by omega)]; unfold FU; omega)
  exact ⟨S', h1, h2, h3⟩
/-- after it, the row holds the best with one choice more -/
theorem knap_row {z r : Int32} {w top : Nat} {f f' : Nat → Int32} {l : List (Nat × Int)} (hf : ∀ i, f' i = if w ≤ i ∧ i ≤ top then kn z w r f i else f i) (h : ∀ i, i ≤ top → Ex z (V l i) (f i)) (hb : ∀ k u, V l k = some u → z.toInt < u + r.toInt ∧ -2147483648 ≤ u + r.toInt ∧ u + r.toInt < 2147483648) : ∀ i, i ≤ top → Ex z (V ((w, r.toInt) :: l) i) (f' i) := fun i hi => by
  rw [hf i]
  by_cases q : w ≤ i
  · rw [if_pos ⟨q, hi⟩]
    exact kn_Ex q (h i hi) (h (i - w) (by omega)) (fun u hu => hb _ u hu)
  · rw [if_neg (by omega), V_skip (by omega)]
    exact h i hi
