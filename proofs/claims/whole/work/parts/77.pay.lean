/-! payments: the best of all choices, once more by sorts -/
theorem oM_some {a b : Option Int} {v : Int} (h : oM a b = some v) : a = some v ∨ b = some v := by
  cases a with
  | none => exact Or.inr h
  | some x =>
    cases b with
    | none => exact Or.inl h
    | some y =>
      simp only [oM, Option.some.injEq] at h
      split at h
      · exact Or.inr (by rw [h])
      · exact Or.inl (by rw [h])
theorem oM_l {a b : Option Int} {x : Int} (h : a = some x) : ∃ v, oM a b = some v ∧ x ≤ v := by
  subst h
  cases b with
  | none => exact ⟨x, rfl, Int.le_refl x⟩
  | some y =>
    refine ⟨_, rfl, ?_⟩
    split <;> omega
theorem oM_r {a b : Option Int} {y : Int} (h : b = some y) : ∃ v, oM a b = some v ∧ y ≤ v := by
  subst h
  cases a with
  | none => exact ⟨y, rfl, Int.le_refl y⟩
  | some x =>
    refine ⟨_, rfl, ?_⟩
    split <;> omega
theorem V_cons (x : Nat × Int) (l : List (Nat × Int)) (m : Nat) : V (x :: l) m = oM (V l m) (if x.1 ≤ m then oA x.2 (V l (m - x.1)) else none) := rfl
theorem V_repA {w : Nat} {r : Int} {L : List (Nat × Int)} : ∀ (j m : Nat) (v : Int), V (List.replicate j (w, r) ++ L) m = some v → ∃ i u, i ≤ j ∧ i * w ≤ m ∧ V L (m - i * w) = some u ∧ v = u + (i : Int) * r
  | 0, m, v, h => ⟨0, v, Nat.le_refl _, by omega, by rw [Nat.zero_mul]; exact h, by simp⟩
  | j + 1, m, v, h => by
    rw [List.replicate_succ, List.cons_append, V_cons] at h
    rcases oM_some h with q | q
    · obtain ⟨i, u, h1, h2, h3, h4⟩ := V_repA j m v q
      exact ⟨i, u, by omega, h2, h3, h4⟩
    · by_cases hw : w ≤ m
      · rw [if_pos hw] at q
        cases hV : V (List.replicate j (w, r) ++ L) (m - w) with
        | none => rw [hV] at q; cases q
        | some v1 =>
          rw [hV] at q
          simp only [oA, Option.some.injEq] at q
          obtain ⟨i, u, h1, h2, h3, h4⟩ := V_repA j (m - w) v1 hV
          have e : (i + 1) * w = i * w + w := by rw [Nat.add_mul, Nat.one_mul]
          refine ⟨i + 1, u, by omega, by omega, by rw [e, ← Nat.sub_sub, Nat.sub_right_comm]; exact h3, ?_⟩
          have : ((i + 1 : Nat) : Int) * r = (i : Int) * r + r := by rw [Int.natCast_add, Int.add_mul]; simp
          omega
      · rw [if_neg hw] at q; cases q
theorem V_repB {w : Nat} {r : Int} {L : List (Nat × Int)} : ∀ (j m i : Nat) (u : Int), i ≤ j → i * w ≤ m → V L (m - i * w) = some u → ∃ v, V (List.replicate j (w, r) ++ L) m = some v ∧ u + (i : Int) * r ≤ v
  | 0, m, i, u, h1, h2, h3 => by
    have : i = 0 := by omega
    subst this
    rw [Nat.zero_mul] at h3
    exact ⟨u, h3, by simp⟩
  | j + 1, m, i, u, h1, h2, h3 => by
    rw [List.replicate_succ, List.cons_append, V_cons]
    by_cases hi : i ≤ j
    · obtain ⟨v1, e1, e2⟩ := V_repB (r := r) j m i u hi h2 h3
      obtain ⟨v, e3, e4⟩ := oM_l (b := (if (w, r).1 ≤ m then oA (w, r).2 (V (List.replicate j (w, r) ++ L) (m - (w, r).1)) else none)) e1
      exact ⟨v, e3, by omega⟩
    · obtain ⟨i, rfl⟩ : ∃ i', i = i' + 1 := ⟨i - 1, by omega⟩
      have e : (i + 1) * w = i * w + w := by rw [Nat.add_mul, Nat.one_mul]
      rw [e, ← Nat.sub_sub, Nat.sub_right_comm] at h3
      obtain ⟨v1, e1, e2⟩ := V_repB (r := r) j (m - w) i u (by omega) (by omega) h3
      have q : (if (w, r).1 ≤ m then oA (w, r).2 (V (List.replicate j (w, r) ++ L) (m - (w, r).1)) else none) = some (v1 + r) := by
        show (if w ≤ m then oA r (V (List.replicate j (w, r) ++ L) (m - w)) else none) = _
        rw [if_pos (by omega), e1]; rfl
      obtain ⟨v, e3, e4⟩ := oM_r (a := V (List.replicate j (w, r) ++ L) m) q
      refine ⟨v, e3, ?_⟩
      have : ((i + 1 : Nat) : Int) * r = (i : Int) * r + r := by rw [Int.natCast_add, Int.add_mul]; simp
      omega
/-- the list of coins with ranks: so much a coin, and its place's part -/
def pl (c w : Nat → Nat) (M : Int) (g : Nat → Nat) : Nat → List (Nat × Int)
  | 0 => []
  | k + 1 => List.replicate (c k) (w k, M + (g k : Int)) ++ pl c w M g k
def cnt2 (x : Nat → Nat) (k : Nat) : Nat := sumTo x k
def sumw (x w : Nat → Nat) (k : Nat) : Nat := sumTo (fun s => x s * w s) k
def rank (M : Int) (g x : Nat → Nat) (k : Nat) : Int := M * (cnt2 x k : Int) + (sumw x g k : Int)
theorem rank_succ (M : Int) (g x : Nat → Nat) (k : Nat) : rank M g x (k + 1) = rank M g x k + (x k : Int) * (M + (g k : Int)) := by
  unfold rank cnt2 sumw
  show M * ((sumTo x k + x k : Nat) : Int) + ((sumTo (fun s => x s * g s) k + x k * g k : Nat) : Int) = _
  rw [Int.natCast_add, Int.natCast_add, Int.natCast_mul, Int.mul_add, Int.mul_add, Int.mul_comm M (x k : Int)]
  omega
theorem rank_congr (M : Int) (g : Nat → Nat) {x y : Nat → Nat} {k : Nat} (h : ∀ s, s < k → x s = y s) : rank M g x k = rank M g y k := by
  unfold rank cnt2 sumw
  rw [sumTo_congr k h, sumTo_congr (f := fun s => x s * g s) (f2 := fun s => y s * g s) k (fun s hs => by show x s * g s = y s * g s; rw [h s hs])]
theorem sumw_congr (g : Nat → Nat) {x y : Nat → Nat} {k : Nat} (h : ∀ s, s < k → x s = y s) : sumw x g k = sumw y g k := sumTo_congr k (fun s hs => by rw [h s hs])
theorem V_specA {c w : Nat → Nat} {M : Int} {g : Nat → Nat} : ∀ (k m : Nat) (v : Int), V (pl c w M g k) m = some v → ∃ x : Nat → Nat, (∀ s, s < k → x s ≤ c s) ∧ sumw x w k = m ∧ rank M g x k = v
  | 0, m, v, h => by
    unfold pl V at h
    split at h
    · rename_i hm
      cases h
      exact ⟨fun _ => 0, fun s hs => absurd hs (by omega), hm.symm, by unfold rank cnt2 sumw; simp [sumTo]⟩
    · cases h
  | k + 1, m, v, h => by
    obtain ⟨i, u, h1, h2, h3, h4⟩ := V_repA (c k) m v h
    obtain ⟨x, x1, x2, x3⟩ := V_specA k _ u h3
    have hx : ∀ s, s < k → (fun s => if s = k then i else x s) s = x s := fun s hs => if_neg (by omega)
    refine ⟨fun s => if s = k then i else x s, fun s hs => ?_, ?_, ?_⟩
    · show (if s = k then i else x s) ≤ c s
      by_cases e : s = k
      · rw [if_pos e, e]; exact h1
      · rw [if_neg e]; exact x1 s (by omega)
    · show sumw (fun s => if s = k then i else x s) w k + (if k = k then i else x k) * w k = m
      rw [sumw_congr w hx, x2, if_pos rfl]; omega
    · rw [rank_succ, rank_congr M g hx, x3, h4]
      show u + ((if k = k then i else x k : Nat) : Int) * _ = _
      rw [if_pos rfl]
theorem V_specB {c w : Nat → Nat} {M : Int} {g : Nat → Nat} : ∀ (k m : Nat) (x : Nat → Nat), (∀ s, s < k → x s ≤ c s) → sumw x w k = m → ∃ v, V (pl c w M g k) m = some v ∧ rank M g x k ≤ v
  | 0, m, x, h1, h2 => ⟨0, by
      have : m = 0 := h2.symm
      subst this; rfl, by unfold rank cnt2 sumw; simp [sumTo]⟩
  | k + 1, m, x, h1, h2 => by
    have e : sumw x w k + x k * w k = m := h2
    obtain ⟨u, u1, u2⟩ := V_specB (c := c) (w := w) (M := M) (g := g) k (m - x k * w k) x (fun s hs => h1 s (by omega)) (by omega)
    obtain ⟨v, v1, v2⟩ := V_repB (r := M + (g k : Int)) (c k) m (x k) u (h1 k (by omega)) (by omega) u1
    exact ⟨v, v1, by rw [rank_succ]; omega⟩
theorem pl_bd {c w : Nat → Nat} {M : Int} {g : Nat → Nat} {n : Nat} (hc : ∀ s, s < n → c s ≤ 6) (hg : ∀ s, s < n → g s ≤ 2097152) (hM : -16777216 ≤ M ∧ M ≤ 16777216) : ∀ k, k ≤ n → (∀ x, x ∈ pl c w M g k → -18874368 ≤ x.2 ∧ x.2 ≤ 18874368) ∧ (pl c w M g k).length ≤ 6 * k
  | 0, _ => ⟨fun x hx => absurd hx List.not_mem_nil, Nat.le_refl _⟩
  | k + 1, hk => by
    obtain ⟨i1, i2⟩ := pl_bd hc hg hM k (by omega)
    have q := hc k (by omega)
    have q2 := hg k (by omega)
    refine ⟨fun x hx => ?_, ?_⟩
    · rcases List.mem_append.mp hx with e | e
      · have := List.eq_of_mem_replicate e
        subst this
        show -18874368 ≤ M + (g k : Int) ∧ M + (g k : Int) ≤ 18874368
        omega
      · exact i1 x e
    · show (List.replicate (c k) (w k, M + (g k : Int)) ++ pl c w M g k).length ≤ 6 * (k + 1)
      rw [List.length_append, List.length_replicate]; omega
/-- sums backward -/
theorem sumTo_head (f : Nat → Nat) : ∀ n, sumTo f (n + 1) = f 0 + sumTo (fun i => f (i + 1)) n
  | 0 => by show 0 + f 0 = f 0 + 0; omega
  | n + 1 => by
    show sumTo f (n + 1) + f (n + 1) = f 0 + (sumTo (fun i => f (i + 1)) n + f (n + 1))
    rw [sumTo_head f n]; omega
theorem sumTo_rev (f : Nat → Nat) : ∀ n, sumTo f n = sumTo (fun j => f (n - 1 - j)) n
  | 0 => rfl
  | n + 1 => by
    rw [sumTo_head (fun j => f (n + 1 - 1 - j)) n]
    show sumTo f n + f n = f (n + 1 - 1 - 0) + _
    rw [sumTo_rev f n, show n + 1 - 1 - 0 = n by omega, sumTo_congr n (fun i hi => by show f (n - 1 - i) = (fun i => f (n + 1 - 1 - (i + 1))) i; congr 1; omega)]
    omega
/-! the reference's table: levels from the last sort on -/
def oI (i : Nat) : Option Nat → Option Nat
  | none => none
  | some t => some (i + t)
/-- fewest (false) or most (true) -/
def mo (how : Bool) (n than : Nat) : Bool := if how then decide (than < n) else decide (n < than)
def be (how : Bool) (a b : Option Nat) : Option Nat := match b with
  | none => a
  | some y => match a with
    | none => some y
    | some x => if mo how y x = true then some y else some x
def bestTo (how : Bool) (f : Nat → Option Nat) : Nat → Option Nat
  | 0 => none
  | j + 1 => be how (bestTo how f j) (f j)
def pkTo (f : Nat → Option Nat) (t : Nat) : Nat → Nat
  | 0 => 0
  | j + 1 => if f j = some t then j else pkTo f t j
def U (how : Bool) (c w : Nat → Nat) : Nat → Nat → Option Nat
  | 0, m => if m = 0 then some 0 else none
  | k + 1, m => bestTo how (fun i => if i * w k ≤ m then oI i (U how c w k (m - i * w k)) else none) (c k + 1)
def Uf (how : Bool) (c w : Nat → Nat) (k m : Nat) (i : Nat) : Option Nat := if i * w k ≤ m then oI i (U how c w k (m - i * w k)) else none
theorem U_succ (how : Bool) (c w : Nat → Nat) (k m : Nat) : U how c w (k + 1) m = bestTo how (Uf how c w k m) (c k + 1) := rfl
def pick (how : Bool) (c w : Nat → Nat) (k m : Nat) : Nat := pkTo (Uf how c w k m) ((U how c w (k + 1) m).getD 0) (c k + 1)
def Ye (how : Bool) (c w : Nat → Nat) : Nat → Nat → Nat → Nat
  | 0, _ => fun _ => 0
  | k + 1, m => fun j => if j = k then pick how c w k m else Ye how c w k (m - pick how c w k m * w k) j
theorem be_some {how : Bool} {a b : Option Nat} {t : Nat} (h : be how a b = some t) : a = some t ∨ b = some t := by
  cases b with
  | none => exact Or.inl h
  | some y =>
    cases a with
    | none => exact Or.inr h
    | some x =>
      simp only [be] at h
      split at h
      · exact Or.inr h
      · exact Or.inl h
theorem bestTo_in {how : Bool} {f : Nat → Option Nat} {t : Nat} : ∀ j, bestTo how f j = some t → ∃ i, i < j ∧ f i = some t
  | 0, h => by cases h
  | j + 1, h => by
    rcases be_some h with q | q
    · obtain ⟨i, i1, i2⟩ := bestTo_in j q
      exact ⟨i, by omega, i2⟩
    · exact ⟨j, by omega, q⟩
/-- t is at least as good as u -/
def ge2 (how : Bool) (t u : Nat) : Prop := if how then u ≤ t else t ≤ u
theorem be_ge {how : Bool} {a b : Option Nat} {u : Nat} (h : a = some u ∨ b = some u) : ∃ t, be how a b = some t ∧ ge2 how t u := by
  cases b with
  | none =>
    rcases h with h | h
    · exact ⟨u, h, by unfold ge2; split <;> omega⟩
    · cases h
  | some y =>
    cases a with
    | none =>
      rcases h with h | h
      · cases h
      · exact ⟨u, h, by unfold ge2; split <;> omega⟩
    | some x =>
      have key : ∀ z, z = x ∨ z = y → ∃ t, be how (some x) (some y) = some t ∧ ge2 how t z := by
        intro z hz
        simp only [be]
        unfold mo ge2
        cases how
        · simp only [Bool.false_eq_true, reduceIte, decide_eq_true_eq]
          by_cases q : y < x
          · rw [if_pos q]; exact ⟨y, rfl, by omega⟩
          · rw [if_neg q]; exact ⟨x, rfl, by omega⟩
        · simp only [reduceIte, decide_eq_true_eq]
          by_cases q : x < y
          · rw [if_pos q]; exact ⟨y, rfl, by omega⟩
          · rw [if_neg q]; exact ⟨x, rfl, by omega⟩
      rcases h with h | h
      · exact key u (Or.inl (Option.some.inj h).symm)
      · exact key u (Or.inr (Option.some.inj h).symm)
theorem ge2_tr {how : Bool} {a b c : Nat} (h : ge2 how a b) (h2 : ge2 how b c) : ge2 how a c := by
  unfold ge2 at *
  cases how <;> simp at * <;> omega
theorem bestTo_ge {how : Bool} {f : Nat → Option Nat} {u : Nat} : ∀ j i, i < j → f i = some u → ∃ t, bestTo how f j = some t ∧ ge2 how t u
  | 0, i, h, _ => absurd h (by omega)
  | j + 1, i, h, h2 => by
    by_cases e : i = j
    · subst e; exact be_ge (Or.inr h2)
    · obtain ⟨t, t1, t2⟩ := bestTo_ge (how := how) j i (by omega) h2
      obtain ⟨t', t3, t4⟩ := be_ge (how := how) (b := f j) (Or.inl t1)
      exact ⟨t', t3, ge2_tr t4 t2⟩
theorem bestTo_stop {how : Bool} {f : Nat → Option Nat} {c : Nat} : ∀ k, c ≤ k → (∀ i, c ≤ i → i < k → f i = none) → bestTo how f k = bestTo how f c
  | 0, h, _ => by rw [show c = 0 by omega]
  | k + 1, h, h2 => by
    by_cases e : c = k + 1
    · rw [e]
    · show be how (bestTo how f k) (f k) = _
      rw [h2 k (by omega) (by omega)]
      exact bestTo_stop k (by omega) (fun i h3 h4 => h2 i h3 (by omega))
theorem pkTo_stop {f : Nat → Option Nat} {t c : Nat} : ∀ k, c ≤ k → (∀ i, c ≤ i → i < k → f i = none) → pkTo f t k = pkTo f t c
  | 0, h, _ => by rw [show c = 0 by omega]
  | k + 1, h, h2 => by
    by_cases e : c = k + 1
    · rw [e]
    · show (if f k = some t then k else pkTo f t k) = _
      rw [h2 k (by omega) (by omega), if_neg (by simp)]
      exact pkTo_stop k (by omega) (fun i h3 h4 => h2 i h3 (by omega))
theorem pkTo_in {f : Nat → Option Nat} {t : Nat} : ∀ k, (∃ i, i < k ∧ f i = some t) → pkTo f t k < k ∧ f (pkTo f t k) = some t ∧ ∀ i, i < k → f i = some t → i ≤ pkTo f t k
  | 0, ⟨i, h, _⟩ => absurd h (by omega)
  | k + 1, ⟨i, h, h2⟩ => by
    unfold pkTo
    by_cases e : f k = some t
    · rw [if_pos e]; exact ⟨by omega, e, fun j hj _ => by omega⟩
    · rw [if_neg e]
      have hik : i < k := by
        by_cases z : i = k
        · subst z; exact absurd h2 e
        · omega
      obtain ⟨p1, p2, p3⟩ := pkTo_in k ⟨i, hik, h2⟩
      refine ⟨by omega, p2, fun j hj h3 => ?_⟩
      by_cases z : j = k
      · subst z; exact absurd h3 e
      · exact p3 j (by omega) h3
