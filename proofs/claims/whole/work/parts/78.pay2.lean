/-! the reference's choice is the best by rank -/
theorem dg_lt {e : Nat} {x g : Nat → Nat} {n : Nat} (hg : ∀ j, j < n → g j = 8 ^ (e + j)) (hx : ∀ j, j < n → x j ≤ 7) : ∀ k, k ≤ n → sumw x g k + 8 ^ e ≤ 8 ^ (e + k)
  | 0, _ => by show 0 + 8 ^ e ≤ 8 ^ (e + 0); rw [Nat.add_zero]; omega
  | k + 1, hk => by
    have ih := dg_lt hg hx k (by omega)
    have h1 := Nat.mul_le_mul_right (8 ^ (e + k)) (hx k (by omega))
    show sumw x g k + x k * g k + 8 ^ e ≤ 8 ^ (e + (k + 1))
    rw [hg k (by omega), ← Nat.add_assoc, Nat.pow_succ]
    omega
theorem oI_some {i t : Nat} {o : Option Nat} (h : oI i o = some t) : ∃ u, o = some u ∧ t = i + u := by
  cases o with
  | none => cases h
  | some u => exact ⟨u, rfl, (Option.some.inj h).symm⟩
theorem Uf_some {how : Bool} {c w : Nat → Nat} {k m i t : Nat} (h : Uf how c w k m i = some t) : i * w k ≤ m ∧ ∃ u, U how c w k (m - i * w k) = some u ∧ t = i + u := by
  unfold Uf at h
  split at h
  · rename_i q
    obtain ⟨u, u1, u2⟩ := oI_some h
    exact ⟨q, u, u1, u2⟩
  · cases h
def Mh (how : Bool) : Int := if how then 16777216 else -16777216
theorem Ye_new {how : Bool} {c w : Nat → Nat} {k m : Nat} : Ye how c w (k + 1) m k = pick how c w k m := if_pos rfl
theorem Ye_old {how : Bool} {c w : Nat → Nat} {k m j : Nat} (h : j < k) : Ye how c w (k + 1) m j = Ye how c w k (m - pick how c w k m * w k) j := if_neg (by omega)
theorem Y_1 {how : Bool} {c w : Nat → Nat} : ∀ (k m t : Nat), U how c w k m = some t → (∀ j, j < k → Ye how c w k m j ≤ c j) ∧ sumw (Ye how c w k m) w k = m ∧ cnt2 (Ye how c w k m) k = t
  | 0, m, t, h => by
    unfold U at h
    split at h
    · rename_i hm
      cases h
      exact ⟨fun j hj => absurd hj (by omega), hm.symm, rfl⟩
    · cases h
  | k + 1, m, t, h => by
    rw [U_succ] at h
    obtain ⟨p1, p2, p3⟩ := pkTo_in (f := Uf how c w k m) (t := t) (c k + 1) (bestTo_in _ h)
    have hp : pick how c w k m = pkTo (Uf how c w k m) t (c k + 1) := by
      unfold pick
      rw [U_succ, h]; rfl
    rw [← hp] at p1 p2
    obtain ⟨q1, u, q2, q3⟩ := Uf_some p2
    obtain ⟨r1, r2, r3⟩ := Y_1 k _ u q2
    have hc : ∀ s, s < k → Ye how c w (k + 1) m s = Ye how c w k (m - pick how c w k m * w k) s := fun s hs => Ye_old hs
    refine ⟨fun j hj => ?_, ?_, ?_⟩
    · by_cases e : j = k
      · rw [e, Ye_new]; omega
      · rw [Ye_old (by omega)]; exact r1 j (by omega)
    · show sumw (Ye how c w (k + 1) m) w k + Ye how c w (k + 1) m k * w k = m
      rw [sumw_congr w hc, r2, Ye_new]; omega
    · show cnt2 (Ye how c w (k + 1) m) k + Ye how c w (k + 1) m k = t
      have : cnt2 (Ye how c w (k + 1) m) k = u := by rw [← r3]; exact sumTo_congr k hc
      rw [this, Ye_new]; omega
theorem Y_2 {how : Bool} {c w g : Nat → Nat} {e n : Nat} (hen : e + n ≤ 8) (hg : ∀ j, j < n → g j = 8 ^ (e + j)) (hc6 : ∀ j, j < n → c j ≤ 6) : ∀ (k m : Nat) (x : Nat → Nat), k ≤ n → (∀ j, j < k → x j ≤ c j) → sumw x w k = m → ∃ t, U how c w k m = some t ∧ rank (Mh how) g x k ≤ rank (Mh how) g (Ye how c w k m) k
  | 0, m, x, _, _, h => by
    have : m = 0 := h.symm
    subst this
    exact ⟨0, rfl, Int.le_refl _⟩
  | k + 1, m, x, hk, hx, h => by
    have hsum : sumw x w k + x k * w k = m := h
    obtain ⟨u, u1, u2⟩ := Y_2 (how := how) (c := c) (w := w) (g := g) hen hg hc6 k (m - x k * w k) x (by omega) (fun j hj => hx j (by omega)) (by omega)
    have hxk := hx k (by omega)
    have fx : Uf how c w k m (x k) = some (x k + u) := by unfold Uf; rw [if_pos (by omega), u1]; rfl
    obtain ⟨t, t1, t2⟩ := bestTo_ge (how := how) (c k + 1) (x k) (by omega) fx
    refine ⟨t, t1, ?_⟩
    obtain ⟨a1, a2, a3⟩ := Y_1 k (m - x k * w k) u u1
    obtain ⟨b1, b2, b3⟩ := Y_1 (k + 1) m t t1
    obtain ⟨p1, p2, p3⟩ := pkTo_in (f := Uf how c w k m) (t := t) (c k + 1) (bestTo_in _ t1)
    have hp : pick how c w k m = pkTo (Uf how c w k m) t (c k + 1) := by
      unfold pick
      rw [U_succ, t1]; rfl
    rw [← hp] at p1 p2 p3
    obtain ⟨q1, v, q2, q3⟩ := Uf_some p2
    obtain ⟨d1, d2, d3⟩ := Y_1 k _ v q2
    have hcc : ∀ s, s < k → Ye how c w (k + 1) m s = Ye how c w k (m - pick how c w k m * w k) s := fun s hs => Ye_old hs
    rw [rank_succ, rank_succ, rank_congr _ _ hcc, Ye_new]
    have bx := dg_lt (e := e) (x := Ye how c w k (m - x k * w k)) (g := g) (n := k) (fun j hj => hg j (by omega)) (fun j hj => by have := a1 j hj; have := hc6 j (by omega); omega) k (Nat.le_refl k)
    have e8 : 8 ^ (e + (k + 1)) ≤ 16777216 := by
      have := Nat.pow_le_pow_right (show 0 < 8 by omega) (show e + (k + 1) ≤ 8 by omega)
      rw [show (16777216 : Nat) = 8 ^ 8 from rfl]; exact this
    have e9 : 8 ^ (e + (k + 1)) = 8 * 8 ^ (e + k) := by rw [← Nat.add_assoc, Nat.pow_succ, Nat.mul_comm]
    have pe := Nat.two_pow_pos 0
    have pe1 : 0 < 8 ^ e := Nat.pow_pos (by omega)
    have hgk := hg k (by omega)
    generalize hP : pick how c w k m = P at *
    generalize hX : x k = X at *
    have rx : rank (Mh how) g (Ye how c w k (m - X * w k)) k = Mh how * (u : Int) + (sumw (Ye how c w k (m - X * w k)) g k : Int) := by unfold rank; rw [a3]
    have ry : rank (Mh how) g (Ye how c w k (m - P * w k)) k = Mh how * (v : Int) + (sumw (Ye how c w k (m - P * w k)) g k : Int) := by unfold rank; rw [d3]
    by_cases eq : X + u = t
    · have hle := p3 X (by omega) (by rw [fx, eq])
      by_cases z : X = P
      · subst z
        omega
      · -- fewer of this sort: the rest can't make up for it
        have g1 : g k = 8 ^ (e + k) := hgk
        rw [rx] at u2
        rw [ry]
        generalize sumw (Ye how c w k (m - X * w k)) g k = D at *
        generalize sumw (Ye how c w k (m - P * w k)) g k = D2 at *
        rw [g1]
        generalize 8 ^ (e + k) = G at *
        have m1 : (X : Int) * (Mh how + (G : Int)) = (X : Int) * Mh how + ((X * G : Nat) : Int) := by rw [Int.mul_add, Int.natCast_mul]
        have m2 : (P : Int) * (Mh how + (G : Int)) = (P : Int) * Mh how + ((P * G : Nat) : Int) := by rw [Int.mul_add, Int.natCast_mul]
        have m3 : X * G + G ≤ P * G := by
          have := Nat.mul_le_mul_right G (show X + 1 ≤ P by omega)
          rw [Nat.add_mul, Nat.one_mul] at this; exact this
        have m4 : Mh how * (u : Int) + (X : Int) * Mh how = Mh how * (t : Int) := by rw [← eq, Int.natCast_add, Int.mul_add, Int.mul_comm (X : Int)]; omega
        have m5 : Mh how * (v : Int) + (P : Int) * Mh how = Mh how * (t : Int) := by rw [q3, Int.natCast_add, Int.mul_add, Int.mul_comm (P : Int)]; omega
        rw [m1, m2]
        omega
    · -- not so good a number: its rank is lower
      rw [rx] at u2
      rw [ry]
      have bX := dg_lt (e := e) (x := fun j => if j = k then X else Ye how c w k (m - X * w k) j) (g := g) (n := k + 1) (fun j hj => hg j (by omega)) (fun j hj => by
        show (if j = k then X else Ye how c w k (m - X * w k) j) ≤ 7
        by_cases z : j = k
        · rw [if_pos z]; have := hc6 k (by omega); omega
        · rw [if_neg z]; have := a1 j (by omega); have := hc6 j (by omega); omega) (k + 1) (Nat.le_refl _)
      have bX2 : sumw (fun j => if j = k then X else Ye how c w k (m - X * w k) j) g (k + 1) = sumw (Ye how c w k (m - X * w k)) g k + X * g k := by
        show sumw (fun j => if j = k then X else Ye how c w k (m - X * w k) j) g k + (if k = k then X else _) * g k = _
        rw [sumw_congr g (fun s hs => show (fun j => if j = k then X else Ye how c w k (m - X * w k) j) s = Ye how c w k (m - X * w k) s from if_neg (by omega)), if_pos rfl]
      rw [bX2] at bX
      generalize sumw (Ye how c w k (m - X * w k)) g k = D at *
      generalize sumw (Ye how c w k (m - P * w k)) g k = D2 at *
      have m1 : (X : Int) * (Mh how + (g k : Int)) = (X : Int) * Mh how + ((X * g k : Nat) : Int) := by rw [Int.mul_add, Int.natCast_mul]
      have m2 : (P : Int) * (Mh how + (g k : Int)) = (P : Int) * Mh how + ((P * g k : Nat) : Int) := by rw [Int.mul_add, Int.natCast_mul]
      have m4 : Mh how * (u : Int) + (X : Int) * Mh how = Mh how * ((X + u : Nat) : Int) := by rw [Int.natCast_add, Int.mul_add, Int.mul_comm (X : Int)]; omega
      have m5 : Mh how * (v : Int) + (P : Int) * Mh how = Mh how * (t : Int) := by rw [q3, Int.natCast_add, Int.mul_add, Int.mul_comm (P : Int)]; omega
      rw [m1, m2]
      generalize X * g k = XG at *
      generalize P * g k = PG at *
      generalize hN : X + u = N at *
      unfold ge2 at t2
      unfold Mh at *
      cases how
      · simp only [Bool.false_eq_true, reduceIte] at *
        omega
      · simp only [reduceIte] at *
        omega
