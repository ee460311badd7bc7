/-! pure rows over the mirrors' words -/
theorem zb_s {α β : Type} (a : α) (f : α → Option β) : jx_b (some a) f = f a := rfl
theorem zb_2 {α β γ : Type} (a : α) (b : β) (f : α → β → Option γ) : jx_b2 (some (a, b)) f = f a b := rfl
theorem zb_l {α β : Type} (v : α) (f : α → Option β) : jx_l v f = f v := rfl
theorem zb_a {β : Type} {i : Int32} {n : Nat} (k : Option β) (h : 0 ≤ i.toInt ∧ i.toInt < n) : jx_a i n k = k := if_pos h
theorem zb_an {β : Type} {j n : Nat} (k : Option β) (h : j < n) (hn : n < 2 ^ 31) : jx_a (nI j) n k = k := if_pos (by rw [nI_toInt (by omega)]; omega)
theorem zb_d {β : Type} {y : Int32} (k : Option β) (h : ¬ y = 0) : jx_d y k = k := if_neg h
theorem zb_d100 {β : Type} (k : Option β) : jx_d 100 k = k := rfl
theorem zb_d1000 {β : Type} (k : Option β) : jx_d 1000 k = k := rfl
theorem zb_d10 {β : Type} (k : Option β) : jx_d 10 k = k := rfl
theorem zb_d10000 {β : Type} (k : Option β) : jx_d 10000 k = k := rfl
theorem zb_d64 {β : Type} (k : Option β) : jx_d 64 k = k := rfl
theorem zb_e1000 {β : Type} (k : Option β) : jx_e 1000 k = k := rfl
theorem zb_e100 {β : Type} (k : Option β) : jx_e 100 k = k := rfl
theorem zb_z0 {β : Type} (k : Option β) : jx_z 0 k = k := rfl
theorem zb_z1 {β : Type} (k : Option β) : jx_z 1 k = k := rfl
theorem zb_zc {β : Type} (c : Prop) [Decidable c] (k : Option β) : jx_z (if c then 1 else 0) k = k := by by_cases h : c <;> simp [h, jx_z]
theorem zb_zd {β : Type} (c : Prop) [Decidable c] (k : Option β) : jx_z (if c then 0 else 1) k = k := by by_cases h : c <;> simp [h, jx_z]
theorem cl_n {n : Nat} (h : n < 2 ^ 31) : Int32.toNatClampNeg (nI n) = n := nI_clamp h
theorem rd_1 (S : St) (k i : Nat) (v : Int32) (a b : Nat) : (u1 S k i v).1 a b = if a = k then (if b = i then v else S.1 k b) else S.1 a b := by
  unfold u1 s1 upd
  by_cases h : a = k
  · subst h; simp
  · simp [h]
theorem rd_2 (S : St) (k i : Nat) (v : Int32) : (u1 S k i v).2 = S.2 := rfl
theorem rd_3 (S : St) (k i : Nat) (v : Int64) (a b : Nat) : (u2 S k i v).2 a b = if a = k then (if b = i then v else S.2 k b) else S.2 a b := by
  unfold u2 s2 vp_updL
  by_cases h : a = k
  · subst h; simp
  · simp [h]
theorem rd_4 (S : St) (k i : Nat) (v : Int64) : (u2 S k i v).1 = S.1 := rfl
theorem i32_le (a b : Int32) : a ≤ b ↔ a.toInt ≤ b.toInt := Int32.le_iff_toInt_le
theorem i32_lt (a b : Int32) : a < b ↔ a.toInt < b.toInt := Int32.lt_iff_toInt_lt
theorem i32_eq (a b : Int32) : a = b ↔ a.toInt = b.toInt := Int32.toInt_inj.symm
/-- one loop: an invariant, a measure that falls -/
theorem wl_one {σ ρ : Type} (g : σ → Option (σ ⊕ ρ)) (I : σ → Prop) (μ : σ → Nat) (Q : ρ → Prop) (h : ∀ s, I s → (∃ s', g s = some (.inl s') ∧ I s' ∧ μ s' < μ s) ∨ (∃ r, g s = some (.inr r) ∧ Q r)) : ∀ (N : Nat) (s : σ), I s → μ s < N → ∃ r, jx_w g N s = some r ∧ Q r := by
  intro N
  induction N with
  | zero => intro s _ h2; exact absurd h2 (by omega)
  | succ N ih =>
    intro s hI hN
    rcases h s hI with ⟨s', h1, h2, h3⟩ | ⟨r, h1, h2⟩
    · obtain ⟨r, e1, e2⟩ := ih s' h2 (by omega)
      exact ⟨r, by unfold jx_w; rw [h1]; exact e1, e2⟩
    · exact ⟨r, by unfold jx_w; rw [h1]; rfl, h2⟩
/-- two loops step by step -/
theorem wl_two {σ τ ρ κ : Type} (g : σ → Option (σ ⊕ ρ)) (g2 : τ → Option (τ ⊕ κ)) (I : σ → τ → Prop) (μ : σ → Nat) (Q : ρ → κ → Prop) (h : ∀ s t, I s t → (∃ s' t', g s = some (.inl s') ∧ g2 t = some (.inl t') ∧ I s' t' ∧ μ s' < μ s) ∨ (∃ r r', g s = some (.inr r) ∧ g2 t = some (.inr r') ∧ Q r r')) : ∀ (N : Nat) (s : σ) (t : τ), I s t → μ s < N → ∃ r r', jx_w g N s = some r ∧ jx_w g2 N t = some r' ∧ Q r r' := by
  intro N
  induction N with
  | zero => intro s t _ h2; exact absurd h2 (by omega)
  | succ N ih =>
    intro s t hI hN
    rcases h s t hI with ⟨s', t', h1, h2, h3, h4⟩ | ⟨r, r', h1, h2, h3⟩
    · obtain ⟨r, r', e1, e2, e3⟩ := ih s' t' h3 (by omega)
      exact ⟨r, r', by unfold jx_w; rw [h1]; exact e1, by unfold jx_w; rw [h2]; exact e2, e3⟩
    · exact ⟨r, r', by unfold jx_w; rw [h1]; rfl, by unfold jx_w; rw [h2]; rfl, h3⟩
/-! the small questions -/
theorem q_within (v a b : Int32) (S : St) : f_X11_within v a b S = some (if a ≤ v ∧ v ≤ b then 1 else 0, S) := by
  unfold f_X11_within
  simp only [i32_le, i32_lt]
  split
  · rw [if_neg (by omega)]
  · split
    · rw [if_neg (by omega)]
    · rw [if_pos (by omega)]
theorem p_in (v a b : Int32) (S : St) : f_X12_in v a b S = some (if a ≤ v ∧ v ≤ b then 1 else 0, S) := q_within v a b S
theorem one_ne : ¬ ((1 : Int32) = 0) := by decide
theorem ite01 (c : Prop) [Decidable c] : ((if c then (1 : Int32) else 0) = 0) ↔ ¬ c := by by_cases h : c <;> simp [h]
theorem q_isLand (v : Int32) (S : St) : f_X11_isLand v S = some (if 0 ≤ v ∧ v ≤ 3 then 1 else 0, S) := by
  unfold f_X11_isLand; rw [q_within, zb_2, zb_zc]
theorem q_isDay (v : Int32) (S : St) : f_X11_isDay v S = some (if 0 ≤ v ∧ v ≤ 9999 then 1 else 0, S) := by
  unfold f_X11_isDay; rw [q_within, zb_2, zb_zc]
theorem q_isShelf (v : Int32) (S : St) : f_X11_isShelf v S = some (if 0 ≤ v ∧ v ≤ 5 then 1 else 0, S) := by
  unfold f_X11_isShelf; rw [q_within, zb_2, zb_zc]
theorem p_isLand (v : Int32) (S : St) : f_X12_isLand v S = some (if 0 ≤ v ∧ v ≤ 3 then 1 else 0, S) := by
  unfold f_X12_isLand; rw [p_in, zb_2, zb_zc]
theorem p_isDay (v : Int32) (S : St) : f_X12_isDay v S = some (if 0 ≤ v ∧ v ≤ 9999 then 1 else 0, S) := by
  unfold f_X12_isDay; rw [p_in, zb_2, zb_zc]
theorem p_isShelf (v : Int32) (S : St) : f_X12_isShelf v S = some (if 0 ≤ v ∧ v ≤ 5 then 1 else 0, S) := by
  unfold f_X12_isShelf; rw [p_in, zb_2, zb_zc]
theorem p_isSum (v : Int32) (S : St) : f_X12_isSum v S = some (if 0 ≤ v ∧ v ≤ 9999 then 1 else 0, S) := by
  unfold f_X12_isSum; rw [p_in, zb_2, zb_zc]
theorem q_fits (a b c d : Int32) (S : St) : f_X1_fits a b c d S = some (if (0 ≤ a ∧ a ≤ 3) ∧ (1 ≤ b ∧ b ≤ 40) ∧ (0 ≤ c ∧ c ≤ 99) ∧ (0 ≤ d ∧ d ≤ 99) then 1 else 0, S) := by
  unfold f_X1_fits
  simp only [q_isLand, q_within, zb_2, ite01]
  grind
theorem p_isSoSort (a b c d : Int32) (S : St) : f_X12_isSoSort a b c d S = some (if (0 ≤ a ∧ a ≤ 3) ∧ (1 ≤ b ∧ b ≤ 40) ∧ (0 ≤ c ∧ c ≤ 99) ∧ (0 ≤ d ∧ d ≤ 99) then 1 else 0, S) := by
  unfold f_X12_isSoSort
  simp only [p_isLand, p_in, zb_2, ite01]
  grind
