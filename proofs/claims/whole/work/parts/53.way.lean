variable {S T : St}
theorem c100 {β : Type} (k : Option β) : jx_d 100 k = k := zb_d k (by decide)
theorem op_waits (x a d w : Int32) (h : RR RxC S T) : OK RxC (f_X11_waits x a d w S) (f_X12_waits x a d w T) := by
  obtain ⟨n, m, t, c, e, d', hs, ht, hm, hp, hch, hi, hd, hh, hx0, hx1⟩ := id h
  obtain ⟨L, hL⟩ := hx0 (by decide)
  obtain ⟨sh, fe, hsh, hfe, s1, s2, t1, t2⟩ := Rm_sh hm
  unfold f_X11_waits f_X12_waits f_X12_waits_52 f_X12_waits_53
  simp only [q_within, q_isChange, p_isSum, p_isPair, q_isDay, p_isDay, p_in, zb_2, ite01, zd10, c100, zb_l, one_ne, reduceIte]
  refine ok_if Iff.rfl (fun _ => ok_r _ h) (fun h1 => ?_)
  obtain ⟨j, hj, rfl⟩ := x9999 (nn h1)
  by_cases hp : pairP a
  · rw [if_neg (show ¬ ¬ pairP a from fun q => q hp)]
    by_cases hq : a / 10 = a - a / 10 * 10
    · rw [if_pos (show ¬ (pairP a ∧ ¬ a / 10 = a - a / 10 * 10) from fun q => q.2 hq), if_pos hq]; exact ok_r _ h
    · rw [if_neg (show ¬ ¬ (pairP a ∧ ¬ a / 10 = a - a / 10 * 10) from fun q => q ⟨hp, hq⟩), if_neg hq]
      refine ok_if Iff.rfl (fun _ => ok_r _ h) (fun h2 => ?_)
      obtain ⟨D, hD, rfl⟩ := nI_of h2
      have e1 : nI D / (100 : Int32) = nI (D / 100) := pk_div (d := 100) hD (by omega) (by omega)
      have e2 : nI D - nI D / (100 : Int32) * 100 = nI (D % 100) := pk_rem (d := 100) hD (by omega) (by omega)
      by_cases hw : 0 ≤ w ∧ w ≤ 1
      · rw [if_neg (show ¬ ¬ (0 ≤ w ∧ w ≤ 1) from fun q => q hw)]
        refine ok_if Iff.rfl (fun _ => ok_r _ h) (fun h3 => ?_)
        by_cases h4 : nI D - nI D / (100 : Int32) * 100 ≤ 60
        · rw [if_pos h4, if_neg (show ¬ (60 : Int32) < nI D - nI D / 100 * 100 by rw [i32_lt]; rw [i32_le] at h4; omega)]
          obtain ⟨q, hq2, hq3⟩ := x9999 (nn h3)
          have hk : D % 100 ≤ 60 := by rw [e2] at h4; exact (nI_leI (b := 60) (by omega) (by omega)).mp h4
          obtain ⟨b, r, y, S', T', w1, w2, w3, w4, w5⟩ := qp_waits (x := j) (q := q) (k := D % 100) (a := a) (d := nI D) (what := w) hL hj hsh hfe s1 s2 t1 t2 hq2 hk hq3 e2
          rw [hq3]
          rw [show (nI q, (-1 : Int32), (0 : Int32), S) = (nI q, -1, nI 0, S) from rfl, w1, zb_s, show (nI q, (-1 : Int64), nI q, T) = (nI q, -1, nI (q + 0), T) from rfl, w2, zb_s]
          show OK RxC (f_X11_waits_127 w b r S') (if ¬ (0 ≤ w ∧ w ≤ 1) then _ else f_X12_waits_161 w b y T')
          rw [if_neg (show ¬ ¬ (0 ≤ w ∧ w ≤ 1) from fun q => q hw)]
          unfold f_X11_waits_127 f_X12_waits_161
          have hR := RR_keep h w4 w5
          refine ok_if Iff.rfl (fun _ => ok_r _ hR) (fun _ => ?_)
          rw [Wb_out w3]; exact ok_r _ hR
        · rw [if_neg h4, if_pos (show (60 : Int32) < nI D - nI D / 100 * 100 by rw [i32_lt]; rw [i32_le] at h4; omega)]
          exact ok_r _ h
      · rw [if_pos hw]
        have key : ∀ X : Option (Int32 × St), (if ¬ (0 ≤ w ∧ w ≤ 1) then some ((-1 : Int32), T) else X) = some (-1, T) := fun X => if_pos hw
        simp only [key, ite_self]
        exact ok_r _ h
  · rw [if_pos hp, if_pos (fun q : pairP a ∧ _ => hp q.1)]; exact ok_r _ h
/-! ways over lands -/
def cnt (s : Nat) : Nat := (1 - s % 2) + (1 - s / 2 % 2) + (1 - s / 4 % 2) + (1 - s / 8 % 2)
def nxt (s j : Nat) : Nat := s ||| 2 ^ j
def bit (s j : Nat) : Nat := s / 2 ^ j % 2
theorem way_bit : ∀ s, s < 16 → ∀ j, j < 4 → ((nI s >>> (nI j &&& 31)) &&& 1 = nI (bit s j)) ∧ (nI s ||| ((1 : Int32) <<< (nI j &&& 31)) = nI (nxt s j)) ∧ nxt s j < 16 ∧ bit (nxt s j) j = 1 ∧ (bit s j = 0 → cnt (nxt s j) + 1 = cnt s) := by decide +kernel
theorem way_keep : ∀ s, s < 16 → ∀ j, j < 4 → ∀ i, i < 4 → bit s i = 1 → bit (nxt s j) i = 1 := by decide +kernel
theorem bit_le (s j : Nat) : bit s j = 0 ∨ bit s j = 1 := by unfold bit; omega
def Bno (S T : St) : Prop := S.1 21 4 = -1 ∧ S.1 21 5 = 0 ∧ T.1 0 41 = 0
def Bok (S T : St) : Prop := ∃ v g, v < 2 ^ 31 ∧ g < 2 ^ 31 ∧ 0 < g ∧ S.1 21 4 = nI v ∧ T.2 0 40 = lN v ∧ S.1 21 5 = nI g ∧ T.1 0 41 = nI g
def Bst (P : Prop) (S T : St) : Prop := (Bno S T ∧ P) ∨ Bok S T
theorem Bst_keep {P : Prop} {S' T' : St} (h : Bst P S T) (h1 : S'.1 21 = S.1 21) (h2 : T'.1 0 41 = T.1 0 41) (h3 : T'.2 0 40 = T.2 0 40) : Bst P S' T' := by
  unfold Bst Bno Bok at h ⊢
  rw [h1, h2, h3]; exact h
theorem Bst_mono {P Q : Prop} (h : Bst P S T) (f : P → Q) : Bst Q S T := by
  rcases h with ⟨a, b⟩ | h
  · exact Or.inl ⟨a, f b⟩
  · exact Or.inr h
theorem way_un : ∀ s, s < 16 → cnt s ≠ 0 → ∃ j, j < 4 ∧ bit s j = 0 := by decide +kernel
/-- the land l is gone to from at1 -/
def goQ (s at1 g l : Nat) : Prop := (l = g ∧ at1 ≠ g) ∨ (l ≠ g ∧ bit s l = 0)
