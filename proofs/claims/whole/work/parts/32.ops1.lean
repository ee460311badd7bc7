def RR (Rx : Nat → St → St → Prop) (S T : St) : Prop := ∃ n m t c e d, Rs n S T ∧ Rt m S T ∧ Rm S T ∧ Rp t S T ∧ Rc c e n m S T ∧ Ri n m S T ∧ Rd d S T ∧ Rh d S T ∧ Rx 0 S T ∧ Rx 1 S T
/-- what is told of a text hangs on the cells of its code alone -/
def Fx (Rx : Nat → St → St → Prop) : Prop := ∀ (t : Nat) (S T S' T' : St), (∀ k, 40 ≤ k → k < 48 → k % 4 ≠ 2 → S'.1 k = S.1 k) → (∀ k, 13 ≤ k → k ≤ 17 → T'.1 k = T.1 k) → Rx t S T → Rx t S' T'
def OK (Rx : Nat → St → St → Prop) (f g : Option (Int32 × St)) : Prop := ∃ r S' T', f = some (r, S') ∧ g = some (r, T') ∧ RR Rx S' T'
section OPS
variable {Rx : Nat → St → St → Prop} {S T : St}
theorem ok_r (r : Int32) (h : RR Rx S T) : OK Rx (some (r, S)) (some (r, T)) := ⟨r, S, T, rfl, rfl, h⟩
theorem ok_e {r r' : Int32} (e : r = r') (h : RR Rx S T) : OK Rx (some (r, S)) (some (r', T)) := by subst e; exact ok_r r h
theorem ok_if {c c' : Prop} {dc : Decidable c} {dc' : Decidable c'} {A B A' B' : Option (Int32 × St)} (e : c ↔ c') (h1 : c → OK Rx A A') (h2 : ¬ c → OK Rx B B') : OK Rx (if c then A else B) (if c' then A' else B') := by
  by_cases h : c
  · rw [if_pos h, if_pos (e.mp h)]; exact h1 h
  · rw [if_neg h, if_neg (fun q => h (e.mpr q))]; exact h2 h
/-- the texts stay -/
theorem fx_keep (hF : Fx Rx) {t : Nat} {S' T' : St} (h : Rx t S T) (h1 : ∀ k, 40 ≤ k → k < 48 → k % 4 ≠ 2 → S'.1 k = S.1 k) (h2 : ∀ k, 13 ≤ k → k ≤ 17 → T'.1 k = T.1 k) : Rx t S' T' := hF t S T S' T' h1 h2 h
theorem Vc_mono {n n' m m' : Nat} {k w v : Int32} (h1 : n ≤ n') (h2 : m ≤ m') (h : Vc n m k w v) : Vc n' m' k w v := by
  rcases h with ⟨a, ⟨j, hj, e⟩, b⟩ | ⟨a, ⟨j, hj, e⟩, b⟩ | ⟨a, ⟨j, hj, e⟩, b⟩ | ⟨a, ⟨j, hj, e⟩, b⟩
  · exact Or.inl ⟨a, ⟨j, by omega, e⟩, b⟩
  · exact Or.inr (Or.inl ⟨a, ⟨j, by omega, e⟩, b⟩)
  · exact Or.inr (Or.inr (Or.inl ⟨a, ⟨j, by omega, e⟩, b⟩))
  · exact Or.inr (Or.inr (Or.inr ⟨a, ⟨j, by omega, e⟩, b⟩))
theorem Rc_mono {c d n n' m m' : Nat} {S T : St} (h1 : n ≤ n') (h2 : m ≤ m') (h : Rc c d n m S T) : Rc c d n' m' S T := by
  obtain ⟨a, b, c1, c2, c3, c4, h⟩ := h
  exact ⟨a, b, c1, c2, c3, c4, fun i hi => ⟨(h i hi).1, Vc_mono h1 h2 (h i hi).2.1, Vc_mono h1 h2 (h i hi).2.2⟩⟩
theorem Ri_mono {n n' m m' : Nat} {S T : St} (h1 : n ≤ n') (h2 : m ≤ m') (h : Ri n m S T) : Ri n' m' S T := by
  rcases h with h | ⟨a, b, x, y, hx, hy, r⟩
  · exact Or.inl h
  · exact Or.inr ⟨a, b, x, y, by omega, by omega, r⟩
theorem Rh_keep {d : Nat} {S T S' T' : St} (h : Rh d S T) (h1 : ∀ k, 48 ≤ k → S'.1 k = S.1 k) (h2 : S'.2 = S.2) (h3 : T'.1 31 = T.1 31) (h4 : T'.1 32 = T.1 32) (h5 : T'.2 33 = T.2 33) : Rh d S' T' := by
  intro x hx
  have := h x hx
  rw [h3, h4, h5, h2]
  simp only [h1 (48 + 2 * x) (by omega)]
  exact this
theorem ne_u1 (S : St) {k a : Nat} (i : Nat) (v : Int32) (h : a ≠ k) : (u1 S k i v).1 a = S.1 a := if_neg h
theorem op_sort (hF : Fx Rx) (a b : Int32) (h : RR Rx S T) : OK Rx (f_X11_sort a b S) (f_X12_sort a b T) := by
  unfold f_X11_sort f_X12_sort
  refine ok_if Iff.rfl (fun _ => ok_r _ h) (fun _ => ok_if Iff.rfl (fun _ => ok_r _ h) (fun _ => ?_))
  simp only [zb_d100, q_fits, p_isSoSort, zb_2, ite01]
  refine ok_if Iff.rfl (fun _ => ok_r _ h) (fun hc => ?_)
  have hc := Decidable.not_not.mp hc
  generalize a / 100 = A at hc ⊢
  generalize a - A * 100 = B at hc ⊢
  generalize b / 100 = C at hc ⊢
  generalize b - C * 100 = D at hc ⊢
  obtain ⟨n, m, t, c, e, d, hs, ht, hm, hp, hch, hi, hd, hh, hx0, hx1⟩ := id h
  obtain ⟨hn, hS, hT, hv⟩ := id hs
  unfold f_X1_add
  rw [hS, hT]
  by_cases h8 : n = 8
  · subst h8
    exact ok_r _ h
  · have hlt : n < 8 := by omega
    have e1 : nI n < (8 : Int32) := nI_lt (b := 8) hlt (by omega)
    have e2 : ¬ nI n = (8 : Int32) := fun q => h8 ((nI_eq (b := 8) (by omega) (by omega)).mp q)
    rw [if_pos e1, if_neg e2]
    unfold f_X12_comes
    simp (disch := omega) only [↓zb_l, ↓zb_s, ↓zb_2, rd_1, hS, hT, zb_an, cl_n, reduceIte, one_ne, Nat.reduceEqDiff]
    refine ⟨_, _, _, rfl, rfl, n + 1, m, t, c, e, d, ⟨hlt, by rw [rd_1, ← nI_1]; rfl, by rw [rd_1, ← nI_1]; rfl, fun i hi1 => ?_⟩, ht, hm, hp, Rc_mono (by omega) (by omega) hch, Ri_mono (by omega) (by omega) hi, hd, Rh_keep hh ?_ rfl rfl rfl rfl, fx_keep hF hx0 ?_ ?_, fx_keep hF hx1 ?_ ?_⟩
    · simp only [rd_1, reduceIte, Nat.reduceEqDiff]
      simp only [i32_le] at hc
      by_cases hin : i = n
      · subst hin
        simp only [reduceIte, rg]
        exact ⟨by simp, ⟨hc.1.1, hc.1.2⟩, ⟨hc.2.1.1, hc.2.1.2⟩, ⟨hc.2.2.1.1, hc.2.2.1.2⟩, ⟨hc.2.2.2.1, hc.2.2.2.2⟩, by decide, by decide⟩
      · simp only [if_neg hin]
        exact hv i (by omega)
    all_goals (intro k h1; intros; simp (disch := omega) only [ne_u1])
end OPS
