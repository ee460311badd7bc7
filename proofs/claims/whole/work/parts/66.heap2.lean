variable {S T : St}
/-- c of the first of two sorts fits -/
abbrev PP (a b a2 b2 m w g c : Nat) : Prop := (c : Int) * ((a : Int) - a2) = (w : Int) - ((m * a2 : Nat) : Int) ∧ (c : Int) * ((b : Int) - b2) = (g : Int) - ((m * b2 : Nat) : Int)
theorem PP_half {a a2 m w c : Nat} (hc : c ≤ m) : (c : Int) * ((a : Int) - a2) = (w : Int) - ((m * a2 : Nat) : Int) ↔ c * a + (m - c) * a2 = w := by
  have h1 : (m - c) * a2 + c * a2 = m * a2 := by rw [← Nat.add_mul, Nat.sub_add_cancel hc]
  have h2 : (c : Int) * ((a : Int) - a2) = ((c * a : Nat) : Int) - ((c * a2 : Nat) : Int) := by rw [Int.mul_sub, Int.natCast_mul, Int.natCast_mul]
  rw [h2]
  generalize c * a = A at *
  generalize (m - c) * a2 = B at *
  generalize c * a2 = C at *
  generalize m * a2 = D at *
  omega
theorem PP_fit {a b a2 b2 m w g c : Nat} (hc : c ≤ m) : PP a b a2 b2 m w g c ↔ fit2 a b a2 b2 m w g c := by
  unfold PP fit2
  rw [PP_half hc, PP_half hc]
theorem Hw_two' (a b a2 b2 m w g : Nat) : Hw [(a, b), (a2, b2)] m w g = sumTo (fun c => if PP a b a2 b2 m w g c then 1 else 0) (m + 1) := Hw_two a b a2 b2 m w g (PP a b a2 b2 m w g) (fun c h => PP_fit h) _ (fun c h => ⟨fun q => if_pos q, fun q => if_neg q⟩)
theorem mul_small {c : Nat} {x : Int32} (hc : c ≤ 20) (h1 : -200 ≤ x.toInt) (h2 : x.toInt ≤ 200) : (nI c * x).toInt = (c : Int) * x.toInt := by
  rw [Int32.toInt_mul, nI_toInt (by omega)]
  have b1 : (c : Int) * x.toInt ≤ 20 * 200 := by
    have : (c : Int) * x.toInt ≤ (c : Int) * 200 := Int.mul_le_mul_of_nonneg_left h2 (by omega)
    omega
  have b2 : -(20 * 200) ≤ (c : Int) * x.toInt := by
    have : (c : Int) * (-200) ≤ (c : Int) * x.toInt := Int.mul_le_mul_of_nonneg_left h1 (by omega)
    omega
  exact Int.bmod_eq_of_le (by omega) (by omega)
theorem q_109 {a b a2 b2 m w g : Nat} {dA dB mW mG q : Int32} (ha : a ≤ 99) (ha2 : a2 ≤ 99) (hb : b ≤ 99) (hb2 : b2 ≤ 99) (hm : m ≤ 20) (h1 : dA.toInt = (a : Int) - a2) (h2 : dB.toInt = (b : Int) - b2) (h3 : mW.toInt = (w : Int) - ((m * a2 : Nat) : Int)) (h4 : mG.toInt = (g : Int) - ((m * b2 : Nat) : Int)) (hq : ∀ c : Nat, c ≤ m → PP a b a2 b2 m w g c → (c : Int) = q.toInt) (S : St) : f_X3_waysOfTwo_109 (nI m) dA dB mW mG q S = some (nI (Hw [(a, b), (a2, b2)] m w g), S) := by
  unfold f_X3_waysOfTwo_109
  rw [q_within, zb_2, Hw_two']
  have h0 : (0 : Int32).toInt = 0 := rfl
  by_cases hin : 0 ≤ q ∧ q ≤ nI m
  · rw [if_pos hin, if_neg one_ne]
    obtain ⟨c0, hc, hc31, rfl⟩ := ix_lit (k := m) (by omega) rfl hin
    rw [nI_toInt hc31] at hq
    have e1 : (nI c0 * dA = mW) ↔ (c0 : Int) * ((a : Int) - a2) = (w : Int) - ((m * a2 : Nat) : Int) := by
      rw [i32_eq, mul_small (by omega) (by omega) (by omega), h1, h3]
    have e2 : (nI c0 * dB = mG) ↔ (c0 : Int) * ((b : Int) - b2) = (g : Int) - ((m * b2 : Nat) : Int) := by
      rw [i32_eq, mul_small (by omega) (by omega) (by omega), h2, h4]
    by_cases p : PP a b a2 b2 m w g c0
    · rw [if_pos (e1.mpr p.1), if_pos (e2.mpr p.2), sumTo_one (f := fun c => if PP a b a2 b2 m w g c then 1 else 0) (c := c0) (v := 1) (if_pos p) (m + 1) (by omega) (fun i hi hne => if_neg (fun z => hne (by have := hq i (by omega) z; omega)))]
      rfl
    · rw [sumTo_zero (m + 1) (fun i hi => if_neg (fun z => p (by have := hq i (by omega) z; rw [show c0 = i by omega]; exact z)))]
      by_cases z : nI c0 * dA = mW
      · rw [if_pos z, if_neg (fun y => p ⟨e1.mp z, e2.mp y⟩)]; rfl
      · rw [if_neg z]; rfl
  · rw [if_neg hin, if_pos rfl, sumTo_zero (m + 1) (fun i hi => if_neg (fun z => hin (by
      have := hq i (by omega) z
      rw [i32_le, i32_le, h0, nI_toInt (by omega)]; omega)))]
    rfl
theorem div_toInt {x y : Int32} (h1 : -100000 ≤ x.toInt) : (x / y).toInt = x.toInt.tdiv y.toInt := Int32.toInt_div_of_ne_left x y (fun q => by rw [q] at h1; exact absurd h1 (by decide))
theorem q_two {a b a2 b2 m w g p : Nat} (hp : p + 1 < 8) (ha : a ≤ 99) (ha2 : a2 ≤ 99) (hb : b ≤ 99) (hb2 : b2 ≤ 99) (hm : m ≤ 20) (hw : w ≤ 2000) (hg : g ≤ 2000) (c1 : S.1 23 p = nI a) (c2 : S.1 23 (p + 1) = nI a2) (c3 : S.1 24 p = nI b) (c4 : S.1 24 (p + 1) = nI b2) : f_X3_waysOfTwo (nI p) (nI m) (nI w) (nI g) S = some (nI (Hw [(a, b), (a2, b2)] m w g), S) := by
  unfold f_X3_waysOfTwo
  have m1 := mulb (Nat.le_refl m) hm ha2
  have m2 := mulb (Nat.le_refl m) hm hb2
  rw [nI_1]
  simp (disch := omega) only [zb_an, cl_n, zb_l, c1, c2, c3, c4, pk_mul, nI_1]
  have h1 : (nI a - nI a2).toInt = (a : Int) - a2 := pk_sub_toInt (by omega) (by omega)
  have h2 : (nI b - nI b2).toInt = (b : Int) - b2 := pk_sub_toInt (by omega) (by omega)
  have h3 : (nI w - nI (m * a2)).toInt = (w : Int) - ((m * a2 : Nat) : Int) := pk_sub_toInt (by omega) (by omega)
  have h4 : (nI g - nI (m * b2)).toInt = (g : Int) - ((m * b2 : Nat) : Int) := pk_sub_toInt (by omega) (by omega)
  generalize nI a - nI a2 = dA at h1 ⊢
  generalize nI b - nI b2 = dB at h2 ⊢
  generalize nI w - nI (m * a2) = mW at h3 ⊢
  generalize nI g - nI (m * b2) = mG at h4 ⊢
  have h0 : (0 : Int32).toInt = 0 := rfl
  unfold f_X3_waysOfTwo_91
  by_cases zA : dA = 0
  · rw [if_pos zA]
    have eA : a = a2 := by rw [i32_eq, h1, h0] at zA; omega
    by_cases zB : dB = 0
    · rw [if_pos zB, Hw_two']
      have eB : b = b2 := by rw [i32_eq, h2, h0] at zB; omega
      subst eA; subst eB
      have pp : ∀ c, PP a b a b m w g c ↔ (mW = 0 ∧ mG = 0) := fun c => by
        unfold PP
        rw [i32_eq, i32_eq, h3, h4, h0, Int.sub_self, Int.sub_self, Int.mul_zero]
        exact ⟨fun ⟨x, y⟩ => ⟨x.symm, y.symm⟩, fun ⟨x, y⟩ => ⟨x.symm, y.symm⟩⟩
      by_cases y1 : mW = 0
      · by_cases y2 : mG = 0
        · rw [if_pos y1, if_pos y2, sumTo_const (m + 1) (fun i hi => if_pos ((pp i).mpr ⟨y1, y2⟩))]
        · rw [if_pos y1, if_neg y2, sumTo_zero (m + 1) (fun i hi => if_neg (fun z => y2 ((pp i).mp z).2))]; rfl
      · rw [if_neg y1, sumTo_zero (m + 1) (fun i hi => if_neg (fun z => y1 ((pp i).mp z).1))]; rfl
    · rw [if_neg zB, if_pos zA, zb_d _ zB]
      refine q_109 ha ha2 hb hb2 hm h1 h2 h3 h4 (fun c hc hP => ?_) S
      rw [div_toInt (by omega), h2, h4]
      exact (Int.tdiv_eq_of_eq_mul_left (by rw [i32_eq, h2, h0] at zB; omega) hP.2.symm).symm
  · rw [if_neg zA, if_neg zA, zb_d _ zA]
    refine q_109 ha ha2 hb hb2 hm h1 h2 h3 h4 (fun c hc hP => ?_) S
    rw [div_toInt (by omega), h1, h3]
    exact (Int.tdiv_eq_of_eq_mul_left (by rw [i32_eq, h1, h0] at zA; omega) hP.1.symm).symm
theorem q_waysFrom {N : Nat} (hN : N ≤ 8) (hS : S.1 22 2 = nI N) : ∀ (f : Nat) (r : List (Nat × Nat)) (p m w g : Nat), r.length < f → p + r.length = N → (∀ x, x ∈ r → x.1 ≤ 40 ∧ x.2 ≤ 99) → cdA (S.1 23) p (r.map (fun x => x.1)) → cdA (S.1 24) p (r.map (fun x => x.2)) → m ≤ 20 → w ≤ 2000 → g ≤ 2000 → f_X3_waysFrom f (nI p) (nI m) (nI w) (nI g) S = some (nI (Hw r m w g), S) := by
  intro f
  induction f with
  | zero => intro r p m w g h; exact absurd h (by omega)
  | succ f ih =>
    intro r p m w g hrf hpr hrg hc3 hc4 hm hw hg
    show fb_X3_waysFrom (f_X3_waysFrom f) (nI p) (nI m) (nI w) (nI g) S = _
    unfold fb_X3_waysFrom
    rw [if_neg (nI_pos (by omega)), if_pos (nI_pos' (by omega)), hS]
    match r, hrf, hpr, hrg, hc3, hc4 with
    | [], hrf, hpr, hrg, hc3, hc4 =>
      rw [if_neg (nI_nlt (by simp only [List.length_nil] at hpr; omega) (by simp only [List.length_nil] at hpr; omega))]
      show _ = some (nI (if m = 0 ∧ w = 0 ∧ g = 0 then 1 else 0), S)
      have z : ∀ q : Nat, q < 2 ^ 31 → (nI q = 0 ↔ q = 0) := fun q hq => nI_eq (b := 0) hq (by omega)
      simp only [z m (by omega), z g (by omega), z w (by omega)]
      by_cases q1 : m = 0
      · by_cases q2 : w = 0
        · by_cases q3 : g = 0
          · rw [if_pos q1, if_pos q2, if_pos q3, if_pos ⟨q1, q2, q3⟩]; rfl
          · rw [if_pos q1, if_pos q2, if_neg q3, if_neg (fun h => q3 h.2.2)]; rfl
        · rw [if_pos q1, if_neg q2, if_neg (fun h => q2 h.2.1)]; rfl
      · rw [if_neg q1, if_neg (fun h => q1 h.1)]; rfl
    | [(a, b)], hrf, hpr, hrg, hc3, hc4 =>
      simp only [List.length_cons, List.length_nil] at hpr
      obtain ⟨ra, rb⟩ := hrg (a, b) (List.mem_singleton.mpr rfl)
      simp only at ra rb
      have e3 : S.1 23 p = nI a := hc3.1
      have e4 : S.1 24 p = nI b := hc4.1
      have m1 := mulb (Nat.le_refl m) hm ra
      have m2 := mulb (Nat.le_refl m) hm rb
      rw [if_pos (nI_lt (by omega) (by omega)), show (1 : Int32) = nI 1 from rfl, pk_sub (by omega), if_pos (by congr 1; omega)]
      simp (disch := omega) only [zb_an, cl_n, e3, e4, pk_mul, nI_eq]
      rw [Hw_one]
      by_cases q1 : m * a = w
      · by_cases q2 : m * b = g
        · rw [if_pos q1, if_pos q2, if_pos ⟨q1, q2⟩]
        · rw [if_pos q1, if_neg q2, if_neg (fun h => q2 h.2)]; rfl
      · rw [if_neg q1, if_neg (fun h => q1 h.1)]; rfl
    | [(a, b), (a2, b2)], hrf, hpr, hrg, hc3, hc4 =>
      simp only [List.length_cons, List.length_nil] at hpr
      obtain ⟨ra, rb⟩ := hrg (a, b) List.mem_cons_self
      obtain ⟨ra2, rb2⟩ := hrg (a2, b2) (List.mem_cons_of_mem _ (List.mem_singleton.mpr rfl))
      simp only at ra rb ra2 rb2
      rw [if_pos (nI_lt (by omega) (by omega)), show (1 : Int32) = nI 1 from rfl, pk_sub (by omega), if_neg (fun q => by rw [nI_eq (by omega) (by omega)] at q; omega), show (2 : Int32) = nI 2 from rfl, pk_sub (by omega), if_pos (by congr 1; omega), q_two (a := a) (b := b) (a2 := a2) (b2 := b2) (p := p) (by omega) (by omega) (by omega) (by omega) (by omega) hm hw hg hc3.1 hc3.2.1 hc4.1 hc4.2.1, zb_2]
    | (a, b) :: y :: z :: r, hrf, hpr, hrg, hc3, hc4 =>
      simp only [List.length_cons] at hpr hrf
      obtain ⟨ra, rb⟩ := hrg (a, b) List.mem_cons_self
      simp only at ra rb
      have e3 : S.1 23 p = nI a := hc3.1
      have e4 : S.1 24 p = nI b := hc4.1
      rw [if_pos (nI_lt (by omega) (by omega)), show (1 : Int32) = nI 1 from rfl, pk_sub (by omega), if_neg (fun q => by rw [nI_eq (by omega) (by omega)] at q; omega), show (2 : Int32) = nI 2 from rfl, pk_sub (by omega), if_neg (fun q => by rw [nI_eq (by omega) (by omega)] at q; omega)]
      show _ = some (nI (sumTo (fun c => if c * a ≤ w ∧ c * b ≤ g then Hw (y :: z :: r) (m - c) (w - c * a) (g - c * b) else 0) (m + 1)), S)
      generalize hF : (fun c => if c * a ≤ w ∧ c * b ≤ g then Hw (y :: z :: r) (m - c) (w - c * a) (g - c * b) else 0) = F
      obtain ⟨r', w1, w2⟩ := wl_one (g_X3_waysFrom_105 (f_X3_waysFrom f) (nI p) (nI m) (nI w) (nI g)) (fun z => ∃ c, c ≤ m + 1 ∧ z = (nI (sumTo F c), nI c, S)) (fun z => m + 1 - z.2.1.toNatClampNeg) (fun r => r = (nI (sumTo F (m + 1)), S))
        (fun z' hI => by
          obtain ⟨c, hc, rfl⟩ := hI
          unfold g_X3_waysFrom_105 b_X3_waysFrom_105
          by_cases hcm : c = m + 1
          · subst hcm
            rw [if_pos (nI_lt (by omega) (by omega))]
            exact Or.inr ⟨_, rfl, rfl⟩
          · have ca := mulb (show c ≤ m by omega) hm ra
            have cb := mulb (show c ≤ m by omega) hm rb
            rw [if_neg (nI_nlt (by omega) (by omega))]
            unfold f_X3_waysBehind
            rw [zb_an _ (by omega) (by omega), zb_an _ (by omega) (by omega), cl_n (by omega), e3, e4, pk_mul, pk_mul, nI_1, pk_sub (show c ≤ m by omega)]
            obtain ⟨f', rfl⟩ : ∃ f', f = f' + 1 := ⟨f - 1, by omega⟩
            have key : f_X3_waysFrom (f' + 1) (nI (p + 1)) (nI (m - c)) (nI w - nI (c * a)) (nI g - nI (c * b)) S = some (nI (F c), S) := by
              rw [← hF]
              show _ = some (nI (if c * a ≤ w ∧ c * b ≤ g then Hw (y :: z :: r) (m - c) (w - c * a) (g - c * b) else 0), S)
              by_cases q1 : c * a ≤ w
              · by_cases q2 : c * b ≤ g
                · rw [if_pos ⟨q1, q2⟩, pk_sub q1, pk_sub q2]
                  exact ih (y :: z :: r) (p + 1) (m - c) (w - c * a) (g - c * b) (by simp only [List.length_cons]; omega) (by simp only [List.length_cons]; omega) (fun x hx => hrg x (List.mem_cons_of_mem _ hx)) hc3.2 hc4.2 (by omega) (by omega) (by omega)
                · rw [if_neg (fun h => q2 h.2), pk_sub q1]
                  show fb_X3_waysFrom (f_X3_waysFrom f') _ _ _ _ S = _
                  unfold fb_X3_waysFrom
                  have ng := pk_sneg (a := g) (b := c * b) (by omega) (by omega)
                  rw [if_neg (nI_pos (by omega)), if_neg ((lt0 _).mp ng)]; rfl
              · rw [if_neg (fun h => q1 h.1)]
                show fb_X3_waysFrom (f_X3_waysFrom f') _ _ _ _ S = _
                unfold fb_X3_waysFrom
                rw [if_pos (pk_sneg (a := w) (b := c * a) (by omega) (by omega))]; rfl
            rw [key, zb_2, zb_2, zb_l, zb_l, nI_add, nI_1]
            refine Or.inl ⟨_, rfl, ⟨c + 1, by omega, rfl⟩, ?_⟩
            show m + 1 - (nI (c + 1)).toNatClampNeg < m + 1 - (nI c).toNatClampNeg
            rw [cl_n (by omega), cl_n (by omega)]; omega)
        FU (nI (sumTo F 0), nI 0, S) ⟨0, by omega, rfl⟩ (FU_lt (show m + 1 - _ < 100000 by omega) 0)
      rw [show ((0 : Int32), (0 : Int32), S) = (nI (sumTo F 0), nI 0, S) from rfl, w1, zb_s, w2]
      rfl
