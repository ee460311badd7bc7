/-! an amount changed: the rule of both, and the calls that rest on it -/
theorem zb_e {β : Type} {y : Int64} (k : Option β) (h : ¬ y = 0) : jx_e y k = k := if_neg h
theorem e1000 {β : Type} (k : Option β) : jx_e 1000 k = k := zb_e k (by decide)
theorem e100 {β : Type} (k : Option β) : jx_e 100 k = k := zb_e k (by decide)
def chN (x r sh fe : Nat) : Nat := x * r / 1000 - (x * r / 1000 * sh + 99) / 100 - fe
theorem chN_le {x r sh fe : Nat} (hr : r ≤ 9999) : chN x r sh fe ≤ 10 * x := by
  unfold chN
  have : x * r ≤ x * 9999 := Nat.mul_le_mul_left x hr
  omega
def rN (L : Lns) (a b d : Int32) : Nat := (rv L a b d).toNatClampNeg
theorem rN_le (L : Lns) (a b d : Int32) : rv L a b d = nI (rN L a b d) ∧ rN L a b d ≤ 9999 := by
  obtain ⟨h1, h2⟩ := rv_rg L a b d
  obtain ⟨j, hj, e⟩ := ix_of (x := rv L a b d) (n := 10000) ⟨by omega, by omega⟩ (by omega)
  unfold rN
  rw [e, cl_n (by omega)]
  exact ⟨rfl, by omega⟩
theorem lt64 (a b : Int64) : a < b ↔ a.toInt < b.toInt := Int64.lt_iff_toInt_lt
theorem le64 (a b : Int64) : a ≤ b ↔ a.toInt ≤ b.toInt := Int64.le_iff_toInt_le
theorem lN_sd {c f : Nat} (hc : c < 2 ^ 31) (hf : f < 2 ^ 31) : (lN c - lN f).toInt = (c : Int) - f := by
  rw [Int64.toInt_sub, lN_toInt hc, lN_toInt hf]
  exact Int.bmod_eq_of_le (by omega) (by omega)
theorem sh_le {A sh : Nat} (h : sh ≤ 99) : (A * sh + 99) / 100 ≤ A := by
  have : A * sh ≤ A * 99 := Nat.mul_le_mul_left A h
  omega
theorem sub2 {c f : Nat} (hc : c < 2 ^ 31) (hf : f < 2 ^ 31) : (if lN c - lN f < 0 then 0 else lN c - lN f) = lN (c - f) := by
  have h0 : (0 : Int64).toInt = 0 := rfl
  by_cases h : f ≤ c
  · rw [if_neg (by rw [lt64, lN_sd hc hf, h0]; omega), lN_sub h]
  · rw [if_pos (by rw [lt64, lN_sd hc hf, h0]; omega), show c - f = 0 by omega]; rfl
theorem q_changedS {L : Lns} {S T : St} {x sh fe : Nat} (h : TX 0 L S T) (hx : x < 2 ^ 27) (h1 : S.1 21 1 = nI sh) (h2 : S.1 21 2 = nI fe) (hs : sh ≤ 99) (hf : fe ≤ 99) (a b d : Int32) : ∃ S', f_X10_changed (nI x) a b d S = some (nI (chN x (rN L a b d) sh fe), S') ∧ KX S S' ∧ Sm [42, 43] S S' := by
  obtain ⟨S', e, k, ms⟩ := q_rateS h a b d
  obtain ⟨r1, r2⟩ := rN_le L a b d
  refine ⟨S', ?_, k, ms⟩
  unfold f_X10_changed
  rw [e, zb_2, e1000, zb_l, e100, zb_l, r1, k.2.2.1, k.2.2.2.1, h1, h2]
  generalize rN L a b d = r at r2 ⊢
  have hm : x * r ≤ x * 9999 := Nat.mul_le_mul_left x r2
  have hA : x * r / 1000 < 2 ^ 31 := by omega
  have hB := sh_le (A := x * r / 1000) hs
  have hC : x * r / 1000 * sh ≤ x * r / 1000 * 99 := Nat.mul_le_mul_left _ hs
  rw [nI_l (by omega), nI_l (by omega), nI_l (by omega), nI_l (by omega), lN_mul, show (1000 : Int64) = lN 1000 from rfl, pk_lDiv (by omega) (by omega) (by omega), lN_mul, show (99 : Int64) = lN 99 from rfl, lN_add, show (100 : Int64) = lN 100 from rfl, pk_lDiv (by omega) (by omega) (by omega), lN_sub hB, sub2 (by omega) (by omega), lN_i]
  rfl
theorem q_changed {L : Lns} {S T : St} {x sh fe : Nat} (h : TX 0 L S T) (hx : x < 2 ^ 27) (h1 : S.1 21 1 = nI sh) (h2 : S.1 21 2 = nI fe) (hs : sh ≤ 99) (hf : fe ≤ 99) (a b d : Int32) : ∃ S', f_X10_changed (nI x) a b d S = some (nI (chN x (rN L a b d) sh fe), S') ∧ KX S S' := by
  obtain ⟨S', e, k, -⟩ := q_changedS h hx h1 h2 hs hf a b d
  exact ⟨S', e, k⟩
theorem p_changedS {L : Lns} {S T : St} {x sh fe : Nat} (h : TX 0 L S T) (hx : x < 2 ^ 27) (h1 : T.1 0 12 = nI sh) (h2 : T.1 0 13 = nI fe) (hs : sh ≤ 99) (hf : fe ≤ 99) (a b d : Int32) : ∃ T', f_X12_changedTo (lN x) a b d T = some (lN (chN x (rN L a b d) sh fe), T') ∧ KM T T' ∧ Sm [20, 21] T T' := by
  obtain ⟨T', e, k, ms⟩ := p_rateS h a b d
  obtain ⟨r1, r2⟩ := rN_le L a b d
  refine ⟨T', ?_, k, ms⟩
  unfold f_X12_changedTo
  rw [e, zb_2, e1000, zb_l, e100, zb_l, r1, k.2.1 12 (by decide), k.2.1 13 (by decide), h1, h2]
  generalize rN L a b d = r at r2 ⊢
  have hm : x * r ≤ x * 9999 := Nat.mul_le_mul_left x r2
  have hA : x * r / 1000 < 2 ^ 31 := by omega
  have hB := sh_le (A := x * r / 1000) hs
  have hC : x * r / 1000 * sh ≤ x * r / 1000 * 99 := Nat.mul_le_mul_left _ hs
  rw [nI_l (by omega), nI_l (by omega), nI_l (by omega), lN_mul, show (1000 : Int64) = lN 1000 from rfl, pk_lDiv (by omega) (by omega) (by omega), lN_mul, show (99 : Int64) = lN 99 from rfl, lN_add, show (100 : Int64) = lN 100 from rfl, pk_lDiv (by omega) (by omega) (by omega), lN_sub hB]
  have e2 := sub2 (c := x * r / 1000 - (x * r / 1000 * sh + 99) / 100) (f := fe) (by omega) (by omega)
  simp only [lg_cmp_ge]
  show (if 0 ≤ _ then _ else _) = some (lN (x * r / 1000 - (x * r / 1000 * sh + 99) / 100 - fe), T')
  rw [← e2]
  generalize lN (x * r / 1000 - (x * r / 1000 * sh + 99) / 100) - lN fe = z
  have h0 : (0 : Int64).toInt = 0 := rfl
  by_cases q : z < 0
  · rw [if_pos q, if_neg (by rw [lt64, h0] at q; rw [le64, h0]; omega)]
  · rw [if_neg q, if_pos (by rw [lt64, h0] at q; rw [le64, h0]; omega)]
theorem p_changed {L : Lns} {S T : St} {x sh fe : Nat} (h : TX 0 L S T) (hx : x < 2 ^ 27) (h1 : T.1 0 12 = nI sh) (h2 : T.1 0 13 = nI fe) (hs : sh ≤ 99) (hf : fe ≤ 99) (a b d : Int32) : ∃ T', f_X12_changedTo (lN x) a b d T = some (lN (chN x (rN L a b d) sh fe), T') ∧ KM T T' := by
  obtain ⟨T', e, k, -⟩ := p_changedS h hx h1 h2 hs hf a b d
  exact ⟨T', e, k⟩
abbrev pairP (x : Int32) : Prop := 0 ≤ x ∧ (0 ≤ x / 10 ∧ x / 10 ≤ 3) ∧ (0 ≤ x - x / 10 * 10 ∧ x - x / 10 * 10 ≤ 3)
theorem lt0 (x : Int32) : x < 0 ↔ ¬ 0 ≤ x := by
  have h0 : (0 : Int32).toInt = 0 := rfl
  rw [i32_lt, i32_le, h0]; omega
theorem q_isPair (x : Int32) (S : St) : f_X11_isPair x S = some (if pairP x then 1 else 0, S) := by
  unfold f_X11_isPair
  simp only [q_isLand, zb_2, ite01, zd10, lt0]
  grind
theorem p_isPair (x : Int32) (S : St) : f_X12_isPair x S = some (if pairP x then 1 else 0, S) := by
  unfold f_X12_isPair
  simp only [p_isLand, zb_2, ite01, zd10, lt0]
  grind
theorem q_isChange (x : Int32) (S : St) : f_X11_isChange x S = some (if pairP x ∧ ¬ x / 10 = x - x / 10 * 10 then 1 else 0, S) := by
  unfold f_X11_isChange
  rw [q_isPair, zb_2, zd10, zd10]
  by_cases h1 : pairP x
  · by_cases h2 : x / 10 = x - x / 10 * 10
    · rw [if_pos h1, if_neg one_ne, if_pos h2, if_neg (fun q => q.2 h2)]
    · rw [if_pos h1, if_neg one_ne, if_neg h2, if_pos ⟨h1, h2⟩]
  · rw [if_neg h1, if_pos rfl, if_neg (fun q => h1 q.1)]
variable {S T : St}
theorem op_rate (a d : Int32) (h : RR RxC S T) : OK RxC (f_X11_rate a d S) (f_X12_rate a d T) := by
  obtain ⟨n, m, t, c, e, d', hs, ht, hm, hp, hch, hi, hd, hh, hx0, hx1⟩ := id h
  obtain ⟨L, hL⟩ := hx0 (by decide)
  unfold f_X11_rate f_X12_rate
  simp only [q_isPair, p_isPair, q_isDay, p_isDay, zb_2, ite01, zd10]
  refine ok_if Iff.rfl (fun _ => ok_r _ h) (fun h1 => ok_if Iff.rfl (fun _ => ok_r _ h) (fun h2 => ?_))
  obtain ⟨S', e1, k1⟩ := q_rate hL (a / 10) (a - a / 10 * 10) d
  obtain ⟨T', e2, k2⟩ := p_rate hL (a / 10) (a - a / 10 * 10) d
  rw [e1, e2, zb_2, zb_2]
  exact ok_mk rfl (RR_keep h k1 k2)
theorem x9999 {x : Int32} (h : 0 ≤ x ∧ x ≤ 9999) : ∃ j, j ≤ 9999 ∧ x = nI j := by
  obtain ⟨j, hj, -, e⟩ := ix_lit (k := 9999) (by omega) rfl h
  exact ⟨j, by omega, e⟩
theorem Rm_sh (hm : Rm S T) : ∃ sh fe, sh ≤ 99 ∧ fe ≤ 99 ∧ S.1 21 1 = nI sh ∧ S.1 21 2 = nI fe ∧ T.1 0 12 = nI sh ∧ T.1 0 13 = nI fe := by
  obtain ⟨-, ⟨a1, a2, a3⟩, ⟨b1, b2, b3⟩, -⟩ := hm
  obtain ⟨sh, s1, s2⟩ := ix_of (x := S.1 21 1) (n := 100) ⟨a2, by omega⟩ (by omega)
  obtain ⟨fe, f1, f2⟩ := ix_of (x := S.1 21 2) (n := 100) ⟨b2, by omega⟩ (by omega)
  exact ⟨sh, fe, by omega, by omega, s2, f2, a1.trans s2, b1.trans f2⟩
theorem op_change (x a d : Int32) (h : RR RxC S T) : OK RxC (f_X11_change x a d S) (f_X12_change x a d T) := by
  obtain ⟨n, m, t, c, e, d', hs, ht, hm, hp, hch, hi, hd, hh, hx0, hx1⟩ := id h
  obtain ⟨L, hL⟩ := hx0 (by decide)
  obtain ⟨sh, fe, hsh, hfe, s1, s2, t1, t2⟩ := Rm_sh hm
  unfold f_X11_change f_X12_change
  simp only [q_within, q_isChange, p_isSum, p_isPair, q_isDay, p_isDay, zb_2, ite01, zd10]
  refine ok_if Iff.rfl (fun _ => ok_r _ h) (fun h1 => ?_)
  obtain ⟨j, hj, rfl⟩ := x9999 (nn h1)
  by_cases hp : pairP a
  · rw [if_neg (show ¬ ¬ pairP a from fun q => q hp)]
    by_cases hq : a / 10 = a - a / 10 * 10
    · rw [if_pos (show ¬ (pairP a ∧ ¬ a / 10 = a - a / 10 * 10) from fun q => q.2 hq), if_pos hq]; exact ok_r _ h
    · rw [if_neg (show ¬ ¬ (pairP a ∧ ¬ a / 10 = a - a / 10 * 10) from fun q => q ⟨hp, hq⟩), if_neg hq]
      refine ok_if Iff.rfl (fun _ => ok_r _ h) (fun h2 => ?_)
      obtain ⟨S', e1, k1⟩ := q_changed (x := j) hL (by omega) s1 s2 hsh hfe (a / 10) (a - a / 10 * 10) d
      obtain ⟨T', e2, k2⟩ := p_changed (x := j) hL (by omega) t1 t2 hsh hfe (a / 10) (a - a / 10 * 10) d
      rw [nI_l (by omega), e1, e2, zb_2, zb_2, lN_i]
      exact ok_mk rfl (RR_keep h k1 k2)
  · rw [if_pos hp, if_pos (fun q : pairP a ∧ _ => hp q.1)]; exact ok_r _ h
/-! the best day -/
theorem nle_m1 {v : Nat} (h : v < 2 ^ 31) : ¬ nI v ≤ (-1 : Int32) := by
  rw [i32_le, nI_toInt h, show (-1 : Int32).toInt = -1 from rfl]; omega
theorem lle_m1 {v : Nat} (h : v < 2 ^ 31) : ¬ lN v ≤ (-1 : Int64) := by
  rw [le64, lN_toInt h, show (-1 : Int64).toInt = -1 from rfl]; omega
def Wb (x : Int32) (y : Int64) : Prop := (x = -1 ∧ y = -1) ∨ ∃ v, v < 2 ^ 31 ∧ x = nI v ∧ y = lN v
theorem Wb_le {x : Int32} {y : Int64} (h : Wb x y) {v : Nat} (hv : v < 2 ^ 31) : (nI v ≤ x) ↔ (lN v ≤ y) := by
  rcases h with ⟨rfl, rfl⟩ | ⟨w, hw, rfl, rfl⟩
  · exact ⟨fun q => absurd q (nle_m1 hv), fun q => absurd q (lle_m1 hv)⟩
  · rw [nI_leI hv hw, lN_le hv hw]
theorem Wb_out {x : Int32} {y : Int64} (h : Wb x y) : y.toInt32 = x := by
  rcases h with ⟨rfl, rfl⟩ | ⟨w, hw, rfl, rfl⟩
  · rfl
  · exact lN_i w
theorem qp_waits {L : Lns} {S0 T0 : St} {x sh fe q k : Nat} {a d what : Int32} (hL : TX 0 L S0 T0) (hx : x ≤ 9999) (hsh : sh ≤ 99) (hfe : fe ≤ 99) (s1 : S0.1 21 1 = nI sh) (s2 : S0.1 21 2 = nI fe) (t1 : T0.1 0 12 = nI sh) (t2 : T0.1 0 13 = nI fe) (hq : q ≤ 9999) (hk : k ≤ 60) (hd1 : d / 100 = nI q) (hd2 : d - d / 100 * 100 = nI k) : ∃ b r y S' T', jx_w (g_X11_waits_67 (nI x) a d what) FU (nI q, -1, nI 0, S0) = some (b, r, S') ∧ jx_w (g_X12_waits_89 (nI x) a d what) FU (nI q, -1, nI (q + 0), T0) = some (b, y, T') ∧ Wb r y ∧ KX S0 S' ∧ KM T0 T' := by
  obtain ⟨⟨b, r, S'⟩, ⟨b', y, T'⟩, w1, w2, w3, w4, w5, w6⟩ := wl_two (g_X11_waits_67 (nI x) a d what) (g_X12_waits_89 (nI x) a d what) (fun s t => ∃ b r y i S T, s = (b, r, nI i, S) ∧ t = (b, y, nI (q + i), T) ∧ i ≤ k + 1 ∧ Wb r y ∧ KX S0 S ∧ KM T0 T) (fun s => k + 1 - s.2.2.1.toNatClampNeg) (fun r r' => r.1 = r'.1 ∧ Wb r.2.1 r'.2.1 ∧ KX S0 r.2.2 ∧ KM T0 r'.2.2)
    (fun s t hI => by
      obtain ⟨b, r, y, i, S, T, rfl, rfl, hi, hW, kS, kT⟩ := hI
      have hL' := TX_keep (by decide) hL kS kT
      unfold g_X11_waits_67 b_X11_waits_67 g_X12_waits_89 b_X12_waits_89
      have hd2' : d - nI q * 100 = nI k := by rw [← hd1]; exact hd2
      simp only [zd10, zb_d100, hd1, hd2', nI_add]
      by_cases hik : i = k + 1
      · subst hik
        rw [if_pos (nI_lt (by omega) (by omega)), if_pos (nI_lt (by omega) (by omega))]
        exact Or.inr ⟨_, _, rfl, rfl, rfl, hW, kS, kT⟩
      · rw [if_neg (nI_nlt (by omega) (by omega)), if_neg (nI_nlt (by omega) (by omega))]
        obtain ⟨S', e1, k1⟩ := q_changed (x := x) hL' (by omega) (by rw [kS.2.2.1]; exact s1) (by rw [kS.2.2.2.1]; exact s2) hsh hfe (a / 10) (a - a / 10 * 10) (nI (q + i))
        obtain ⟨T', e2, k2⟩ := p_changed (x := x) hL' (by omega) (by rw [kT.2.1 12 (by decide)]; exact t1) (by rw [kT.2.1 13 (by decide)]; exact t2) hsh hfe (a / 10) (a - a / 10 * 10) (nI (q + i))
        have hb := chN_le (x := x) (sh := sh) (fe := fe) (rN_le L (a / 10) (a - a / 10 * 10) (nI (q + i))).2
        generalize chN x (rN L (a / 10) (a - a / 10 * 10) (nI (q + i))) sh fe = v at e1 e2 hb
        rw [nI_l (by omega), e1, e2, zb_2, zb_2]
        unfold f_X11_waits_121i67 f_X12_waits_136i89 f_X12_waits_153i89
        simp only [lg_cmp_le, zb_l, nI_1]
        have hmu : ∀ z : Nat, k + 1 - (nI (i + 1)).toNatClampNeg < k + 1 - (nI i).toNatClampNeg := fun _ => by rw [cl_n (by omega), cl_n (by omega)]; omega
        refine Or.inl ?_
        by_cases z : nI v ≤ r
        · rw [if_pos z, if_pos ((Wb_le hW (by omega)).mp z), if_pos ((Wb_le hW (by omega)).mp z)]
          exact ⟨_, _, rfl, rfl, ⟨b, r, y, i + 1, S', T', rfl, rfl, by omega, hW, KX_tr kS k1, KM_tr kT k2⟩, hmu 0⟩
        · have z2 : ¬ lN v ≤ y := fun q => z ((Wb_le hW (by omega)).mpr q)
          rw [if_neg z, if_neg z2, if_neg z2]
          exact ⟨_, _, rfl, rfl, ⟨_, _, _, i + 1, S', T', rfl, rfl, by omega, Or.inr ⟨v, by omega, rfl, rfl⟩, KX_tr kS k1, KM_tr kT k2⟩, hmu 0⟩)
    FU (nI q, -1, nI 0, S0) (nI q, -1, nI (q + 0), T0) ⟨nI q, -1, -1, 0, S0, T0, rfl, rfl, by omega, Or.inl ⟨rfl, rfl⟩, KX_rf, KM_rf⟩ (FU_lt (show k + 1 - _ < 100000 by omega) 0)
  simp only at w3
  subst w3
  exact ⟨b, r, y, S', T', w1, w2, w4, w5, w6⟩
