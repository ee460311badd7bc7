variable {S T : St}
/-! spend: things by sums of prices -/
def tl (c p : Nat → Nat) (v : Nat → Int) : Nat → List (Nat × Int)
  | 0 => []
  | t + 1 => List.replicate (c t) (p t, v t) ++ tl c p v t
def ctS (S : St) (land : Int32) (t : Nat) : Nat := if S.1 8 t = land then (S.1 11 t).toNatClampNeg else 0
def ptS (S : St) (t : Nat) : Nat := (S.1 9 t).toNatClampNeg
def vtS (S : St) (t : Nat) : Int := (S.1 10 t).toInt
theorem t_rg {m t : Nat} (ht : Rt m S T) (h : t < m) : (∃ p, 1 ≤ p ∧ p ≤ 200 ∧ S.1 9 t = nI p ∧ (S.1 9 t).toNatClampNeg = p) ∧ (∃ c, c ≤ 9 ∧ S.1 11 t = nI c ∧ (S.1 11 t).toNatClampNeg = c) := by
  obtain ⟨hn, hS, hT, hv⟩ := ht
  have q := (hv t h).2
  obtain ⟨p, p1, p2⟩ := ix_of (x := S.1 9 t) (n := 201) ⟨by have := q.2.1.1; omega, by have := q.2.1.2; omega⟩ (by omega)
  obtain ⟨c, c1, c2⟩ := ix_of (x := S.1 11 t) (n := 10) ⟨q.2.2.2.1, by have := q.2.2.2.2; omega⟩ (by omega)
  have hp := q.2.1.1
  rw [p2, nI_toInt (by omega)] at hp
  exact ⟨⟨p, by omega, by omega, p2, by rw [p2, cl_n (by omega)]⟩, ⟨c, by omega, c2, by rw [c2, cl_n (by omega)]⟩⟩
theorem tl_all {c p : Nat → Nat} {v : Nat → Int} {m : Nat} (h : ∀ t, t < m → c t ≤ 9 ∧ 0 ≤ v t ∧ v t ≤ 99) : ∀ k, k ≤ m → (∀ x, x ∈ tl c p v k → 0 ≤ x.2 ∧ x.2 ≤ 99) ∧ (tl c p v k).length ≤ 9 * k
  | 0, _ => ⟨fun x hx => absurd hx List.not_mem_nil, Nat.le_refl _⟩
  | k + 1, hk => by
    obtain ⟨i1, i2⟩ := tl_all h k (by omega)
    have q := h k (by omega)
    refine ⟨fun x hx => ?_, ?_⟩
    · rcases List.mem_append.mp hx with e | e
      · have := List.eq_of_mem_replicate e
        subst this
        exact q.2
      · exact i1 x e
    · show (List.replicate (c k) (p k, v k) ++ tl c p v k).length ≤ 9 * (k + 1)
      rw [List.length_append, List.length_replicate]; omega
/-- lists of at most 90 small values: no sum is out of range -/
def Sml (l : List (Nat × Int)) : Prop := (∀ x, x ∈ l → 0 ≤ x.2 ∧ x.2 ≤ 99) ∧ l.length ≤ 100
theorem Sml_V {l : List (Nat × Int)} (h : Sml l) {m : Nat} {u : Int} (hu : V l m = some u) : 0 ≤ u ∧ u ≤ 9900 := by
  have h1 := V_nn l (fun x hx => (h.1 x hx).1) m u hu
  have h2 := (V_bd (R := 99) (by omega) l (fun x hx => ⟨by have := (h.1 x hx).1; omega, (h.1 x hx).2⟩) m u hu).2
  have h3 := h.2
  exact ⟨h1, by omega⟩
theorem q_addThing {p top : Nat} {v : Int32} {l : List (Nat × Int)} (hp : 1 ≤ p) (hp2 : p ≤ 200) (htop : top ≤ 1920) (hv : rg v 0 99) (hl : Sml l) (h : ∀ i, i ≤ top → Ex (-2147483648) (V l i) (S.1 15 i)) : ∃ S', f_X5_addThing (nI p) v (nI top) S = some S' ∧ Sm [15] S S' ∧ ∀ i, i ≤ top → Ex (-2147483648) (V ((p, v.toInt) :: l) i) (S'.1 15 i) := by
  unfold f_X5_addThing f_X5_addThing_60
  rw [if_neg (by exact nI_nlt (a := 1920) htop (by omega)), zb_l]
  obtain ⟨S', w1, w2, w3⟩ := lp_knap (g := g_X5_addThing_9 (nI p) v) (k := 15) (w := p) (top := top) (z := -2147483648) (r := v) hp (by omega) S
    (fun a S1 hwa hat hm => by
      unfold g_X5_addThing_9 b_X5_addThing_9 f_X5_addThing_54i9
      rw [if_neg (nI_nlt hwa (by omega)), pk_sub hwa]
      simp (disch := omega) only [zb_an, cl_n, zb_l]
      by_cases q : S1.1 15 (a - p) = -2147483648
      · rw [if_pos q]
        refine ⟨_, rfl, Sm_rf, fun i => ?_⟩
        by_cases e : i = a
        · rw [if_pos e, e]; unfold kn; rw [if_pos q]
        · rw [if_neg e]
      · rw [if_neg q]
        refine ⟨_, rfl, Sm_one (by decide), fun i => ?_⟩
        rw [rd_1, if_pos rfl]
        by_cases e : i = a
        · rw [if_pos e, if_pos e]; unfold kn; rw [if_neg q]
        · rw [if_neg e, if_neg e])
    (fun a S1 hwa hat hm => by
      unfold g_X5_addThing_9 b_X5_addThing_9
      rw [if_pos (nI_lt hwa (by omega))])
  rw [w1, zb_s]
  exact ⟨S', rfl, w2, knap_row w3 h (fun k u hu => by
    have := Sml_V hl hu
    have v1 := hv.1
    have v2 := hv.2
    have z0 : (-2147483648 : Int32).toInt = -2147483648 := rfl
    omega)⟩
theorem p_addThing {t p : Nat} {a' x3 v : Int32} {l : List (Nat × Int)} (ht : t < 10) (hp : 1 ≤ p) (hp2 : p ≤ 200) (hv : rg v 0 99) (hl : Sml l) (h7 : T.1 7 t = nI p) (h8 : T.1 8 t = v) (h : ∀ i, i ≤ 1920 → Ex (-1) (V l i) (T.1 25 i)) : ∃ T', jx_w (g_X12_values_67 a' (nI t) x3) FU (nI 1920, T) = some T' ∧ Sm [25] T T' ∧ ∀ i, i ≤ 1920 → Ex (-1) (V ((p, v.toInt) :: l) i) (T'.1 25 i) := by
  obtain ⟨T', w1, w2, w3⟩ := lp_knap (g := g_X12_values_67 a' (nI t) x3) (k := 25) (w := p) (top := 1920) (z := -1) (r := v) hp (by omega) T
    (fun a T1 hwa hat hm => by
      unfold g_X12_values_67 b_X12_values_67 f_X12_values_137i67 f_X12_values_144i67
      rw [zb_an _ ht (by omega), cl_n (by omega), hm.1 7 (by decide), hm.1 8 (by decide), h7, h8, if_neg (nI_nlt hwa (by omega)), pk_sub hwa]
      simp (disch := omega) only [zb_an, cl_n, zb_l]
      by_cases q : T1.1 25 (a - p) = -1
      · rw [if_pos q]
        refine ⟨_, rfl, Sm_one (by decide), fun i => ?_⟩
        rw [rd_1, if_pos rfl]
        by_cases e : i = a
        · rw [if_pos e, if_pos e]; unfold kn; rw [if_pos q]
        · rw [if_neg e, if_neg e]
      · rw [if_neg q]
        by_cases c : T1.1 25 (a - p) + v ≤ T1.1 25 a
        · rw [if_pos c]
          refine ⟨_, rfl, Sm_one (by decide), fun i => ?_⟩
          rw [rd_1, if_pos rfl]
          by_cases e : i = a
          · rw [if_pos e, if_pos e]; unfold kn; rw [if_neg q, if_neg (by rw [i32_lt]; rw [i32_le] at c; omega)]
          · rw [if_neg e, if_neg e]
        · rw [if_neg c]
          refine ⟨_, rfl, Sm_one (by decide), fun i => ?_⟩
          rw [rd_1, if_pos rfl]
          by_cases e : i = a
          · rw [if_pos e, if_pos e]; unfold kn; rw [if_neg q, if_pos (by rw [i32_lt]; rw [i32_le] at c; omega)]
          · rw [if_neg e, if_neg e])
    (fun a T1 hwa hat hm => by
      unfold g_X12_values_67 b_X12_values_67
      rw [zb_an _ ht (by omega), cl_n (by omega), hm.1 7 (by decide), h7, if_pos (nI_lt hwa (by omega))])
  exact ⟨T', w1, w2, knap_row w3 h (fun k u hu => by
    have := Sml_V hl hu
    have v1 := hv.1
    have v2 := hv.2
    have z0 : (-1 : Int32).toInt = -1 := rfl
    omega)⟩
theorem Sml_rep {c p : Nat → Nat} {v : Nat → Int} {m k j : Nat} (h : ∀ t, t < m → c t ≤ 9 ∧ 0 ≤ v t ∧ v t ≤ 99) (hm : m ≤ 10) (hk : k < m) (hj : j ≤ c k) : Sml (List.replicate j (p k, v k) ++ tl c p v k) := by
  obtain ⟨i1, i2⟩ := tl_all (p := p) h k (by omega)
  have q := h k hk
  refine ⟨fun x hx => ?_, ?_⟩
  · rcases List.mem_append.mp hx with e | e
    · have := List.eq_of_mem_replicate e
      subst this
      exact q.2
    · exact i1 x e
  · rw [List.length_append, List.length_replicate]; omega
theorem rt_h {m : Nat} (ht : Rt m S T) (land : Int32) : ∀ t, t < m → ctS S land t ≤ 9 ∧ 0 ≤ vtS S t ∧ vtS S t ≤ 99 := fun t h => by
  obtain ⟨-, ⟨c, c1, c2, c3⟩⟩ := t_rg ht h
  have q := (ht.2.2.2 t h).2.2.2.1
  refine ⟨?_, q.1, q.2⟩
  unfold ctS
  split <;> omega
theorem q_choices {m top : Nat} (ht : Rt m S T) (land : Int32) (htop : top ≤ 1920) : ∃ S', f_X5_valueChoices land (nI top) S = some S' ∧ Sm [15] S S' ∧ ∀ i, i ≤ top → Ex (-2147483648) (V (tl (ctS S land) (ptS S) (vtS S) m) i) (S'.1 15 i) := by
  obtain ⟨hm, hS, hT, hv⟩ := id ht
  unfold f_X5_valueChoices f_J7_fill_53178 f_J7_fill_53178_20
  have fill : ∃ S0, jx_w (g_J7_fill_53178_5 (-2147483648) 1921) FU (nI 0, S) = some S0 ∧ Sm [15] S S0 ∧ ∀ i, i < 1921 → S0.1 15 i = -2147483648 := by
    obtain ⟨S0, a1, a2, a3⟩ := wl_for (g_J7_fill_53178_5 (-2147483648) 1921) (fun i S => (nI i, S)) (fun i S' => Sm [15] S S' ∧ ∀ k, k < i → S'.1 15 k = -2147483648) 1921 (fun S' => Sm [15] S S' ∧ ∀ k, k < 1921 → S'.1 15 k = -2147483648)
      (fun i S' hi hI => by
        unfold g_J7_fill_53178_5 b_J7_fill_53178_5
        rw [if_neg (by exact nI_ge (b := 1921) hi (by omega)), zb_an _ hi (by omega), zb_l, zb_l, cl_n (by omega), nI_1]
        refine ⟨_, rfl, Sm_u1 hI.1 (by decide), fun k hk => ?_⟩
        rw [rd_1, if_pos rfl]
        by_cases e : k = i
        · rw [if_pos e]
        · rw [if_neg e]; exact hI.2 k (by omega))
      (fun S' hI => ⟨S', by unfold g_J7_fill_53178_5 b_J7_fill_53178_5; rw [if_pos (by show (1921 : Int32) ≤ nI 1921; decide)], hI⟩) FU 0 S (by omega) ⟨Sm_rf, fun k hk => absurd hk (by omega)⟩ (FU_lt (by omega) 0)
    exact ⟨S0, a1, a2, a3⟩
  obtain ⟨S0, a1, a2, a3⟩ := fill
  have c0 : Int32.toNatClampNeg (0 : Int32) = 0 := rfl
  rw [show ((0 : Int32), S) = (nI 0, S) from rfl, a1, zb_s, zb_s, zb_a _ (by decide), zb_l, c0]
  generalize hS1 : u1 S0 15 0 0 = S1
  have m1 : Sm [15] S S1 := by rw [← hS1]; exact Sm_u1 a2 (by decide)
  have d1 : ∀ i, i ≤ top → Ex (-2147483648) (V (tl (ctS S land) (ptS S) (vtS S) 0) i) (S1.1 15 i) := fun i hi => by
    rw [← hS1, rd_1, if_pos rfl]
    show Ex _ (if i = 0 then some 0 else none) _
    by_cases e : i = 0
    · rw [if_pos e, if_pos e]; exact ⟨rfl, by decide⟩
    · rw [if_neg e, if_neg e]; exact a3 i (by omega)
  obtain ⟨S', w1, w2, w3⟩ := wl_for (g_X5_valueChoices_19 land (nI top)) (fun t S => (nI t, S)) (fun t S1 => Sm [15] S S1 ∧ ∀ i, i ≤ top → Ex (-2147483648) (V (tl (ctS S land) (ptS S) (vtS S) t) i) (S1.1 15 i)) m (fun S1 => Sm [15] S S1 ∧ ∀ i, i ≤ top → Ex (-2147483648) (V (tl (ctS S land) (ptS S) (vtS S) m) i) (S1.1 15 i))
    (fun t S1 hk hI => by
      obtain ⟨mS, hW⟩ := hI
      obtain ⟨⟨p, p1, p2, p3, p4⟩, ⟨c, c1, c2, c3⟩⟩ := t_rg ht hk
      have hpt : ptS S t = p := p4
      have run : ∃ S2, f_X5_valueChoices_50i19 land (nI top) (nI t) (nI (ctS S land t)) S1 = some (.inl (nI (t + 1), S2)) ∧ Sm [15] S S2 ∧ ∀ i, i ≤ top → Ex (-2147483648) (V (tl (ctS S land) (ptS S) (vtS S) (t + 1)) i) (S2.1 15 i) := by
        unfold f_X5_valueChoices_50i19 f_X5_valueChoices_87i19
        have c9 := (rt_h ht land t hk).1
        obtain ⟨S2, v1, v2, v3⟩ := wl_for (g_X5_valueChoices_55 land (nI top) (nI t) (nI (ctS S land t))) (fun j S => (nI j, S)) (fun j S2 => Sm [15] S S2 ∧ ∀ i, i ≤ top → Ex (-2147483648) (V (List.replicate j (ptS S t, vtS S t) ++ tl (ctS S land) (ptS S) (vtS S) t) i) (S2.1 15 i)) (ctS S land t) (fun S2 => Sm [15] S S2 ∧ ∀ i, i ≤ top → Ex (-2147483648) (V (List.replicate (ctS S land t) (ptS S t, vtS S t) ++ tl (ctS S land) (ptS S) (vtS S) t) i) (S2.1 15 i))
          (fun j S2 hj hI => by
            obtain ⟨m2, hW2⟩ := hI
            unfold g_X5_valueChoices_55 b_X5_valueChoices_55
            obtain ⟨S3, e1, e2, e3⟩ := q_addThing (p := p) (top := top) (v := S.1 10 t) p1 p2 htop (hv t hk).2.2.2.1 (Sml_rep (rt_h ht land) hm hk (by omega)) hW2
            rw [if_neg (nI_ge hj (by omega)), zb_an _ (by omega) (by omega), zb_an _ (by omega) (by omega), cl_n (by omega), m2.1 9 (by decide), m2.1 10 (by decide), p3, e1, zb_s, zb_l, nI_1]
            refine ⟨S3, rfl, Sm_tr m2 e2, ?_⟩
            rw [← hpt] at e3
            exact e3)
          (fun S2 hI => ⟨S2, by unfold g_X5_valueChoices_55 b_X5_valueChoices_55; rw [if_pos (nI_le (Nat.le_refl _) (by omega))], hI⟩) FU 0 S1 (by omega) ⟨mS, hW⟩ (FU_lt (by omega) 0)
        rw [show ((0 : Int32), S1) = (nI 0, S1) from rfl, v1, zb_s, zb_l, nI_1]
        exact ⟨S2, rfl, v2, v3⟩
      obtain ⟨S2, r1, r2, r3⟩ := run
      refine ⟨S2, ?_, r2, r3⟩
      unfold g_X5_valueChoices_19 b_X5_valueChoices_19
      rw [mS.1 7 (by decide), hS, if_neg (nI_ge hk (by omega)), zb_an _ (by omega) (by omega), cl_n (by omega), mS.1 8 (by decide), mS.1 11 (by decide)]
      unfold ctS at r1
      by_cases q : S.1 8 t = land
      · rw [if_pos q, c3] at r1
        rw [if_pos q, zb_an _ (by omega) (by omega), c2]; exact r1
      · rw [if_neg q] at r1
        rw [if_neg q]; exact r1)
    (fun S1 hI => ⟨S1, by
      unfold g_X5_valueChoices_19 b_X5_valueChoices_19
      rw [hI.1.1 7 (by decide), hS, if_pos (nI_le (Nat.le_refl m) (by omega))], hI⟩) FU 0 S1 (by omega) ⟨m1, d1⟩ (FU_lt (by omega) 0)
  rw [show ((0 : Int32), S1) = (nI 0, S1) from rfl, w1, zb_s]
  exact ⟨S', rfl, w2, w3⟩
theorem p_values {m : Nat} (ht : Rt m S T) (land : Int32) {T0 : St} (h0 : ∀ a, a ≠ 0 → T0.1 a = T.1 a) (h06 : T0.1 0 6 = T.1 0 6) : ∃ T', f_X12_values land T0 = some T' ∧ Sm [25] T0 T' ∧ ∀ i, i ≤ 1920 → Ex (-1) (V (tl (ctS S land) (ptS S) (vtS S) m) i) (T'.1 25 i) := by
  obtain ⟨hm, hS, hT, hv⟩ := id ht
  unfold f_X12_values
  have fill : ∃ T1, jx_w (g_X12_values_2 land) FU (nI 0, T0) = some T1 ∧ Sm [25] T0 T1 ∧ ∀ i, i ≤ 1920 → T1.1 25 i = if i = 0 then 0 else -1 := by
    obtain ⟨T1, a1, a2, a3⟩ := wl_for (g_X12_values_2 land) (fun i S => (nI i, S)) (fun i T' => Sm [25] T0 T' ∧ ∀ k, k < i → T'.1 25 k = if k = 0 then 0 else -1) 1921 (fun T' => Sm [25] T0 T' ∧ ∀ k, k < 1921 → T'.1 25 k = if k = 0 then 0 else -1)
      (fun i T' hi hI => by
        unfold g_X12_values_2 b_X12_values_2 f_X12_values_23i2
        rw [if_neg (by exact nI_nlt (a := 1920) (by omega) (by omega))]
        simp (disch := omega) only [zb_an, cl_n, zb_l, nI_1]
        by_cases z : i = 0
        · subst z
          rw [if_pos (show nI 0 = 0 from rfl)]
          refine ⟨_, rfl, Sm_u1 hI.1 (by decide), fun k hk => ?_⟩
          rw [rd_1, if_pos rfl, if_pos (by omega), if_pos (by omega)]
        · rw [if_neg (nI_ne0 (by omega) (by omega))]
          refine ⟨_, rfl, Sm_u1 hI.1 (by decide), fun k hk => ?_⟩
          rw [rd_1, if_pos rfl]
          by_cases e : k = i
          · rw [if_pos e, if_neg (by omega)]
          · rw [if_neg e]; exact hI.2 k (by omega))
      (fun T' hI => ⟨T', by unfold g_X12_values_2 b_X12_values_2; rw [if_pos (by show (1920 : Int32) < nI 1921; decide)], hI⟩) FU 0 T0 (by omega) ⟨Sm_rf, fun k hk => absurd hk (by omega)⟩ (FU_lt (by omega) 0)
    exact ⟨T1, a1, a2, fun i hi => a3 i (by omega)⟩
  obtain ⟨T1, a1, a2, a3⟩ := fill
  rw [show ((0 : Int32), T0) = (nI 0, T0) from rfl, a1, zb_s]
  unfold f_X12_values_30 f_X12_values_163
  have d1 : ∀ i, i ≤ 1920 → Ex (-1) (V (tl (ctS S land) (ptS S) (vtS S) 0) i) (T1.1 25 i) := fun i hi => by
    rw [a3 i hi]
    show Ex _ (if i = 0 then some 0 else none) _
    by_cases e : i = 0
    · rw [if_pos e, if_pos e]; exact ⟨rfl, by decide⟩
    · rw [if_neg e, if_neg e]; rfl
  obtain ⟨T', w1, w2, w3⟩ := wl_for (g_X12_values_32 land) (fun t S => (nI t, S)) (fun t T1 => Sm [25] T0 T1 ∧ ∀ i, i ≤ 1920 → Ex (-1) (V (tl (ctS S land) (ptS S) (vtS S) t) i) (T1.1 25 i)) m (fun T1 => Sm [25] T0 T1 ∧ ∀ i, i ≤ 1920 → Ex (-1) (V (tl (ctS S land) (ptS S) (vtS S) m) i) (T1.1 25 i))
    (fun t T1 hk hI => by
      obtain ⟨mT, hW⟩ := hI
      obtain ⟨⟨p, p1, p2, p3, p4⟩, ⟨c, c1, c2, c3⟩⟩ := t_rg ht hk
      have hpt : ptS S t = p := p4
      have hvt := hv t hk
      unfold g_X12_values_32 b_X12_values_32
      rw [mT.1 0 (by decide), h06, hT, if_neg (nI_ge hk (by omega))]
      have c9 := (rt_h ht land t hk).1
      obtain ⟨T2, v1, v2, v3⟩ := wl_for (g_X12_values_42 land (nI t)) (fun j S => (nI j, S)) (fun j T2 => Sm [25] T0 T2 ∧ ∀ i, i ≤ 1920 → Ex (-1) (V (List.replicate j (ptS S t, vtS S t) ++ tl (ctS S land) (ptS S) (vtS S) t) i) (T2.1 25 i)) (ctS S land t) (fun T2 => Sm [25] T0 T2 ∧ ∀ i, i ≤ 1920 → Ex (-1) (V (List.replicate (ctS S land t) (ptS S t, vtS S t) ++ tl (ctS S land) (ptS S) (vtS S) t) i) (T2.1 25 i))
        (fun j T2 hj hI => by
          obtain ⟨m2, hW2⟩ := hI
          have ml : Sml (List.replicate j (ptS S t, vtS S t) ++ tl (ctS S land) (ptS S) (vtS S) t) := Sml_rep (rt_h ht land) hm hk (by omega)
          unfold g_X12_values_42 b_X12_values_42
          obtain ⟨T3, e1, e2, e3⟩ := p_addThing (t := t) (p := p) (a' := land) (x3 := nI j) (v := S.1 10 t) (by omega) p1 p2 hvt.2.2.2.1 ml (by rw [m2.1 7 (by decide), h0 7 (by decide), hvt.1.2.1]; exact p3) (by rw [m2.1 8 (by decide), h0 8 (by decide)]; exact hvt.1.2.2.1) hW2
          have hland : S.1 8 t = land := by
            unfold ctS at hj
            by_cases q : S.1 8 t = land
            · exact q
            · rw [if_neg q] at hj; omega
          have hcc : ctS S land t = c := by unfold ctS; rw [if_pos hland]; exact c3
          rw [zb_an _ (by omega) (by omega), cl_n (by omega), m2.1 9 (by decide), h0 9 (by decide), hvt.1.2.2.2, c2, if_neg (nI_ge (by omega) (by omega)), zb_an _ (by omega) (by omega), m2.1 6 (by decide), h0 6 (by decide), hvt.1.1, if_pos hland, show ((1920 : Int32), T2) = (nI 1920, T2) from rfl, e1, zb_s]
          unfold f_X12_values_151i42
          rw [zb_l, nI_1]
          refine ⟨T3, rfl, Sm_tr m2 e2, ?_⟩
          rw [← hpt] at e3
          exact e3)
        (fun T2 hI => ⟨T2, by
          unfold g_X12_values_42 b_X12_values_42
          rw [zb_an _ (by omega) (by omega), cl_n (by omega), hI.1.1 9 (by decide), h0 9 (by decide), hvt.1.2.2.2, zb_an _ (by omega) (by omega), hI.1.1 6 (by decide), h0 6 (by decide), hvt.1.1]
          by_cases q : S.1 8 t = land
          · have hcc : ctS S land t = c := by unfold ctS; rw [if_pos q]; exact c3
            rw [c2, hcc, if_pos (nI_le (Nat.le_refl c) (by omega))]
          · rw [if_neg q, ite_self], hI⟩) FU 0 T1 (by omega) ⟨mT, hW⟩ (FU_lt (by omega) 0)
      rw [show ((0 : Int32), T1) = (nI 0, T1) from rfl, v1, zb_s]
      unfold f_X12_values_157i32
      rw [zb_l, nI_1]
      exact ⟨T2, rfl, v2, v3⟩)
    (fun T1 hI => ⟨T1, by
      unfold g_X12_values_32 b_X12_values_32
      rw [hI.1.1 0 (by decide), h06, hT, if_pos (nI_le (Nat.le_refl m) (by omega))], hI⟩) FU 0 T1 (by omega) ⟨a2, d1⟩ (FU_lt (by omega) 0)
  rw [show ((0 : Int32), T1) = (nI 0, T1) from rfl, w1, zb_s]
  exact ⟨T', rfl, w2, w3⟩
