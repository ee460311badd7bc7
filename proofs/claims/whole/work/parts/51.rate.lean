/-! what is told of a text in class and reference; the rate -/
def TX (t : Nat) (L : Lns) (S T : St) : Prop := S.1 (40 + 4 * t) 4 = (if L = [] then 0 else 1) ∧ S.1 (40 + 4 * t) 3 = nI (flat L).length ∧ (flat L).length ≤ 128 ∧ L.length ≤ 64 ∧ cdA (S.1 (40 + 4 * t + 1)) 0 (flat L) ∧ T.1 13 t = nI L.length ∧ LM T t 0 0 L ∧ WFl L ∧ ∀ i, i < 7 → (if t = 0 then 3 ≤ i else i < 3) → S.1 (40 + 4 * t + 3) i = 0
def RxC (t : Nat) (S T : St) : Prop := t < 2 → ∃ L, TX t L S T
theorem FxC : Fx RxC := by
  intro t S T S' T' h1 h2 h ht
  obtain ⟨L, a1, a2, a3, a4, a5, a6, a7, a8, a9⟩ := h ht
  have hs : ∀ k, k < 4 → k ≠ 2 → S'.1 (40 + 4 * t + k) = S.1 (40 + 4 * t + k) := fun k hk h2 => h1 _ (by omega) (by omega) (by omega)
  refine ⟨L, by rw [show S'.1 (40 + 4 * t) = S.1 (40 + 4 * t) from hs 0 (by omega) (by omega)]; exact a1, by rw [show S'.1 (40 + 4 * t) = S.1 (40 + 4 * t) from hs 0 (by omega) (by omega)]; exact a2, a3, a4, by rw [hs 1 (by omega) (by omega)]; exact a5, by rw [h2 13 (by omega) (by omega)]; exact a6, LM_congr (fun a x y => h2 a (by omega) y) a7, a8, by rw [hs 3 (by omega) (by omega)]; exact a9⟩
/-- what may change between two calls' ends without being seen, in the class -/
def KX (S S' : St) : Prop := (∀ a, a ∉ [12, 13, 14, 15, 16, 17, 18, 20, 21, 22, 23, 24, 34, 42, 43, 46, 47] → S'.1 a = S.1 a) ∧ S'.1 18 2 = S.1 18 2 ∧ S'.1 21 1 = S.1 21 1 ∧ S'.1 21 2 = S.1 21 2 ∧ S'.1 34 2 = S.1 34 2 ∧ S'.1 34 3 = S.1 34 3 ∧ (∀ i, 3 ≤ i → S'.1 43 i = S.1 43 i) ∧ (∀ i, i < 3 → S'.1 47 i = S.1 47 i) ∧ ∀ a, 48 ≤ a → S'.2 a = S.2 a
/-- and in the reference -/
def KM (T T' : St) : Prop := (∀ a, a ∉ [0, 18, 19, 20, 21, 22, 23, 24, 25, 34] → T'.1 a = T.1 a) ∧ (∀ j, j ∉ [27, 28, 30, 31, 33, 41, 52] → T'.1 0 j = T.1 0 j) ∧ T'.2 33 = T.2 33
theorem KX_rf {S : St} : KX S S := ⟨fun _ _ => rfl, rfl, rfl, rfl, rfl, rfl, fun _ _ => rfl, fun _ _ => rfl, fun _ _ => rfl⟩
theorem KM_rf {T : St} : KM T T := ⟨fun _ _ => rfl, fun _ _ => rfl, rfl⟩
theorem KX_tr {S S' S2 : St} (h : KX S S') (h2 : KX S' S2) : KX S S2 := by
  obtain ⟨a1, a2, a3, a4, a5, a6, a7, a8, a9⟩ := h
  obtain ⟨b1, b2, b3, b4, b5, b6, b7, b8, b9⟩ := h2
  exact ⟨fun a ha => (b1 a ha).trans (a1 a ha), b2.trans a2, b3.trans a3, b4.trans a4, b5.trans a5, b6.trans a6, fun i hi => (b7 i hi).trans (a7 i hi), fun i hi => (b8 i hi).trans (a8 i hi), fun i hi => (b9 i hi).trans (a9 i hi)⟩
theorem KM_tr {T T' T2 : St} (h : KM T T') (h2 : KM T' T2) : KM T T2 := ⟨fun a ha => (h2.1 a ha).trans (h.1 a ha), fun j hj => (h2.2.1 j hj).trans (h.2.1 j hj), h2.2.2.trans h.2.2⟩
/-- a state's rows that agree, cell by cell -/
theorem KX_Sm {ks : List Nat} {S S' : St} (h : Sm ks S S') (hk : ∀ k, k ∈ ks → k ∈ [12, 13, 14, 15, 16, 17, 20, 22, 23, 24, 42, 46]) : KX S S' := by
  have key : ∀ a, a ∉ [12, 13, 14, 15, 16, 17, 20, 22, 23, 24, 42, 46] → S'.1 a = S.1 a := fun a ha => h.1 a (fun q => ha (hk a q))
  refine ⟨fun a ha => key a (fun q => ha (by simp at q ⊢; omega)), ?_, ?_, ?_, ?_, ?_, fun i _ => ?_, fun i _ => ?_, fun a _ => by rw [h.2]⟩
  · rw [key 18 (by decide)]
  · rw [key 21 (by decide)]
  · rw [key 21 (by decide)]
  · rw [key 34 (by decide)]
  · rw [key 34 (by decide)]
  · rw [key 43 (by decide)]
  · rw [key 47 (by decide)]
theorem KM_Sm {ks : List Nat} {T T' : St} (h : Sm ks T T') (hk : ∀ k, k ∈ ks → k ∈ [18, 19, 20, 21, 22, 23, 24, 25, 34]) : KM T T' := by
  have key : ∀ a, a ∉ [18, 19, 20, 21, 22, 23, 24, 25, 34] → T'.1 a = T.1 a := fun a ha => h.1 a (fun q => ha (hk a q))
  exact ⟨fun a ha => key a (fun q => ha (by simp at q ⊢; omega)), fun j _ => by rw [key 0 (by decide)], by rw [h.2]⟩
def okX (k i : Nat) : Prop := k ∈ [12, 13, 14, 15, 16, 17, 18, 20, 21, 22, 23, 24, 34, 42, 43, 46, 47] ∧ (k = 18 → i ≠ 2) ∧ (k = 21 → i ≠ 1 ∧ i ≠ 2) ∧ (k = 34 → i ≠ 2 ∧ i ≠ 3) ∧ (k = 43 → i < 3) ∧ (k = 47 → 3 ≤ i)
theorem KX_u1 {S : St} {k i : Nat} {v : Int32} (h : okX k i) : KX S (u1 S k i v) := by
  obtain ⟨h1, h2, h3, h4, h5, h6⟩ := h
  refine ⟨fun a ha => ne_u1 _ _ _ (fun q => ha (by rw [q]; exact h1)), ?_, ?_, ?_, ?_, ?_, fun j hj => ?_, fun j hj => ?_, fun a _ => rfl⟩
  all_goals
    rw [rd_1]
    split
    · rename_i q
      rw [if_neg (by omega), q]
    · rfl
theorem KX_u2 {S : St} {k i : Nat} {v : Int64} (h : k < 48) : KX S (u2 S k i v) := ⟨fun _ _ => rfl, rfl, rfl, rfl, rfl, rfl, fun _ _ => rfl, fun _ _ => rfl, fun a ha => by
  show (if a = k then _ else S.2 a) = _
  rw [if_neg (by omega)]⟩
def okM (k i : Nat) : Prop := k ∈ [0, 18, 19, 20, 21, 22, 23, 24, 25, 34] ∧ (k = 0 → i ∈ [27, 28, 30, 31, 33, 41, 52])
theorem KM_u1 {T : St} {k i : Nat} {v : Int32} (h : okM k i) : KM T (u1 T k i v) := by
  obtain ⟨h1, h2⟩ := h
  refine ⟨fun a ha => ne_u1 _ _ _ (fun q => ha (by rw [q]; exact h1)), fun j hj => ?_, rfl⟩
  rw [rd_1]
  split
  · rename_i q
    rw [if_neg (fun e => hj (by rw [e]; exact h2 q.symm)), q]
  · rfl
theorem KM_u2 {T : St} {k i : Nat} {v : Int64} (h : k ≠ 33) : KM T (u2 T k i v) := ⟨fun _ _ => rfl, fun _ _ => rfl, if_neg (Ne.symm h)⟩
theorem TX_keep {t : Nat} {L : Lns} {S T S' T' : St} (ht : t < 2) (h : TX t L S T) (hS : KX S S') (hT : KM T T') : TX t L S' T' := by
  obtain ⟨a1, a2, a3, a4, a5, a6, a7, a8, a9⟩ := h
  have h0 : S'.1 (40 + 4 * t) = S.1 (40 + 4 * t) := hS.1 _ (by simp; omega)
  have h1 : S'.1 (40 + 4 * t + 1) = S.1 (40 + 4 * t + 1) := hS.1 _ (by simp; omega)
  refine ⟨by rw [h0]; exact a1, by rw [h0]; exact a2, a3, a4, by rw [h1]; exact a5, by rw [hT.1 13 (by decide)]; exact a6, LM_congr (fun a x y => hT.1 a (by simp; omega)) a7, a8, fun i hi hc => ?_⟩
  have q := a9 i hi hc
  by_cases z : t = 0
  · subst z
    rw [if_pos rfl] at hc
    rw [← q]; exact hS.2.2.2.2.2.2.1 i hc
  · rw [if_neg z] at hc
    have z1 : t = 1 := by omega
    subst z1
    rw [← q]; exact hS.2.2.2.2.2.2.2.1 i hc
theorem RR_keep {S T S' T' : St} (h : RR RxC S T) (hS : KX S S') (hT : KM T T') : RR RxC S' T' := by
  obtain ⟨n, m, t, c, e, d, hs, ht, hm, hp, hch, hi, hd, hh, hx0, hx1⟩ := h
  have kS := hS.1
  have kT := hT.1
  have kT0 := hT.2.1
  refine ⟨n, m, t, c, e, d, ?_, ?_, ?_, ?_, ?_, ?_, ?_, ?_, ?_, ?_⟩
  · unfold Rs
    rw [kS 1 (by decide), kS 2 (by decide), kS 3 (by decide), kS 4 (by decide), kS 5 (by decide), kS 6 (by decide), kT 1 (by decide), kT 2 (by decide), kT 3 (by decide), kT 4 (by decide), kT 5 (by decide), kT0 0 (by decide)]
    exact hs
  · unfold Rt
    rw [kS 7 (by decide), kS 8 (by decide), kS 9 (by decide), kS 10 (by decide), kS 11 (by decide), kT 6 (by decide), kT 7 (by decide), kT 8 (by decide), kT 9 (by decide), kT0 6 (by decide)]
    exact ht
  · unfold Rm
    rw [kS 38 (by decide), kS 39 (by decide), hS.2.2.1, hS.2.2.2.1, kT 10 (by decide), kT0 12 (by decide), kT0 13 (by decide), kT0 14 (by decide), kT0 15 (by decide), kT0 16 (by decide)]
    exact hm
  · unfold Rp
    rw [hS.2.1, kS 19 (by decide), kT 11 (by decide), kT0 18 (by decide)]
    exact hp
  · unfold Rc
    rw [kS 25 (by decide), kS 26 (by decide), kS 27 (by decide), kS 28 (by decide), kS 29 (by decide), kT 12 (by decide), kT0 20 (by decide), kT0 21 (by decide)]
    exact hch
  · unfold Ri
    rw [kS 30 (by decide), kS 31 (by decide), kS 32 (by decide), kS 33 (by decide), kT 26 (by decide), kT 27 (by decide), kT 28 (by decide), kT0 42 (by decide), kT0 43 (by decide), kT0 44 (by decide)]
    exact hi
  · unfold Rd
    rw [hS.2.2.2.2.1, hS.2.2.2.2.2.1, kS 35 (by decide), kS 36 (by decide), kT 29 (by decide), kT 30 (by decide), kT0 48 (by decide), kT0 50 (by decide)]
    exact hd
  · intro x hx
    have := hh x hx
    rw [kT 31 (by decide), kT 32 (by decide), hT.2.2, hS.2.2.2.2.2.2.2.2 (49 + 2 * x) (by omega), kS (48 + 2 * x) (by simp; omega)]
    exact this
  · intro z
    obtain ⟨L, hL⟩ := hx0 z
    exact ⟨L, TX_keep z hL hS hT⟩
  · intro z
    obtain ⟨L, hL⟩ := hx1 z
    exact ⟨L, TX_keep z hL hS hT⟩
/-! the rate -/
def nmR (a b d : Int32) : Nat → Int32 := fun k => if k = 0 then a else if k = 1 then b else if k = 2 then d else 0
def clI (lo hi v : Int32) : Int32 := if v < lo then lo else if hi < v then hi else v
def rv (L : Lns) (a b d : Int32) : Int32 := if a = b then 1000 else if L = [] then 1000 else clI 1 9999 (tv (nmR a b d) L)
theorem q_bounded {lo hi : Int32} (h : lo.toInt ≤ hi.toInt) (v : Int32) (S : St) : f_X11_bounded v lo hi S = some (clI lo hi v, S) := by
  unfold f_X11_bounded clI
  congr 2
  simp only [i32_lt]
  by_cases h1 : v.toInt < hi.toInt
  · simp only [h1, reduceIte]
    by_cases h2 : v.toInt < lo.toInt
    · simp only [h2, reduceIte]; rw [if_neg (by omega)]
    · simp only [h2, reduceIte]; rw [if_neg (show ¬ hi.toInt < v.toInt by omega)]
      by_cases h3 : lo.toInt < v.toInt
      · rw [if_pos h3]
      · rw [if_neg h3]; exact Int32.toInt_inj.mp (by omega)
  · simp only [h1, reduceIte]
    rw [if_neg (show ¬ v.toInt < lo.toInt by omega)]
    by_cases h2 : hi.toInt < v.toInt
    · rw [if_pos h2]
      by_cases h3 : lo.toInt < hi.toInt
      · rw [if_pos h3]
      · rw [if_neg h3]; exact Int32.toInt_inj.mp (by omega)
    · rw [if_neg h2]
      have e : v = hi := Int32.toInt_inj.mp (by omega)
      rw [e]
      by_cases h3 : lo.toInt < hi.toInt
      · rw [if_pos h3]
      · rw [if_neg h3]; exact Int32.toInt_inj.mp (by omega)
theorem p_within {lo hi : Int32} (h : lo.toInt ≤ hi.toInt) (v : Int32) (T : St) : f_X12_within v lo hi T = some (clI lo hi v, T) := by
  unfold f_X12_within clI
  simp only [i32_lt, i32_le]
  by_cases h1 : v.toInt < lo.toInt
  · rw [if_pos h1, if_neg (by omega)]
  · rw [if_neg h1, if_pos (by omega)]
    by_cases h2 : hi.toInt < v.toInt
    · rw [if_pos h2, if_neg (by omega)]
    · rw [if_neg h2, if_pos (by omega)]
theorem sv_congr {nm nm' : Nat → Int32} (h : ∀ k, k < 7 → nm k = nm' k) {c : Nat} (hc : tok c) (st : List Int32) : sv nm c st = sv nm' c st := by
  unfold sv
  by_cases h1 : c < 10000
  · rw [if_pos h1, if_pos h1]
  · rw [if_neg h1, if_neg h1]
    by_cases h2 : c < 20000
    · rw [if_pos h2, if_pos h2, h (c - 10000) (by unfold tok at hc; omega)]
    · rw [if_neg h2, if_neg h2]
theorem run_congr {nm nm' : Nat → Int32} (h : ∀ k, k < 7 → nm k = nm' k) : ∀ (e : List Nat) (d d' : Nat) (st : List Int32), WFd e d d' → run nm e st = run nm' e st
  | [], _, _, _, _ => rfl
  | c :: e, d, d', st, hw => by
    show run nm e (sv nm c st) = run nm' e (sv nm' c st)
    rw [sv_congr h hw.1]
    exact run_congr h e _ _ _ hw.2.2
theorem val_congr {nm nm' : Nat → Int32} (h : ∀ k, k < 7 → nm k = nm' k) {e : List Nat} (hw : WFx e) : val nm e = val nm' e := by
  unfold val; rw [run_congr h e 0 1 [] (hw 0)]
theorem tv_congr {nm nm' : Nat → Int32} (h : ∀ k, k < 7 → nm k = nm' k) : ∀ {L : Lns}, WFl L → tv nm L = tv nm' L
  | [], _ => rfl
  | l :: r, hw => by
    obtain ⟨w1, w2⟩ := hw l List.mem_cons_self
    unfold tv
    rw [val_congr h w2, tv_congr h (L := r) (fun x hx => hw x (List.mem_cons_of_mem _ hx))]
    by_cases q : l.1 = []
    · rw [if_pos q, if_pos q]
    · rw [if_neg q, if_neg q, val_congr h (w1.resolve_left q)]
theorem lt7 {k : Nat} (h : k < 7) : k = 0 ∨ k = 1 ∨ k = 2 ∨ k = 3 ∨ k = 4 ∨ k = 5 ∨ k = 6 := by omega
theorem q_rateS {L : Lns} {S T : St} (h : TX 0 L S T) (a b d : Int32) : ∃ S', f_X10_rateOf a b d S = some (rv L a b d, S') ∧ KX S S' ∧ Sm [42, 43] S S' := by
  obtain ⟨a1, a2, a3, a4, a5, a6, a7, a8, a9⟩ := h
  unfold f_X10_rateOf rv
  by_cases q : a = b
  · rw [if_pos q, if_pos q]; exact ⟨S, rfl, KX_rf, Sm_rf⟩
  · rw [if_neg q, if_neg q, a1]
    by_cases z : L = []
    · rw [if_pos z, if_pos rfl, if_pos z]; exact ⟨S, rfl, KX_rf, Sm_rf⟩
    · rw [if_neg z, if_neg one_ne, if_neg z, zb_a _ (by decide), zb_l, zb_a _ (by decide), zb_l, zb_a _ (by decide), zb_l]
      generalize hS1 : u1 (u1 (u1 S (40 + 4 * 0 + 3) (Int32.toNatClampNeg 0) a) (40 + 4 * 0 + 3) (Int32.toNatClampNeg 1) b) (40 + 4 * 0 + 3) (Int32.toNatClampNeg 2) d = S1
      have k1 : KX S S1 := by
        rw [← hS1]
        exact KX_tr (KX_tr (KX_u1 (by unfold okX; decide)) (KX_u1 (by unfold okX; decide))) (KX_u1 (by unfold okX; decide))
      have m1 : ∀ a, a ≠ 43 → S1.1 a = S.1 a := fun a ha => by rw [← hS1, ne_u1 _ _ _ ha, ne_u1 _ _ _ ha, ne_u1 _ _ _ ha]
      obtain ⟨S2, w1, w2⟩ := q_worked (t := 0) (L := L) (S := S1) (by rw [m1 _ (by decide)]; exact a2) a3 (by rw [m1 _ (by decide)]; exact a5) a8
      have hn : tv (S1.1 (40 + 4 * 0 + 3)) L = tv (nmR a b d) L := tv_congr (fun k hk => by
        rw [← hS1]
        have c0 : Int32.toNatClampNeg (0 : Int32) = 0 := rfl
        have c1 : Int32.toNatClampNeg (1 : Int32) = 1 := rfl
        have c2 : Int32.toNatClampNeg (2 : Int32) = 2 := rfl
        simp only [rd_1, reduceIte, c0, c1, c2]
        unfold nmR
        rcases lt7 hk with e | e | e | e | e | e | e <;> subst e
        · rfl
        · rfl
        · rfl
        all_goals exact a9 _ hk (by decide)) a8
      rw [w1, zb_2, hn, q_bounded (by decide), zb_2]
      have m0 : Sm [42, 43] S S1 := by rw [← hS1]; exact Sm_u1 (Sm_u1 (Sm_one (by decide)) (by decide)) (by decide)
      exact ⟨S2, rfl, KX_tr k1 (KX_Sm w2 (by decide)), Sm_tr m0 ⟨fun a ha => w2.1 a (by simp at ha ⊢; omega), w2.2⟩⟩
theorem q_rate {L : Lns} {S T : St} (h : TX 0 L S T) (a b d : Int32) : ∃ S', f_X10_rateOf a b d S = some (rv L a b d, S') ∧ KX S S' := by
  obtain ⟨S', e, k, -⟩ := q_rateS h a b d
  exact ⟨S', e, k⟩
theorem p_names {T : St} (a b d w l s y : Int32) : ∃ T', f_X12_names a b d w l s y T = some T' ∧ Sm [20] T T' ∧ T'.1 20 0 = a ∧ T'.1 20 1 = b ∧ T'.1 20 2 = d ∧ T'.1 20 3 = w ∧ T'.1 20 4 = l ∧ T'.1 20 5 = s ∧ T'.1 20 6 = y := by
  unfold f_X12_names
  rw [zb_a _ (by decide), zb_l, zb_a _ (by decide), zb_l, zb_a _ (by decide), zb_l, zb_a _ (by decide), zb_l, zb_a _ (by decide), zb_l, zb_a _ (by decide), zb_l, zb_a _ (by decide), zb_l]
  exact ⟨_, rfl, Sm_u1 (Sm_u1 (Sm_u1 (Sm_u1 (Sm_u1 (Sm_u1 (Sm_one (by decide)) (by decide)) (by decide)) (by decide)) (by decide)) (by decide)) (by decide), rfl, rfl, rfl, rfl, rfl, rfl, rfl⟩
theorem p_rateS {L : Lns} {S T : St} (h : TX 0 L S T) (a b d : Int32) : ∃ T', f_X12_rateOf a b d T = some (rv L a b d, T') ∧ KM T T' ∧ Sm [20, 21] T T' := by
  obtain ⟨a1, a2, a3, a4, a5, a6, a7, a8, a9⟩ := h
  unfold f_X12_rateOf rv
  by_cases q : a = b
  · rw [if_pos q, if_pos q]; exact ⟨T, rfl, KM_rf, Sm_rf⟩
  · rw [if_neg q, if_neg q, zb_a _ (by decide), show T.1 13 (Int32.toNatClampNeg 0) = nI L.length from a6]
    by_cases z : L = []
    · rw [if_pos z, if_pos (by rw [z]; rfl)]; exact ⟨T, rfl, KM_rf, Sm_rf⟩
    · have hl : L.length ≠ 0 := fun e => z (List.eq_nil_of_length_eq_zero e)
      rw [if_neg z, if_neg (nI_ne0 (by omega) (by omega))]
      obtain ⟨T1, e1, m1, v0, v1, v2, v3, v4, v5, v6⟩ := p_names (T := T) a b d 0 0 0 0
      obtain ⟨T2, t1, t2⟩ := p_told (w := 0) (L := L) (T := T1) (by decide) (LM_congr (fun a x y => m1.1 a (by simp; omega)) a7) a8 a4 (by have := flat_len L; omega) (by rw [m1.1 13 (by decide)]; exact a6)
      have hn : tv (T1.1 20) L = tv (nmR a b d) L := tv_congr (fun k hk => by
        rcases lt7 hk with e | e | e | e | e | e | e <;> subst e <;> assumption) a8
      rw [e1, zb_s, show (0 : Int32) = nI 0 from rfl, t1, zb_2, hn, p_within (by decide), zb_2]
      exact ⟨T2, rfl, KM_tr (KM_Sm m1 (by decide)) (KM_Sm t2 (by decide)), Sm_tr ⟨fun a ha => m1.1 a (by simp at ha ⊢; omega), m1.2⟩ ⟨fun a ha => t2.1 a (by simp at ha ⊢; omega), t2.2⟩⟩
theorem p_rate {L : Lns} {S T : St} (h : TX 0 L S T) (a b d : Int32) : ∃ T', f_X12_rateOf a b d T = some (rv L a b d, T') ∧ KM T T' := by
  obtain ⟨T', e, k, -⟩ := p_rateS h a b d
  exact ⟨T', e, k⟩
theorem rv_rg (L : Lns) (a b d : Int32) : rg (rv L a b d) 1 9999 := by
  unfold rv
  split
  · exact ⟨by decide, by decide⟩
  · split
    · exact ⟨by decide, by decide⟩
    · unfold clI
      have h1 : (1 : Int32).toInt = 1 := rfl
      have h2 : (9999 : Int32).toInt = 9999 := by decide
      generalize tv (nmR a b d) L = v
      split
      · exact ⟨by decide, by decide⟩
      · split
        · exact ⟨by decide, by decide⟩
        · rename_i x y
          rw [i32_lt] at x y
          exact ⟨by omega, by omega⟩
