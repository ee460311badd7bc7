-- X12_redo
def f_X12_redo (S : St) : Option (Int32 × St) :=
  (if (S.1 0 21) = 0 then some ((-5 : Int32), S) else jx_a ((4 : Int32) * (S.1 0 20)) 160 (jx_a (((4 : Int32) * (S.1 0 20)) + (1 : Int32)) 160 (jx_a (((4 : Int32) * (S.1 0 20)) + (3 : Int32)) 160 (jx_b (f_X12_becomes (S.1 12 (Int32.toNatClampNeg ((4 : Int32) * (S.1 0 20)))) (S.1 12 (Int32.toNatClampNeg (((4 : Int32) * (S.1 0 20)) + (1 : Int32)))) (S.1 12 (Int32.toNatClampNeg (((4 : Int32) * (S.1 0 20)) + (3 : Int32)))) S) (fun S_5 => jx_l (u1 S_5 0 20 ((S_5.1 0 20) + (1 : Int32))) (fun S_7 => jx_l (u1 S_7 0 21 ((S_7.1 0 21) - (1 : Int32))) (fun S_8 => some ((S_8.1 0 21), S_8))))))))
set_option maxHeartbeats 4000000 in
set_option maxRecDepth 100000 in
theorem c_X12_redo (l : Launch) (D : va_G) (q : Nat → Nat) (k : CI) (S : St) (sz : Nat) (Z : Int32 × St) (hZ : f_X12_redo S = some Z) : MetI W_M SM l yX12_redo wsX12_redo { frames := 1, cells := 0, slots := 0, locals := 23 } [.ref (q 0)] D q k S sz Z := by
  refine enter (cc := cX12_redo) (maxL := 1) (ret := some .int) (by decide) rfl (Nat.le_of_ble_eq_true rfl) ?_
  intro p e s m below meth c A ls hx hb hr hts hown hlocks hml hP hK hD hA hS hsp hAe hl
  have hown : s.vm.findClass RX12 = some m.cls := hown
  have hl : lv_has ls 1 [(0, .ref (q 0))] := hl
  have in12 : ∀ w ∈ wsX120, w ∈ wsX12_redo := fun _ h => (List.mem_cons_of_mem _ (List.mem_append_right _ h))
  unfold f_X12_redo at hZ
  refine lv_aload_n hx hb dX12_redo_0 rfl (lv_at hl 0 rfl) ?_
  refine gf_12_undone hx hb hts in12 hown hK hP (hts (.fieldLink RX12 161 "CoinsOfLastModel" "undone" "I") (List.mem_of_getElem? (i := 1) rfl)) dX12_redo_1 ?_
  refine lv_if_ne (tgt := 10) hx hb dX12_redo_4 (by decide) (fun c_1 => ?_) (fun c_1 => ?_)
  · have hZ := jx_i_neg c_1 hZ
    refine lv_aload_n hx hb dX12_redo_10 rfl (lv_at hl 0 rfl) ?_
    refine lv_aload_n hx hb dX12_redo_11 rfl (lv_at hl 0 rfl) ?_
    refine gf_12_changeOf hx hb hts in12 hown hK hP (hts (.fieldLink RX12 43 "CoinsOfLastModel" "changeOf" "[I") (List.mem_of_getElem? (i := 2) rfl)) dX12_redo_12 ?_
    refine lv_iconst (v := (4 : Int32)) hx hb dX12_redo_15 (by decide) ?_
    refine lv_aload_n hx hb dX12_redo_16 rfl (lv_at hl 0 rfl) ?_
    refine gf_12_changed hx hb hts in12 hown hK hP (hts (.fieldLink RX12 158 "CoinsOfLastModel" "changed" "I") (List.mem_of_getElem? (i := 3) rfl)) dX12_redo_17 ?_
    refine lv_imul hx hb dX12_redo_20 ?_
    obtain ⟨c_2, hZ⟩ := jx_a_some hZ
    refine M_iald hx hb hK hP wM_12 c_2 dX12_redo_21 ?_
    refine lv_aload_n hx hb dX12_redo_22 rfl (lv_at hl 0 rfl) ?_
    refine gf_12_changeOf hx hb hts in12 hown hK hP (hts (.fieldLink RX12 43 "CoinsOfLastModel" "changeOf" "[I") (List.mem_of_getElem? (i := 2) rfl)) dX12_redo_23 ?_
    refine lv_iconst (v := (4 : Int32)) hx hb dX12_redo_26 (by decide) ?_
    refine lv_aload_n hx hb dX12_redo_27 rfl (lv_at hl 0 rfl) ?_
    refine gf_12_changed hx hb hts in12 hown hK hP (hts (.fieldLink RX12 158 "CoinsOfLastModel" "changed" "I") (List.mem_of_getElem? (i := 3) rfl)) dX12_redo_28 ?_
    refine lv_imul hx hb dX12_redo_31 ?_
    refine lv_iconst (v := (1 : Int32)) hx hb dX12_redo_32 (by decide) ?_
    refine lv_iadd hx hb dX12_redo_33 ?_
    obtain ⟨c_3, hZ⟩ := jx_a_some hZ
    refine M_iald hx hb hK hP wM_12 c_3 dX12_redo_34 ?_
    refine lv_aload_n hx hb dX12_redo_35 rfl (lv_at hl 0 rfl) ?_
    refine gf_12_changeOf hx hb hts in12 hown hK hP (hts (.fieldLink RX12 43 "CoinsOfLastModel" "changeOf" "[I") (List.mem_of_getElem? (i := 2) rfl)) dX12_redo_36 ?_
    refine lv_iconst (v := (4 : Int32)) hx hb dX12_redo_39 (by decide) ?_
    refine lv_aload_n hx hb dX12_redo_40 rfl (lv_at hl 0 rfl) ?_
    refine gf_12_changed hx hb hts in12 hown hK hP (hts (.fieldLink RX12 158 "CoinsOfLastModel" "changed" "I") (List.mem_of_getElem? (i := 3) rfl)) dX12_redo_41 ?_
    refine lv_imul hx hb dX12_redo_44 ?_
    refine lv_iconst (v := (3 : Int32)) hx hb dX12_redo_45 (by decide) ?_
    refine lv_iadd hx hb dX12_redo_46 ?_
    obtain ⟨c_4, hZ⟩ := jx_a_some hZ
    refine M_iald hx hb hK hP wM_12 c_4 dX12_redo_47 ?_
    obtain ⟨S_5, hc_6, hZ⟩ := jx_b_some hZ
    refine call_Vv SM_ok sameM ⟨hx, hb, hml, hown, hts⟩ (c_X12_becomes l D q k (S.1 12 (Int32.toNatClampNeg ((4 : Int32) * (S.1 0 20)))) (S.1 12 (Int32.toNatClampNeg (((4 : Int32) * (S.1 0 20)) + (1 : Int32)))) (S.1 12 (Int32.toNatClampNeg (((4 : Int32) * (S.1 0 20)) + (3 : Int32)))) S _ S_5  hc_6) (cwV 3 hts gX12_redo_X12_becomes rfl rfl rfl hd_X12_becomes ⟨Nat.le_of_ble_eq_true rfl, Nat.le_of_ble_eq_true rfl⟩) hK hP hD hS hA hsp (va_recv hK hP (ci := 12) (q0 := 0) rfl wM_0) (As := [.int (S.1 12 (Int32.toNatClampNeg ((4 : Int32) * (S.1 0 20)))), .int (S.1 12 (Int32.toNatClampNeg (((4 : Int32) * (S.1 0 20)) + (1 : Int32)))), .int (S.1 12 (Int32.toNatClampNeg (((4 : Int32) * (S.1 0 20)) + (3 : Int32))))]) rfl hl.1 rfl (Nat.le_of_ble_eq_true rfl) dX12_redo_48 ⟨Nat.zero_le _, Nat.zero_le _⟩ (fun H locs hP hD hS => ?_)
    refine lv_aload_n hx hb dX12_redo_51 rfl (lv_at hl 0 rfl) ?_
    refine lv_dup hx hb dX12_redo_52 rfl ?_
    refine gf_12_changed hx hb hts in12 hown hK hP (hts (.fieldLink RX12 158 "CoinsOfLastModel" "changed" "I") (List.mem_of_getElem? (i := 3) rfl)) dX12_redo_53 ?_
    refine lv_iconst (v := (1 : Int32)) hx hb dX12_redo_56 (by decide) ?_
    refine lv_iadd hx hb dX12_redo_57 ?_
    obtain ⟨S_7, e_S_7, hZ⟩ := jx_l_some hZ
    refine pf_12_changed hx hb hts in12 hown hK hP hD hS (hts (.fieldLink RX12 158 "CoinsOfLastModel" "changed" "I") (List.mem_of_getElem? (i := 3) rfl)) e_S_7 dX12_redo_58 (fun H locs hP hD hS => ?_)
    refine lv_aload_n hx hb dX12_redo_61 rfl (lv_at hl 0 rfl) ?_
    refine lv_dup hx hb dX12_redo_62 rfl ?_
    refine gf_12_undone hx hb hts in12 hown hK hP (hts (.fieldLink RX12 161 "CoinsOfLastModel" "undone" "I") (List.mem_of_getElem? (i := 1) rfl)) dX12_redo_63 ?_
    refine lv_iconst (v := (1 : Int32)) hx hb dX12_redo_66 (by decide) ?_
    refine lv_isub hx hb dX12_redo_67 ?_
    obtain ⟨S_8, e_S_8, hZ⟩ := jx_l_some hZ
    refine pf_12_undone hx hb hts in12 hown hK hP hD hS (hts (.fieldLink RX12 161 "CoinsOfLastModel" "undone" "I") (List.mem_of_getElem? (i := 1) rfl)) e_S_8 dX12_redo_68 (fun H locs hP hD hS => ?_)
    refine lv_aload_n hx hb dX12_redo_71 rfl (lv_at hl 0 rfl) ?_
    refine gf_12_undone hx hb hts in12 hown hK hP (hts (.fieldLink RX12 161 "CoinsOfLastModel" "undone" "I") (List.mem_of_getElem? (i := 1) rfl)) dX12_redo_72 ?_
    exact leave_i hx hb hr hlocks hP hS hZ dX12_redo_75
  · have hZ := jx_i_pos c_1 hZ
    refine lv_bipush (v := (-5 : Int32)) hx hb dX12_redo_7 (by decide) ?_
    exact leave_i hx hb hr hlocks hP hS hZ dX12_redo_9
-- X12_purseOf
def f_X12_purseOf_48 (x2_4 : Int32) (S_4 : St) : Option (Int32 × St) :=
  some (x2_4, S_4)
def f_X12_purseOf_40i4 (x1 : Int32) (S : St) (x3_10 : Int32) (s0_10 : Int32) (s1_10 : Int32) : Option ((Int32 × Int32) ⊕ (Int32)) :=
  jx_l (s0_10 + s1_10) (fun x2_11 => jx_l (x3_10 + 1) (fun x3_12 => some (.inl (x2_11, x3_12))))
def b_X12_purseOf_4 (x1 : Int32) (x2 : Int32) (x3 : Int32) (S : St) : Option ((Int32 × Int32) ⊕ (Int32)) :=
  (if (S.1 0 0) ≤ x3 then some (.inr x2) else jx_a x3 8 ((if (S.1 1 (Int32.toNatClampNeg x3)) = x1 then jx_a x3 8 (jx_a x3 8 (f_X12_purseOf_40i4 x1 S x3 x2 ((S.1 5 (Int32.toNatClampNeg x3)) * (S.1 2 (Int32.toNatClampNeg x3))))) else f_X12_purseOf_40i4 x1 S x3 x2 (0 : Int32))))
def g_X12_purseOf_4 (x1 : Int32) (S : St) : (Int32 × Int32) → Option ((Int32 × Int32) ⊕ (Int32)) := fun z => b_X12_purseOf_4 x1 z.1 z.2 S
def f_X12_purseOf (x1 : Int32) (S : St) : Option (Int32 × St) :=
  jx_b (jx_w (g_X12_purseOf_4 x1 S) FU ((0 : Int32), (0 : Int32))) (fun z => f_X12_purseOf_48 z S)
set_option maxHeartbeats 4000000 in
set_option maxRecDepth 100000 in
theorem c_X12_purseOf (l : Launch) (D : va_G) (q : Nat → Nat) (k : CI) (x1 : Int32) (S : St) (sz : Nat) (Z : Int32 × St) (hZ : f_X12_purseOf x1 S = some Z) : MetI W_M SM l yX12_purseOf wsX12_purseOf { frames := 0, cells := 0, slots := 0, locals := 0 } [.ref (q 0), .int x1] D q k S sz Z := by
  refine enter (cc := cX12_purseOf) (maxL := 4) (ret := some .int) (by decide) rfl (Nat.le_of_ble_eq_true rfl) ?_
  intro p e s m below meth c A ls hx hb hr hts hown hlocks hml hP hK hD hA hS hsp hAe hl
  have hown : s.vm.findClass RX12 = some m.cls := hown
  have hl : lv_has ls 4 [(0, .ref (q 0)), (1, .int x1)] := hl
  have in12 : ∀ w ∈ wsX120, w ∈ wsX12_purseOf := fun _ h => (List.mem_cons_of_mem _ (List.mem_append_right _ h))
  have j48 : ∀ (x2_4 : Int32) (S_4 : St)  (H : Heap) (locs : List Loc) (hZ : f_X12_purseOf_48 x2_4 S_4 = some Z) (hP : va_P D vwCl (W_M q k S_4) H) (hD : va_D A (W_M q k S_4)) (hS : va_S A s.heap H locs) (ls : Array Slot) (hl : lv_has ls 4 [(2, .int x2_4)]), W p l e ({ frames := 0, cells := 0, slots := 0, locals := 0 } : Room) s m ([.ref (q 0), .int x1] : List Value).toArray below meth c H locs 0 0 (MQ below (va_Qi (fun r u => (r, u) = Z) (fun u t => va_P D vwCl (W_M q k u) t.heap) A) ([.ref (q 0), .int x1] : List Value).toArray s 0 0 A) (F0 m 48 ls []) := by
    intro x2_4 S_4   H locs hZ hP hD hS ls hl
    unfold f_X12_purseOf_48 at hZ
    refine lv_iload_n hx hb dX12_purseOf_48 rfl (lv_at hl 0 rfl) ?_
    exact leave_i hx hb hr hlocks hP hS hZ dX12_purseOf_49
  unfold f_X12_purseOf at hZ
  refine lv_iconst (v := (0 : Int32)) hx hb dX12_purseOf_0 (by decide) ?_
  refine lv_istore_n (lv' := [(2, .int (0 : Int32)), (0, .ref (q 0)), (1, .int x1)]) hx hb dX12_purseOf_1 rfl hl (by decide) rfl (fun ls hl => ?_)
  refine lv_iconst (v := (0 : Int32)) hx hb dX12_purseOf_2 (by decide) ?_
  refine lv_istore_n (lv' := [(3, .int (0 : Int32)), (2, .int (0 : Int32)), (0, .ref (q 0)), (1, .int x1)]) hx hb dX12_purseOf_3 rfl hl (by decide) rfl (fun ls hl => ?_)
  obtain ⟨r_3, hw, hza_3⟩ := jx_b_some hZ
  have l_3 : ∀ (nn : Nat) (x2_1 : Int32) (x3_2 : Int32) (H : Heap) (locs : List Loc) (hw : jx_w (g_X12_purseOf_4 x1 S) nn (x2_1, x3_2) = some r_3) (hP : va_P D vwCl (W_M q k S) H) (hD : va_D A (W_M q k S)) (hS : va_S A s.heap H locs) (ls : Array Slot) (hl : lv_has ls 4 [(0, .ref (q 0)), (1, .int x1), (2, .int x2_1), (3, .int x3_2)]), W p l e ({ frames := 0, cells := 0, slots := 0, locals := 0 } : Room) s m ([.ref (q 0), .int x1] : List Value).toArray below meth c H locs 0 0 (MQ below (va_Qi (fun r u => (r, u) = Z) (fun u t => va_P D vwCl (W_M q k u) t.heap) A) ([.ref (q 0), .int x1] : List Value).toArray s 0 0 A) (F0 m 4 ls []) := by
    intro nn
    induction nn with
    | zero =>
      intro x2_1 x3_2 H locs hw hP hD hS ls hl
      exact jx_w_zero hw
    | succ n_3 ih_3 =>
      intro x2_1 x3_2 H locs hw hP hD hS ls hl
      obtain ⟨o_3, hZ, hk_3⟩ := jx_w_succ hw
      have hZ : b_X12_purseOf_4 x1 x2_1 x3_2 S = some o_3 := hZ
      have j40i4 : ∀ (x3_21 : Int32) (s0_21 : Int32) (s1_21 : Int32)  (o_3 : (Int32 × Int32) ⊕ (Int32)) (hk_3 : jx_k (g_X12_purseOf_4 x1 S) n_3 r_3 o_3) (H : Heap) (locs : List Loc) (hZ : f_X12_purseOf_40i4 x1 S x3_21 s0_21 s1_21 = some o_3) (hP : va_P D vwCl (W_M q k S) H) (hD : va_D A (W_M q k S)) (hS : va_S A s.heap H locs) (ls : Array Slot) (hl : lv_has ls 4 [(0, .ref (q 0)), (1, .int x1), (3, .int x3_21)]), W p l e ({ frames := 0, cells := 0, slots := 0, locals := 0 } : Room) s m ([.ref (q 0), .int x1] : List Value).toArray below meth c H locs 0 0 (MQ below (va_Qi (fun r u => (r, u) = Z) (fun u t => va_P D vwCl (W_M q k u) t.heap) A) ([.ref (q 0), .int x1] : List Value).toArray s 0 0 A) (F0 m 40 ls [.int s1_21, .int s0_21]) := by
        intro x3_21 s0_21 s1_21  o_3 hk_3 H locs hZ hP hD hS ls hl
        unfold f_X12_purseOf_40i4 at hZ
        refine lv_iadd hx hb dX12_purseOf_40 ?_
        obtain ⟨x2_22, e_x2_22, hZ⟩ := jx_l_some hZ
        refine tx_i e_x2_22 ?_
        refine lv_istore_n (lv' := [(2, .int x2_22), (0, .ref (q 0)), (1, .int x1), (3, .int x3_21)]) hx hb dX12_purseOf_41 rfl hl (by decide) rfl (fun ls hl => ?_)
        obtain ⟨x3_23, e_x3_23, hZ⟩ := jx_l_some hZ
        refine lv_iinc (v := x3_23) (lv' := [(3, .int x3_23), (2, .int x2_22), (0, .ref (q 0)), (1, .int x1)]) hx hb dX12_purseOf_42 hl (k := 3) rfl (by rw [e_x3_23]; rfl) (by decide) rfl (fun ls hl => ?_)
        refine lv_goto (tgt := 4) hx hb dX12_purseOf_45 (by decide) ?_
        have ho := Option.some.inj hZ
        subst ho
        exact ih_3 x2_22 x3_23 _ _ hk_3 hP hD hS _ (lv_sub hl [2, 3, 1, 0] rfl)
      unfold b_X12_purseOf_4 at hZ
      refine lv_iload_n hx hb dX12_purseOf_4 rfl (lv_at hl 3 rfl) ?_
      refine lv_aload_n hx hb dX12_purseOf_5 rfl (lv_at hl 0 rfl) ?_
      refine gf_12_sorts hx hb hts in12 hown hK hP (hts (.fieldLink RX12 114 "CoinsOfLastModel" "sorts" "I") (List.mem_of_getElem? (i := 1) rfl)) dX12_purseOf_6 ?_
      refine lv_icmp_ge (tgt := 48) hx hb dX12_purseOf_9 (by decide) (fun c_17 => ?_) (fun c_17 => ?_)
      · have hZ := jx_i_pos c_17 hZ
        have ho := Option.some.inj hZ
        subst ho
        have hE := hza_3
        rw [← (show x2_1 = r_3 from hk_3)] at hE
        have hZ : f_X12_purseOf_48 x2_1 S = some Z := hE
        exact j48 x2_1 S _ _ hZ hP hD hS _ (lv_sub hl [2] rfl)
      · have hZ := jx_i_neg c_17 hZ
        refine lv_iload_n hx hb dX12_purseOf_12 rfl (lv_at hl 2 rfl) ?_
        refine lv_aload_n hx hb dX12_purseOf_13 rfl (lv_at hl 0 rfl) ?_
        refine gf_12_landOf hx hb hts in12 hown hK hP (hts (.fieldLink RX12 7 "CoinsOfLastModel" "landOf" "[I") (List.mem_of_getElem? (i := 2) rfl)) dX12_purseOf_14 ?_
        refine lv_iload_n hx hb dX12_purseOf_17 rfl (lv_at hl 3 rfl) ?_
        obtain ⟨c_19, hZ⟩ := jx_a_some hZ
        refine M_iald hx hb hK hP wM_1 c_19 dX12_purseOf_18 ?_
        refine lv_iload_n hx hb dX12_purseOf_19 rfl (lv_at hl 1 rfl) ?_
        refine lv_icmp_ne (tgt := 39) hx hb dX12_purseOf_20 (by decide) (fun c_20 => ?_) (fun c_20 => ?_)
        · have hZ := jx_i_neg c_20 hZ
          refine lv_iconst (v := (0 : Int32)) hx hb dX12_purseOf_39 (by decide) ?_
          exact j40i4 x3_2 x2_1 (0 : Int32) _ hk_3 _ _ hZ hP hD hS _ (lv_sub hl [0, 1, 3] rfl)
        · have hZ := jx_i_pos c_20 hZ
          refine lv_aload_n hx hb dX12_purseOf_23 rfl (lv_at hl 0 rfl) ?_
          refine gf_12_purse hx hb hts in12 hown hK hP (hts (.fieldLink RX12 22 "CoinsOfLastModel" "purse" "[I") (List.mem_of_getElem? (i := 3) rfl)) dX12_purseOf_24 ?_
          refine lv_iload_n hx hb dX12_purseOf_27 rfl (lv_at hl 3 rfl) ?_
          obtain ⟨c_25, hZ⟩ := jx_a_some hZ
          refine M_iald hx hb hK hP wM_5 c_25 dX12_purseOf_28 ?_
          refine lv_aload_n hx hb dX12_purseOf_29 rfl (lv_at hl 0 rfl) ?_
          refine gf_12_worth hx hb hts in12 hown hK hP (hts (.fieldLink RX12 13 "CoinsOfLastModel" "worth" "[I") (List.mem_of_getElem? (i := 4) rfl)) dX12_purseOf_30 ?_
          refine lv_iload_n hx hb dX12_purseOf_33 rfl (lv_at hl 3 rfl) ?_
          obtain ⟨c_26, hZ⟩ := jx_a_some hZ
          refine M_iald hx hb hK hP wM_2 c_26 dX12_purseOf_34 ?_
          refine lv_imul hx hb dX12_purseOf_35 ?_
          refine lv_goto (tgt := 40) hx hb dX12_purseOf_36 (by decide) ?_
          exact j40i4 x3_2 x2_1 ((S.1 5 (Int32.toNatClampNeg x3_2)) * (S.1 2 (Int32.toNatClampNeg x3_2))) _ hk_3 _ _ hZ hP hD hS _ (lv_sub hl [0, 1, 3] rfl)
  exact l_3 FU (0 : Int32) (0 : Int32) _ _ hw hP hD hS _ (lv_sub hl [2, 3, 1, 0] rfl)
theorem hd_X12_purseOf : yX12_purseOf.cls = RX12 ∧ yX12_purseOf.cls ≠ "java/lang/invoke/MethodHandle" ∧ yX12_purseOf.cls ≠ "java/lang/invoke/VarHandle" ∧ (parseMethodDescriptor yX12_purseOf.desc).map (fun d => d.parameters.length) = some 1 := by decide +kernel
-- X12_of
def f_X12_of_150 (S_13 : St) : Option (Int32 × St) :=
  some ((-1 : Int32), S_13)
def f_X12_of (x1 : Int32) (x2 : Int32) (S : St) : Option (Int32 × St) :=
  jx_b2 (f_X12_in x2 (0 : Int32) (4 : Int32) S) (fun r_3 S_1 => (if r_3 = 0 then jx_b2 (f_X12_in x2 (10 : Int32) (13 : Int32) S_1) (fun r_7 S_5 => (if r_7 = 0 then jx_b2 (f_X12_in x2 (20 : Int32) (21 : Int32) S_5) (fun r_11 S_9 => (if r_11 = 0 then f_X12_of_150 S_9 else jx_b2 (f_X12_isLand x1 S_9) (fun r_17 S_15 => (if r_17 = 0 then f_X12_of_150 S_15 else (if x2 = (20 : Int32) then jx_a x1 4 (some ((S_15.1 10 (Int32.toNatClampNeg x1)), S_15)) else jx_b2 (f_X12_purseOf x1 S_15) (fun r_22 S_20 => some (r_22, S_20))))))) else jx_b2 (f_X12_isThing x1 S_5) (fun r_27 S_25 => (if r_27 = 0 then some ((-1 : Int32), S_25) else (if x2 = (10 : Int32) then jx_a x1 10 (some ((S_25.1 6 (Int32.toNatClampNeg x1)), S_25)) else (if x2 = (11 : Int32) then jx_a x1 10 (some ((S_25.1 7 (Int32.toNatClampNeg x1)), S_25)) else (if x2 = (12 : Int32) then jx_a x1 10 (some ((S_25.1 8 (Int32.toNatClampNeg x1)), S_25)) else jx_a x1 10 (some ((S_25.1 9 (Int32.toNatClampNeg x1)), S_25))))))))) else jx_b2 (f_X12_isSort x1 S_1) (fun r_38 S_36 => (if r_38 = 0 then some ((-1 : Int32), S_36) else (if x2 = 0 then jx_a x1 8 (some ((S_36.1 1 (Int32.toNatClampNeg x1)), S_36)) else (if x2 = (4 : Int32) then jx_a x1 8 (some ((S_36.1 5 (Int32.toNatClampNeg x1)), S_36)) else jx_b2 (f_X12_held x1 (x2 - (1 : Int32)) S_36) (fun r_44 S_42 => some (r_44, S_42))))))))
set_option maxHeartbeats 4000000 in
set_option maxRecDepth 100000 in
theorem c_X12_of (l : Launch) (D : va_G) (q : Nat → Nat) (k : CI) (x1 : Int32) (x2 : Int32) (S : St) (sz : Nat) (Z : Int32 × St) (hZ : f_X12_of x1 x2 S = some Z) : MetI W_M SM l yX12_of wsX12_of { frames := 2, cells := 0, slots := 0, locals := 43 } [.ref (q 0), .int x1, .int x2] D q k S sz Z := by
  refine enter (cc := cX12_of) (maxL := 3) (ret := some .int) (by decide) rfl (Nat.le_of_ble_eq_true rfl) ?_
  intro p e s m below meth c A ls hx hb hr hts hown hlocks hml hP hK hD hA hS hsp hAe hl
  have hown : s.vm.findClass RX12 = some m.cls := hown
  have hl : lv_has ls 3 [(0, .ref (q 0)), (1, .int x1), (2, .int x2)] := hl
  have in12 : ∀ w ∈ wsX120, w ∈ wsX12_of := fun _ h => (List.mem_cons_of_mem _ (List.mem_append_right _ h))
  have j150 : ∀ (S_13 : St)  (H : Heap) (locs : List Loc) (hZ : f_X12_of_150 S_13 = some Z) (hP : va_P D vwCl (W_M q k S_13) H) (hD : va_D A (W_M q k S_13)) (hS : va_S A s.heap H locs) (ls : Array Slot) (hl : lv_has ls 3 []), W p l e ({ frames := 2, cells := 0, slots := 0, locals := 43 } : Room) s m ([.ref (q 0), .int x1, .int x2] : List Value).toArray below meth c H locs 0 0 (MQ below (va_Qi (fun r u => (r, u) = Z) (fun u t => va_P D vwCl (W_M q k u) t.heap) A) ([.ref (q 0), .int x1, .int x2] : List Value).toArray s 0 0 A) (F0 m 150 ls []) := by
    intro S_13   H locs hZ hP hD hS ls hl
    unfold f_X12_of_150 at hZ
    refine lv_iconst (v := (-1 : Int32)) hx hb dX12_of_150 (by decide) ?_
    refine lv_goto (tgt := 174) hx hb dX12_of_151 (by decide) ?_
    exact leave_i hx hb hr hlocks hP hS hZ dX12_of_174
  unfold f_X12_of at hZ
  refine lv_iload_n hx hb dX12_of_0 rfl (lv_at hl 2 rfl) ?_
  refine lv_iconst (v := (0 : Int32)) hx hb dX12_of_1 (by decide) ?_
  refine lv_iconst (v := (4 : Int32)) hx hb dX12_of_2 (by decide) ?_
  obtain ⟨r_3, S_1, hc_2, hZ⟩ := jx_b2_some hZ
  refine call_Si SM_ok sameM ⟨hx, hb, hml, hown, hts⟩ (c_X12_in l D q k x2 (0 : Int32) (4 : Int32) S _ (r_3, S_1)  hc_2) (va_cwS 3 hts gX12_of_X12_in rfl rfl rfl hd_X12_in ⟨Nat.le_of_ble_eq_true rfl, Nat.le_of_ble_eq_true rfl⟩) hK hP hD hS hA hsp (As := [.int x2, .int (0 : Int32), .int (4 : Int32)]) rfl hl.1 rfl (Nat.le_of_ble_eq_true rfl) dX12_of_3 ⟨Nat.zero_le _, Nat.zero_le _⟩ (fun H locs hP hD hS => ?_)
  refine lv_if_eq (tgt := 57) hx hb dX12_of_6 (by decide) (fun c_4 => ?_) (fun c_4 => ?_)
  · have hZ := jx_i_pos c_4 hZ
    refine lv_iload_n hx hb dX12_of_57 rfl (lv_at hl 2 rfl) ?_
    refine lv_bipush (v := (10 : Int32)) hx hb dX12_of_58 (by decide) ?_
    refine lv_bipush (v := (13 : Int32)) hx hb dX12_of_60 (by decide) ?_
    obtain ⟨r_7, S_5, hc_6, hZ⟩ := jx_b2_some hZ
    refine call_Si SM_ok sameM ⟨hx, hb, hml, hown, hts⟩ (c_X12_in l D q k x2 (10 : Int32) (13 : Int32) S_1 _ (r_7, S_5)  hc_6) (va_cwS 3 hts gX12_of_X12_in rfl rfl rfl hd_X12_in ⟨Nat.le_of_ble_eq_true rfl, Nat.le_of_ble_eq_true rfl⟩) hK hP hD hS hA hsp (As := [.int x2, .int (10 : Int32), .int (13 : Int32)]) rfl hl.1 rfl (Nat.le_of_ble_eq_true rfl) dX12_of_62 ⟨Nat.zero_le _, Nat.zero_le _⟩ (fun H locs hP hD hS => ?_)
    refine lv_if_eq (tgt := 132) hx hb dX12_of_65 (by decide) (fun c_8 => ?_) (fun c_8 => ?_)
    · have hZ := jx_i_pos c_8 hZ
      refine lv_iload_n hx hb dX12_of_132 rfl (lv_at hl 2 rfl) ?_
      refine lv_bipush (v := (20 : Int32)) hx hb dX12_of_133 (by decide) ?_
      refine lv_bipush (v := (21 : Int32)) hx hb dX12_of_135 (by decide) ?_
      obtain ⟨r_11, S_9, hc_10, hZ⟩ := jx_b2_some hZ
      refine call_Si SM_ok sameM ⟨hx, hb, hml, hown, hts⟩ (c_X12_in l D q k x2 (20 : Int32) (21 : Int32) S_5 _ (r_11, S_9)  hc_10) (va_cwS 3 hts gX12_of_X12_in rfl rfl rfl hd_X12_in ⟨Nat.le_of_ble_eq_true rfl, Nat.le_of_ble_eq_true rfl⟩) hK hP hD hS hA hsp (As := [.int x2, .int (20 : Int32), .int (21 : Int32)]) rfl hl.1 rfl (Nat.le_of_ble_eq_true rfl) dX12_of_137 ⟨Nat.zero_le _, Nat.zero_le _⟩ (fun H locs hP hD hS => ?_)
      refine lv_if_eq (tgt := 150) hx hb dX12_of_140 (by decide) (fun c_12 => ?_) (fun c_12 => ?_)
      · have hZ := jx_i_pos c_12 hZ
        exact j150 S_9 _ _ hZ hP hD hS _ (lv_sub hl [] rfl)
      · have hZ := jx_i_neg c_12 hZ
        refine lv_iload_n hx hb dX12_of_143 rfl (lv_at hl 1 rfl) ?_
        obtain ⟨r_17, S_15, hc_16, hZ⟩ := jx_b2_some hZ
        refine call_Si SM_ok sameM ⟨hx, hb, hml, hown, hts⟩ (c_X12_isLand l D q k x1 S_9 _ (r_17, S_15)  hc_16) (va_cwS 1 hts gX12_of_X12_isLand rfl rfl rfl hd_X12_isLand ⟨Nat.le_of_ble_eq_true rfl, Nat.le_of_ble_eq_true rfl⟩) hK hP hD hS hA hsp (As := [.int x1]) rfl hl.1 rfl (Nat.le_of_ble_eq_true rfl) dX12_of_144 ⟨Nat.zero_le _, Nat.zero_le _⟩ (fun H locs hP hD hS => ?_)
        refine lv_if_ne (tgt := 154) hx hb dX12_of_147 (by decide) (fun c_18 => ?_) (fun c_18 => ?_)
        · have hZ := jx_i_neg c_18 hZ
          refine lv_iload_n hx hb dX12_of_154 rfl (lv_at hl 2 rfl) ?_
          refine lv_bipush (v := (20 : Int32)) hx hb dX12_of_155 (by decide) ?_
          refine lv_icmp_ne (tgt := 169) hx hb dX12_of_157 (by decide) (fun c_19 => ?_) (fun c_19 => ?_)
          · have hZ := jx_i_neg c_19 hZ
            refine lv_aload_n hx hb dX12_of_169 rfl (lv_at hl 0 rfl) ?_
            refine lv_iload_n hx hb dX12_of_170 rfl (lv_at hl 1 rfl) ?_
            obtain ⟨r_22, S_20, hc_21, hZ⟩ := jx_b2_some hZ
            refine call_Vi SM_ok sameM ⟨hx, hb, hml, hown, hts⟩ (c_X12_purseOf l D q k x1 S_15 _ (r_22, S_20)  hc_21) (cwV 1 hts gX12_of_X12_purseOf rfl rfl rfl hd_X12_purseOf ⟨Nat.le_of_ble_eq_true rfl, Nat.le_of_ble_eq_true rfl⟩) hK hP hD hS hA hsp (va_recv hK hP (ci := 12) (q0 := 0) rfl wM_0) (As := [.int x1]) rfl hl.1 rfl (Nat.le_of_ble_eq_true rfl) dX12_of_171 ⟨Nat.zero_le _, Nat.zero_le _⟩ (fun H locs hP hD hS => ?_)
            exact leave_i hx hb hr hlocks hP hS hZ dX12_of_174
          · have hZ := jx_i_pos c_19 hZ
            refine lv_aload_n hx hb dX12_of_160 rfl (lv_at hl 0 rfl) ?_
            refine gf_12_rules hx hb hts in12 hown hK hP (hts (.fieldLink RX12 37 "CoinsOfLastModel" "rules" "[I") (List.mem_of_getElem? (i := 7) rfl)) dX12_of_161 ?_
            refine lv_iload_n hx hb dX12_of_164 rfl (lv_at hl 1 rfl) ?_
            obtain ⟨c_23, hZ⟩ := jx_a_some hZ
            refine M_iald hx hb hK hP wM_10 c_23 dX12_of_165 ?_
            refine lv_goto (tgt := 174) hx hb dX12_of_166 (by decide) ?_
            exact leave_i hx hb hr hlocks hP hS hZ dX12_of_174
        · have hZ := jx_i_pos c_18 hZ
          exact j150 S_15 _ _ hZ hP hD hS _ (lv_sub hl [] rfl)
    · have hZ := jx_i_neg c_8 hZ
      refine lv_aload_n hx hb dX12_of_68 rfl (lv_at hl 0 rfl) ?_
      refine lv_iload_n hx hb dX12_of_69 rfl (lv_at hl 1 rfl) ?_
      obtain ⟨r_27, S_25, hc_26, hZ⟩ := jx_b2_some hZ
      refine call_Vi SM_ok sameM ⟨hx, hb, hml, hown, hts⟩ (c_X12_isThing l D q k x1 S_5 _ (r_27, S_25)  hc_26) (cwV 1 hts gX12_of_X12_isThing rfl rfl rfl hd_X12_isThing ⟨Nat.le_of_ble_eq_true rfl, Nat.le_of_ble_eq_true rfl⟩) hK hP hD hS hA hsp (va_recv hK hP (ci := 12) (q0 := 0) rfl wM_0) (As := [.int x1]) rfl hl.1 rfl (Nat.le_of_ble_eq_true rfl) dX12_of_70 ⟨Nat.zero_le _, Nat.zero_le _⟩ (fun H locs hP hD hS => ?_)
      refine lv_if_ne (tgt := 80) hx hb dX12_of_73 (by decide) (fun c_28 => ?_) (fun c_28 => ?_)
      · have hZ := jx_i_neg c_28 hZ
        refine lv_iload_n hx hb dX12_of_80 rfl (lv_at hl 2 rfl) ?_
        refine lv_bipush (v := (10 : Int32)) hx hb dX12_of_81 (by decide) ?_
        refine lv_icmp_ne (tgt := 95) hx hb dX12_of_83 (by decide) (fun c_29 => ?_) (fun c_29 => ?_)
        · have hZ := jx_i_neg c_29 hZ
          refine lv_iload_n hx hb dX12_of_95 rfl (lv_at hl 2 rfl) ?_
          refine lv_bipush (v := (11 : Int32)) hx hb dX12_of_96 (by decide) ?_
          refine lv_icmp_ne (tgt := 110) hx hb dX12_of_98 (by decide) (fun c_30 => ?_) (fun c_30 => ?_)
          · have hZ := jx_i_neg c_30 hZ
            refine lv_iload_n hx hb dX12_of_110 rfl (lv_at hl 2 rfl) ?_
            refine lv_bipush (v := (12 : Int32)) hx hb dX12_of_111 (by decide) ?_
            refine lv_icmp_ne (tgt := 125) hx hb dX12_of_113 (by decide) (fun c_31 => ?_) (fun c_31 => ?_)
            · have hZ := jx_i_neg c_31 hZ
              refine lv_aload_n hx hb dX12_of_125 rfl (lv_at hl 0 rfl) ?_
              refine gf_12_many hx hb hts in12 hown hK hP (hts (.fieldLink RX12 34 "CoinsOfLastModel" "many" "[I") (List.mem_of_getElem? (i := 6) rfl)) dX12_of_126 ?_
              refine lv_iload_n hx hb dX12_of_129 rfl (lv_at hl 1 rfl) ?_
              obtain ⟨c_32, hZ⟩ := jx_a_some hZ
              refine M_iald hx hb hK hP wM_9 c_32 dX12_of_130 ?_
              exact leave_i hx hb hr hlocks hP hS hZ dX12_of_131
            · have hZ := jx_i_pos c_31 hZ
              refine lv_aload_n hx hb dX12_of_116 rfl (lv_at hl 0 rfl) ?_
              refine gf_12_value hx hb hts in12 hown hK hP (hts (.fieldLink RX12 31 "CoinsOfLastModel" "value" "[I") (List.mem_of_getElem? (i := 5) rfl)) dX12_of_117 ?_
              refine lv_iload_n hx hb dX12_of_120 rfl (lv_at hl 1 rfl) ?_
              obtain ⟨c_33, hZ⟩ := jx_a_some hZ
              refine M_iald hx hb hK hP wM_8 c_33 dX12_of_121 ?_
              refine lv_goto (tgt := 131) hx hb dX12_of_122 (by decide) ?_
              exact leave_i hx hb hr hlocks hP hS hZ dX12_of_131
          · have hZ := jx_i_pos c_30 hZ
            refine lv_aload_n hx hb dX12_of_101 rfl (lv_at hl 0 rfl) ?_
            refine gf_12_price hx hb hts in12 hown hK hP (hts (.fieldLink RX12 28 "CoinsOfLastModel" "price" "[I") (List.mem_of_getElem? (i := 4) rfl)) dX12_of_102 ?_
            refine lv_iload_n hx hb dX12_of_105 rfl (lv_at hl 1 rfl) ?_
            obtain ⟨c_34, hZ⟩ := jx_a_some hZ
            refine M_iald hx hb hK hP wM_7 c_34 dX12_of_106 ?_
            refine lv_goto (tgt := 131) hx hb dX12_of_107 (by decide) ?_
            exact leave_i hx hb hr hlocks hP hS hZ dX12_of_131
        · have hZ := jx_i_pos c_29 hZ
          refine lv_aload_n hx hb dX12_of_86 rfl (lv_at hl 0 rfl) ?_
          refine gf_12_thingLand hx hb hts in12 hown hK hP (hts (.fieldLink RX12 25 "CoinsOfLastModel" "thingLand" "[I") (List.mem_of_getElem? (i := 3) rfl)) dX12_of_87 ?_
          refine lv_iload_n hx hb dX12_of_90 rfl (lv_at hl 1 rfl) ?_
          obtain ⟨c_35, hZ⟩ := jx_a_some hZ
          refine M_iald hx hb hK hP wM_6 c_35 dX12_of_91 ?_
          refine lv_goto (tgt := 131) hx hb dX12_of_92 (by decide) ?_
          exact leave_i hx hb hr hlocks hP hS hZ dX12_of_131
      · have hZ := jx_i_pos c_28 hZ
        refine lv_iconst (v := (-1 : Int32)) hx hb dX12_of_76 (by decide) ?_
        refine lv_goto (tgt := 131) hx hb dX12_of_77 (by decide) ?_
        exact leave_i hx hb hr hlocks hP hS hZ dX12_of_131
  · have hZ := jx_i_neg c_4 hZ
    refine lv_aload_n hx hb dX12_of_9 rfl (lv_at hl 0 rfl) ?_
    refine lv_iload_n hx hb dX12_of_10 rfl (lv_at hl 1 rfl) ?_
    obtain ⟨r_38, S_36, hc_37, hZ⟩ := jx_b2_some hZ
    refine call_Vi SM_ok sameM ⟨hx, hb, hml, hown, hts⟩ (c_X12_isSort l D q k x1 S_1 _ (r_38, S_36)  hc_37) (cwV 1 hts gX12_of_X12_isSort rfl rfl rfl hd_X12_isSort ⟨Nat.le_of_ble_eq_true rfl, Nat.le_of_ble_eq_true rfl⟩) hK hP hD hS hA hsp (va_recv hK hP (ci := 12) (q0 := 0) rfl wM_0) (As := [.int x1]) rfl hl.1 rfl (Nat.le_of_ble_eq_true rfl) dX12_of_11 ⟨Nat.zero_le _, Nat.zero_le _⟩ (fun H locs hP hD hS => ?_)
    refine lv_if_ne (tgt := 21) hx hb dX12_of_14 (by decide) (fun c_39 => ?_) (fun c_39 => ?_)
    · have hZ := jx_i_neg c_39 hZ
      refine lv_iload_n hx hb dX12_of_21 rfl (lv_at hl 2 rfl) ?_
      refine lv_if_ne (tgt := 34) hx hb dX12_of_22 (by decide) (fun c_40 => ?_) (fun c_40 => ?_)
      · have hZ := jx_i_neg c_40 hZ
        refine lv_iload_n hx hb dX12_of_34 rfl (lv_at hl 2 rfl) ?_
        refine lv_iconst (v := (4 : Int32)) hx hb dX12_of_35 (by decide) ?_
        refine lv_icmp_ne (tgt := 48) hx hb dX12_of_36 (by decide) (fun c_41 => ?_) (fun c_41 => ?_)
        · have hZ := jx_i_neg c_41 hZ
          refine lv_aload_n hx hb dX12_of_48 rfl (lv_at hl 0 rfl) ?_
          refine lv_iload_n hx hb dX12_of_49 rfl (lv_at hl 1 rfl) ?_
          refine lv_iload_n hx hb dX12_of_50 rfl (lv_at hl 2 rfl) ?_
          refine lv_iconst (v := (1 : Int32)) hx hb dX12_of_51 (by decide) ?_
          refine lv_isub hx hb dX12_of_52 ?_
          obtain ⟨r_44, S_42, hc_43, hZ⟩ := jx_b2_some hZ
          refine call_Vi SM_ok sameM ⟨hx, hb, hml, hown, hts⟩ (c_X12_held l D q k x1 (x2 - (1 : Int32)) S_36 _ (r_44, S_42)  hc_43) (cwV 2 hts gX12_of_X12_held rfl rfl rfl hd_X12_held ⟨Nat.le_of_ble_eq_true rfl, Nat.le_of_ble_eq_true rfl⟩) hK hP hD hS hA hsp (va_recv hK hP (ci := 12) (q0 := 0) rfl wM_0) (As := [.int x1, .int (x2 - (1 : Int32))]) rfl hl.1 rfl (Nat.le_of_ble_eq_true rfl) dX12_of_53 ⟨Nat.zero_le _, Nat.zero_le _⟩ (fun H locs hP hD hS => ?_)
          exact leave_i hx hb hr hlocks hP hS hZ dX12_of_56
        · have hZ := jx_i_pos c_41 hZ
          refine lv_aload_n hx hb dX12_of_39 rfl (lv_at hl 0 rfl) ?_
          refine gf_12_purse hx hb hts in12 hown hK hP (hts (.fieldLink RX12 22 "CoinsOfLastModel" "purse" "[I") (List.mem_of_getElem? (i := 2) rfl)) dX12_of_40 ?_
          refine lv_iload_n hx hb dX12_of_43 rfl (lv_at hl 1 rfl) ?_
          obtain ⟨c_45, hZ⟩ := jx_a_some hZ
          refine M_iald hx hb hK hP wM_5 c_45 dX12_of_44 ?_
          refine lv_goto (tgt := 56) hx hb dX12_of_45 (by decide) ?_
          exact leave_i hx hb hr hlocks hP hS hZ dX12_of_56
      · have hZ := jx_i_pos c_40 hZ
        refine lv_aload_n hx hb dX12_of_25 rfl (lv_at hl 0 rfl) ?_
        refine gf_12_landOf hx hb hts in12 hown hK hP (hts (.fieldLink RX12 7 "CoinsOfLastModel" "landOf" "[I") (List.mem_of_getElem? (i := 1) rfl)) dX12_of_26 ?_
        refine lv_iload_n hx hb dX12_of_29 rfl (lv_at hl 1 rfl) ?_
        obtain ⟨c_46, hZ⟩ := jx_a_some hZ
        refine M_iald hx hb hK hP wM_1 c_46 dX12_of_30 ?_
        refine lv_goto (tgt := 56) hx hb dX12_of_31 (by decide) ?_
        exact leave_i hx hb hr hlocks hP hS hZ dX12_of_56
    · have hZ := jx_i_pos c_39 hZ
      refine lv_iconst (v := (-1 : Int32)) hx hb dX12_of_17 (by decide) ?_
      refine lv_goto (tgt := 56) hx hb dX12_of_18 (by decide) ?_
      exact leave_i hx hb hr hlocks hP hS hZ dX12_of_56
-- X12_feed
def f_X12_feed (x1 : Int32) (S : St) : Option (Int32 × St) :=
  jx_b2 (f_X12_in x1 (0 : Int32) (255 : Int32) S) (fun r_3 S_1 => (if r_3 = 0 then some ((-1 : Int32), S_1) else (if (S_1.1 0 18) = (120 : Int32) then some ((-3 : Int32), S_1) else jx_a (S_1.1 0 18) 120 (jx_l (u1 S_1 11 (Int32.toNatClampNeg (S_1.1 0 18)) x1) (fun S_7 => jx_l (u1 S_7 0 18 ((S_7.1 0 18) + (1 : Int32))) (fun S_8 => some ((S_8.1 0 18), S_8)))))))
set_option maxHeartbeats 4000000 in
set_option maxRecDepth 100000 in
theorem c_X12_feed (l : Launch) (D : va_G) (q : Nat → Nat) (k : CI) (x1 : Int32) (S : St) (sz : Nat) (Z : Int32 × St) (hZ : f_X12_feed x1 S = some Z) : MetI W_M SM l yX12_feed wsX12_feed { frames := 1, cells := 0, slots := 0, locals := 22 } [.ref (q 0), .int x1] D q k S sz Z := by
  refine enter (cc := cX12_feed) (maxL := 2) (ret := some .int) (by decide) rfl (Nat.le_of_ble_eq_true rfl) ?_
  intro p e s m below meth c A ls hx hb hr hts hown hlocks hml hP hK hD hA hS hsp hAe hl
  have hown : s.vm.findClass RX12 = some m.cls := hown
  have hl : lv_has ls 2 [(0, .ref (q 0)), (1, .int x1)] := hl
  have in12 : ∀ w ∈ wsX120, w ∈ wsX12_feed := fun _ h => (List.mem_cons_of_mem _ (List.mem_append_right _ h))
  unfold f_X12_feed at hZ
  refine lv_iload_n hx hb dX12_feed_0 rfl (lv_at hl 1 rfl) ?_
  refine lv_iconst (v := (0 : Int32)) hx hb dX12_feed_1 (by decide) ?_
  refine lv_sipush (v := (255 : Int32)) hx hb dX12_feed_2 (by decide) ?_
  obtain ⟨r_3, S_1, hc_2, hZ⟩ := jx_b2_some hZ
  refine call_Si SM_ok sameM ⟨hx, hb, hml, hown, hts⟩ (c_X12_in l D q k x1 (0 : Int32) (255 : Int32) S _ (r_3, S_1)  hc_2) (va_cwS 3 hts gX12_feed_X12_in rfl rfl rfl hd_X12_in ⟨Nat.le_of_ble_eq_true rfl, Nat.le_of_ble_eq_true rfl⟩) hK hP hD hS hA hsp (As := [.int x1, .int (0 : Int32), .int (255 : Int32)]) rfl hl.1 rfl (Nat.le_of_ble_eq_true rfl) dX12_feed_5 ⟨Nat.zero_le _, Nat.zero_le _⟩ (fun H locs hP hD hS => ?_)
  refine lv_if_ne (tgt := 13) hx hb dX12_feed_8 (by decide) (fun c_4 => ?_) (fun c_4 => ?_)
  · have hZ := jx_i_neg c_4 hZ
    refine lv_aload_n hx hb dX12_feed_13 rfl (lv_at hl 0 rfl) ?_
    refine gf_12_taped hx hb hts in12 hown hK hP (hts (.fieldLink RX12 172 "CoinsOfLastModel" "taped" "I") (List.mem_of_getElem? (i := 1) rfl)) dX12_feed_14 ?_
    refine lv_bipush (v := (120 : Int32)) hx hb dX12_feed_17 (by decide) ?_
    refine lv_icmp_ne (tgt := 25) hx hb dX12_feed_19 (by decide) (fun c_5 => ?_) (fun c_5 => ?_)
    · have hZ := jx_i_neg c_5 hZ
      refine lv_aload_n hx hb dX12_feed_25 rfl (lv_at hl 0 rfl) ?_
      refine gf_12_tape hx hb hts in12 hown hK hP (hts (.fieldLink RX12 40 "CoinsOfLastModel" "tape" "[I") (List.mem_of_getElem? (i := 2) rfl)) dX12_feed_26 ?_
      refine lv_aload_n hx hb dX12_feed_29 rfl (lv_at hl 0 rfl) ?_
      refine gf_12_taped hx hb hts in12 hown hK hP (hts (.fieldLink RX12 172 "CoinsOfLastModel" "taped" "I") (List.mem_of_getElem? (i := 1) rfl)) dX12_feed_30 ?_
      refine lv_iload_n hx hb dX12_feed_33 rfl (lv_at hl 1 rfl) ?_
      obtain ⟨c_6, hZ⟩ := jx_a_some hZ
      obtain ⟨S_7, e_S_7, hZ⟩ := jx_l_some hZ
      refine M_iast hx hb hK hP hD hS wM_11 (fun _ => wMs_11) c_6 e_S_7 dX12_feed_34 (fun H locs hP hD hS => ?_)
      refine lv_aload_n hx hb dX12_feed_35 rfl (lv_at hl 0 rfl) ?_
      refine lv_dup hx hb dX12_feed_36 rfl ?_
      refine gf_12_taped hx hb hts in12 hown hK hP (hts (.fieldLink RX12 172 "CoinsOfLastModel" "taped" "I") (List.mem_of_getElem? (i := 1) rfl)) dX12_feed_37 ?_
      refine lv_iconst (v := (1 : Int32)) hx hb dX12_feed_40 (by decide) ?_
      refine lv_iadd hx hb dX12_feed_41 ?_
      obtain ⟨S_8, e_S_8, hZ⟩ := jx_l_some hZ
      refine pf_12_taped hx hb hts in12 hown hK hP hD hS (hts (.fieldLink RX12 172 "CoinsOfLastModel" "taped" "I") (List.mem_of_getElem? (i := 1) rfl)) e_S_8 dX12_feed_42 (fun H locs hP hD hS => ?_)
      refine lv_aload_n hx hb dX12_feed_45 rfl (lv_at hl 0 rfl) ?_
      refine gf_12_taped hx hb hts in12 hown hK hP (hts (.fieldLink RX12 172 "CoinsOfLastModel" "taped" "I") (List.mem_of_getElem? (i := 1) rfl)) dX12_feed_46 ?_
      exact leave_i hx hb hr hlocks hP hS hZ dX12_feed_49
    · have hZ := jx_i_pos c_5 hZ
      refine lv_bipush (v := (-3 : Int32)) hx hb dX12_feed_22 (by decide) ?_
      exact leave_i hx hb hr hlocks hP hS hZ dX12_feed_24
  · have hZ := jx_i_pos c_4 hZ
    refine lv_iconst (v := (-1 : Int32)) hx hb dX12_feed_11 (by decide) ?_
    exact leave_i hx hb hr hlocks hP hS hZ dX12_feed_12
-- X12_sign
def f_X12_sign (S : St) : Option (Int32 × St) :=
  (if (S.1 0 18) ≤ (S.1 0 27) then some ((-1 : Int32), S) else jx_a (S.1 0 27) 120 (some ((S.1 11 (Int32.toNatClampNeg (S.1 0 27))), S)))
set_option maxHeartbeats 4000000 in
set_option maxRecDepth 100000 in
theorem c_X12_sign (l : Launch) (D : va_G) (q : Nat → Nat) (k : CI) (S : St) (sz : Nat) (Z : Int32 × St) (hZ : f_X12_sign S = some Z) : MetI W_M SM l yX12_sign wsX12_sign { frames := 0, cells := 0, slots := 0, locals := 0 } [.ref (q 0)] D q k S sz Z := by
  refine enter (cc := cX12_sign) (maxL := 1) (ret := some .int) (by decide) rfl (Nat.le_of_ble_eq_true rfl) ?_
  intro p e s m below meth c A ls hx hb hr hts hown hlocks hml hP hK hD hA hS hsp hAe hl
  have hown : s.vm.findClass RX12 = some m.cls := hown
  have hl : lv_has ls 1 [(0, .ref (q 0))] := hl
  have in12 : ∀ w ∈ wsX120, w ∈ wsX12_sign := fun _ h => (List.mem_cons_of_mem _ (List.mem_append_right _ h))
  unfold f_X12_sign at hZ
  refine lv_aload_n hx hb dX12_sign_0 rfl (lv_at hl 0 rfl) ?_
  refine gf_12_at0 hx hb hts in12 hown hK hP (hts (.fieldLink RX12 175 "CoinsOfLastModel" "at0" "I") (List.mem_of_getElem? (i := 1) rfl)) dX12_sign_1 ?_
  refine lv_aload_n hx hb dX12_sign_4 rfl (lv_at hl 0 rfl) ?_
  refine gf_12_taped hx hb hts in12 hown hK hP (hts (.fieldLink RX12 172 "CoinsOfLastModel" "taped" "I") (List.mem_of_getElem? (i := 2) rfl)) dX12_sign_5 ?_
  refine lv_icmp_ge (tgt := 23) hx hb dX12_sign_8 (by decide) (fun c_1 => ?_) (fun c_1 => ?_)
  · have hZ := jx_i_pos c_1 hZ
    refine lv_iconst (v := (-1 : Int32)) hx hb dX12_sign_23 (by decide) ?_
    exact leave_i hx hb hr hlocks hP hS hZ dX12_sign_24
  · have hZ := jx_i_neg c_1 hZ
    refine lv_aload_n hx hb dX12_sign_11 rfl (lv_at hl 0 rfl) ?_
    refine gf_12_tape hx hb hts in12 hown hK hP (hts (.fieldLink RX12 40 "CoinsOfLastModel" "tape" "[I") (List.mem_of_getElem? (i := 3) rfl)) dX12_sign_12 ?_
    refine lv_aload_n hx hb dX12_sign_15 rfl (lv_at hl 0 rfl) ?_
    refine gf_12_at0 hx hb hts in12 hown hK hP (hts (.fieldLink RX12 175 "CoinsOfLastModel" "at0" "I") (List.mem_of_getElem? (i := 1) rfl)) dX12_sign_16 ?_
    obtain ⟨c_2, hZ⟩ := jx_a_some hZ
    refine M_iald hx hb hK hP wM_11 c_2 dX12_sign_19 ?_
    refine lv_goto (tgt := 24) hx hb dX12_sign_20 (by decide) ?_
    exact leave_i hx hb hr hlocks hP hS hZ dX12_sign_24
-- X12_code
def f_X12_code (x1 : Int32) (S : St) : Option (St) :=
  jx_a ((256 : Int32) + (S.1 0 28)) 384 (jx_l (u1 S 17 (Int32.toNatClampNeg ((256 : Int32) + (S.1 0 28))) x1) (fun S_2 => jx_l (u1 S_2 0 28 ((S_2.1 0 28) + (1 : Int32))) (fun S_3 => some S_3)))
set_option maxHeartbeats 4000000 in
set_option maxRecDepth 100000 in
theorem c_X12_code (l : Launch) (D : va_G) (q : Nat → Nat) (k : CI) (x1 : Int32) (S : St) (sz : Nat) (Z : St) (hZ : f_X12_code x1 S = some Z) : MetV W_M SM l yX12_code wsX12_code { frames := 0, cells := 0, slots := 0, locals := 0 } [.ref (q 0), .int x1] D q k S sz Z := by
  refine enter (cc := cX12_code) (maxL := 2) (ret := none) (by decide) rfl (Nat.le_of_ble_eq_true rfl) ?_
  intro p e s m below meth c A ls hx hb hr hts hown hlocks hml hP hK hD hA hS hsp hAe hl
  have hown : s.vm.findClass RX12 = some m.cls := hown
  have hl : lv_has ls 2 [(0, .ref (q 0)), (1, .int x1)] := hl
  have in12 : ∀ w ∈ wsX120, w ∈ wsX12_code := fun _ h => (List.mem_cons_of_mem _ (List.mem_append_right _ h))
  unfold f_X12_code at hZ
  refine lv_aload_n hx hb dX12_code_0 rfl (lv_at hl 0 rfl) ?_
  refine gf_12_codes hx hb hts in12 hown hK hP (hts (.fieldLink RX12 58 "CoinsOfLastModel" "codes" "[I") (List.mem_of_getElem? (i := 1) rfl)) dX12_code_1 ?_
  refine lv_sipush (v := (256 : Int32)) hx hb dX12_code_4 (by decide) ?_
  refine lv_aload_n hx hb dX12_code_7 rfl (lv_at hl 0 rfl) ?_
  refine gf_12_coded hx hb hts in12 hown hK hP (hts (.fieldLink RX12 178 "CoinsOfLastModel" "coded" "I") (List.mem_of_getElem? (i := 2) rfl)) dX12_code_8 ?_
  refine lv_iadd hx hb dX12_code_11 ?_
  refine lv_iload_n hx hb dX12_code_12 rfl (lv_at hl 1 rfl) ?_
  obtain ⟨c_1, hZ⟩ := jx_a_some hZ
  obtain ⟨S_2, e_S_2, hZ⟩ := jx_l_some hZ
  refine M_iast hx hb hK hP hD hS wM_17 (fun _ => wMs_17) c_1 e_S_2 dX12_code_13 (fun H locs hP hD hS => ?_)
  refine lv_aload_n hx hb dX12_code_14 rfl (lv_at hl 0 rfl) ?_
  refine lv_dup hx hb dX12_code_15 rfl ?_
  refine gf_12_coded hx hb hts in12 hown hK hP (hts (.fieldLink RX12 178 "CoinsOfLastModel" "coded" "I") (List.mem_of_getElem? (i := 2) rfl)) dX12_code_16 ?_
  refine lv_iconst (v := (1 : Int32)) hx hb dX12_code_19 (by decide) ?_
  refine lv_iadd hx hb dX12_code_20 ?_
  obtain ⟨S_3, e_S_3, hZ⟩ := jx_l_some hZ
  refine pf_12_coded hx hb hts in12 hown hK hP hD hS (hts (.fieldLink RX12 178 "CoinsOfLastModel" "coded" "I") (List.mem_of_getElem? (i := 2) rfl)) e_S_3 dX12_code_21 (fun H locs hP hD hS => ?_)
  exact leave_v hx hb hr hlocks hP hS hZ dX12_code_24
-- X12_nameOf
def f_X12_nameOf (x0 : Int32) (S : St) : Option (Int32 × St) :=
  (if x0 = (97 : Int32) then some ((0 : Int32), S) else (if x0 = (98 : Int32) then some ((1 : Int32), S) else (if x0 = (100 : Int32) then some ((2 : Int32), S) else (if x0 = (119 : Int32) then some ((3 : Int32), S) else (if x0 = (108 : Int32) then some ((4 : Int32), S) else (if x0 = (115 : Int32) then some ((5 : Int32), S) else (if x0 = (121 : Int32) then some ((6 : Int32), S) else some ((-1 : Int32), S))))))))
set_option maxHeartbeats 4000000 in
set_option maxRecDepth 100000 in
theorem c_X12_nameOf (l : Launch) (D : va_G) (q : Nat → Nat) (k : CI) (x0 : Int32) (S : St) (sz : Nat) (Z : Int32 × St) (hZ : f_X12_nameOf x0 S = some Z) : MetI W_M SM l yX12_nameOf wsX12_nameOf { frames := 0, cells := 0, slots := 0, locals := 0 } [.int x0] D q k S sz Z := by
  refine enter (cc := cX12_nameOf) (maxL := 1) (ret := some .int) (by decide) rfl (Nat.le_of_ble_eq_true rfl) ?_
  intro p e s m below meth c A ls hx hb hr hts hown hlocks hml hP hK hD hA hS hsp hAe hl
  have hown : s.vm.findClass RX12 = some m.cls := hown
  have hl : lv_has ls 1 [(0, .int x0)] := hl
  unfold f_X12_nameOf at hZ
  refine lv_iload_n hx hb dX12_nameOf_0 rfl (lv_at hl 0 rfl) ?_
  refine lv_bipush (v := (97 : Int32)) hx hb dX12_nameOf_1 (by decide) ?_
  refine lv_icmp_ne (tgt := 10) hx hb dX12_nameOf_3 (by decide) (fun c_1 => ?_) (fun c_1 => ?_)
  · have hZ := jx_i_neg c_1 hZ
    refine lv_iload_n hx hb dX12_nameOf_10 rfl (lv_at hl 0 rfl) ?_
    refine lv_bipush (v := (98 : Int32)) hx hb dX12_nameOf_11 (by decide) ?_
    refine lv_icmp_ne (tgt := 20) hx hb dX12_nameOf_13 (by decide) (fun c_2 => ?_) (fun c_2 => ?_)
    · have hZ := jx_i_neg c_2 hZ
      refine lv_iload_n hx hb dX12_nameOf_20 rfl (lv_at hl 0 rfl) ?_
      refine lv_bipush (v := (100 : Int32)) hx hb dX12_nameOf_21 (by decide) ?_
      refine lv_icmp_ne (tgt := 30) hx hb dX12_nameOf_23 (by decide) (fun c_3 => ?_) (fun c_3 => ?_)
      · have hZ := jx_i_neg c_3 hZ
        refine lv_iload_n hx hb dX12_nameOf_30 rfl (lv_at hl 0 rfl) ?_
        refine lv_bipush (v := (119 : Int32)) hx hb dX12_nameOf_31 (by decide) ?_
        refine lv_icmp_ne (tgt := 40) hx hb dX12_nameOf_33 (by decide) (fun c_4 => ?_) (fun c_4 => ?_)
        · have hZ := jx_i_neg c_4 hZ
          refine lv_iload_n hx hb dX12_nameOf_40 rfl (lv_at hl 0 rfl) ?_
          refine lv_bipush (v := (108 : Int32)) hx hb dX12_nameOf_41 (by decide) ?_
          refine lv_icmp_ne (tgt := 50) hx hb dX12_nameOf_43 (by decide) (fun c_5 => ?_) (fun c_5 => ?_)
          · have hZ := jx_i_neg c_5 hZ
            refine lv_iload_n hx hb dX12_nameOf_50 rfl (lv_at hl 0 rfl) ?_
            refine lv_bipush (v := (115 : Int32)) hx hb dX12_nameOf_51 (by decide) ?_
            refine lv_icmp_ne (tgt := 60) hx hb dX12_nameOf_53 (by decide) (fun c_6 => ?_) (fun c_6 => ?_)
            · have hZ := jx_i_neg c_6 hZ
              refine lv_iload_n hx hb dX12_nameOf_60 rfl (lv_at hl 0 rfl) ?_
              refine lv_bipush (v := (121 : Int32)) hx hb dX12_nameOf_61 (by decide) ?_
              refine lv_icmp_ne (tgt := 71) hx hb dX12_nameOf_63 (by decide) (fun c_7 => ?_) (fun c_7 => ?_)
              · have hZ := jx_i_neg c_7 hZ
                refine lv_iconst (v := (-1 : Int32)) hx hb dX12_nameOf_71 (by decide) ?_
                exact leave_i hx hb hr hlocks hP hS hZ dX12_nameOf_72
              · have hZ := jx_i_pos c_7 hZ
                refine lv_bipush (v := (6 : Int32)) hx hb dX12_nameOf_66 (by decide) ?_
                refine lv_goto (tgt := 72) hx hb dX12_nameOf_68 (by decide) ?_
                exact leave_i hx hb hr hlocks hP hS hZ dX12_nameOf_72
            · have hZ := jx_i_pos c_6 hZ
              refine lv_iconst (v := (5 : Int32)) hx hb dX12_nameOf_56 (by decide) ?_
              refine lv_goto (tgt := 72) hx hb dX12_nameOf_57 (by decide) ?_
              exact leave_i hx hb hr hlocks hP hS hZ dX12_nameOf_72
          · have hZ := jx_i_pos c_5 hZ
            refine lv_iconst (v := (4 : Int32)) hx hb dX12_nameOf_46 (by decide) ?_
            refine lv_goto (tgt := 72) hx hb dX12_nameOf_47 (by decide) ?_
            exact leave_i hx hb hr hlocks hP hS hZ dX12_nameOf_72
        · have hZ := jx_i_pos c_4 hZ
          refine lv_iconst (v := (3 : Int32)) hx hb dX12_nameOf_36 (by decide) ?_
          refine lv_goto (tgt := 72) hx hb dX12_nameOf_37 (by decide) ?_
          exact leave_i hx hb hr hlocks hP hS hZ dX12_nameOf_72
      · have hZ := jx_i_pos c_3 hZ
        refine lv_iconst (v := (2 : Int32)) hx hb dX12_nameOf_26 (by decide) ?_
        refine lv_goto (tgt := 72) hx hb dX12_nameOf_27 (by decide) ?_
        exact leave_i hx hb hr hlocks hP hS hZ dX12_nameOf_72
    · have hZ := jx_i_pos c_2 hZ
      refine lv_iconst (v := (1 : Int32)) hx hb dX12_nameOf_16 (by decide) ?_
      refine lv_goto (tgt := 72) hx hb dX12_nameOf_17 (by decide) ?_
      exact leave_i hx hb hr hlocks hP hS hZ dX12_nameOf_72
  · have hZ := jx_i_pos c_1 hZ
    refine lv_iconst (v := (0 : Int32)) hx hb dX12_nameOf_6 (by decide) ?_
    refine lv_goto (tgt := 72) hx hb dX12_nameOf_7 (by decide) ?_
    exact leave_i hx hb hr hlocks hP hS hZ dX12_nameOf_72
-- X12_opOf
def f_X12_opOf (x0 : Int32) (S : St) : Option (Int32 × St) :=
  (if x0 = (124 : Int32) then some ((1 : Int32), S) else (if x0 = (38 : Int32) then some ((2 : Int32), S) else (if x0 = (60 : Int32) then some ((3 : Int32), S) else (if x0 = (61 : Int32) then some ((4 : Int32), S) else (if x0 = (62 : Int32) then some ((5 : Int32), S) else (if x0 = (43 : Int32) then some ((6 : Int32), S) else (if x0 = (45 : Int32) then some ((7 : Int32), S) else (if x0 = (42 : Int32) then some ((8 : Int32), S) else (if x0 = (47 : Int32) then some ((9 : Int32), S) else (if x0 = (37 : Int32) then some ((10 : Int32), S) else some ((0 : Int32), S)))))))))))
set_option maxHeartbeats 4000000 in
set_option maxRecDepth 100000 in
theorem c_X12_opOf (l : Launch) (D : va_G) (q : Nat → Nat) (k : CI) (x0 : Int32) (S : St) (sz : Nat) (Z : Int32 × St) (hZ : f_X12_opOf x0 S = some Z) : MetI W_M SM l yX12_opOf wsX12_opOf { frames := 0, cells := 0, slots := 0, locals := 0 } [.int x0] D q k S sz Z := by
  refine enter (cc := cX12_opOf) (maxL := 1) (ret := some .int) (by decide) rfl (Nat.le_of_ble_eq_true rfl) ?_
  intro p e s m below meth c A ls hx hb hr hts hown hlocks hml hP hK hD hA hS hsp hAe hl
  have hown : s.vm.findClass RX12 = some m.cls := hown
  have hl : lv_has ls 1 [(0, .int x0)] := hl
  unfold f_X12_opOf at hZ
  refine lv_iload_n hx hb dX12_opOf_0 rfl (lv_at hl 0 rfl) ?_
  refine lv_bipush (v := (124 : Int32)) hx hb dX12_opOf_1 (by decide) ?_
  refine lv_icmp_ne (tgt := 10) hx hb dX12_opOf_3 (by decide) (fun c_1 => ?_) (fun c_1 => ?_)
  · have hZ := jx_i_neg c_1 hZ
    refine lv_iload_n hx hb dX12_opOf_10 rfl (lv_at hl 0 rfl) ?_
    refine lv_bipush (v := (38 : Int32)) hx hb dX12_opOf_11 (by decide) ?_
    refine lv_icmp_ne (tgt := 20) hx hb dX12_opOf_13 (by decide) (fun c_2 => ?_) (fun c_2 => ?_)
    · have hZ := jx_i_neg c_2 hZ
      refine lv_iload_n hx hb dX12_opOf_20 rfl (lv_at hl 0 rfl) ?_
      refine lv_bipush (v := (60 : Int32)) hx hb dX12_opOf_21 (by decide) ?_
      refine lv_icmp_ne (tgt := 30) hx hb dX12_opOf_23 (by decide) (fun c_3 => ?_) (fun c_3 => ?_)
      · have hZ := jx_i_neg c_3 hZ
        refine lv_iload_n hx hb dX12_opOf_30 rfl (lv_at hl 0 rfl) ?_
        refine lv_bipush (v := (61 : Int32)) hx hb dX12_opOf_31 (by decide) ?_
        refine lv_icmp_ne (tgt := 40) hx hb dX12_opOf_33 (by decide) (fun c_4 => ?_) (fun c_4 => ?_)
        · have hZ := jx_i_neg c_4 hZ
          refine lv_iload_n hx hb dX12_opOf_40 rfl (lv_at hl 0 rfl) ?_
          refine lv_bipush (v := (62 : Int32)) hx hb dX12_opOf_41 (by decide) ?_
          refine lv_icmp_ne (tgt := 50) hx hb dX12_opOf_43 (by decide) (fun c_5 => ?_) (fun c_5 => ?_)
          · have hZ := jx_i_neg c_5 hZ
            refine lv_iload_n hx hb dX12_opOf_50 rfl (lv_at hl 0 rfl) ?_
            refine lv_bipush (v := (43 : Int32)) hx hb dX12_opOf_51 (by decide) ?_
            refine lv_icmp_ne (tgt := 61) hx hb dX12_opOf_53 (by decide) (fun c_6 => ?_) (fun c_6 => ?_)
            · have hZ := jx_i_neg c_6 hZ
              refine lv_iload_n hx hb dX12_opOf_61 rfl (lv_at hl 0 rfl) ?_
              refine lv_bipush (v := (45 : Int32)) hx hb dX12_opOf_62 (by decide) ?_
              refine lv_icmp_ne (tgt := 72) hx hb dX12_opOf_64 (by decide) (fun c_7 => ?_) (fun c_7 => ?_)
              · have hZ := jx_i_neg c_7 hZ
                refine lv_iload_n hx hb dX12_opOf_72 rfl (lv_at hl 0 rfl) ?_
                refine lv_bipush (v := (42 : Int32)) hx hb dX12_opOf_73 (by decide) ?_
                refine lv_icmp_ne (tgt := 83) hx hb dX12_opOf_75 (by decide) (fun c_8 => ?_) (fun c_8 => ?_)
                · have hZ := jx_i_neg c_8 hZ
                  refine lv_iload_n hx hb dX12_opOf_83 rfl (lv_at hl 0 rfl) ?_
                  refine lv_bipush (v := (47 : Int32)) hx hb dX12_opOf_84 (by decide) ?_
                  refine lv_icmp_ne (tgt := 94) hx hb dX12_opOf_86 (by decide) (fun c_9 => ?_) (fun c_9 => ?_)
                  · have hZ := jx_i_neg c_9 hZ
                    refine lv_iload_n hx hb dX12_opOf_94 rfl (lv_at hl 0 rfl) ?_
                    refine lv_bipush (v := (37 : Int32)) hx hb dX12_opOf_95 (by decide) ?_
                    refine lv_icmp_ne (tgt := 105) hx hb dX12_opOf_97 (by decide) (fun c_10 => ?_) (fun c_10 => ?_)
                    · have hZ := jx_i_neg c_10 hZ
                      refine lv_iconst (v := (0 : Int32)) hx hb dX12_opOf_105 (by decide) ?_
                      exact leave_i hx hb hr hlocks hP hS hZ dX12_opOf_106
                    · have hZ := jx_i_pos c_10 hZ
                      refine lv_bipush (v := (10 : Int32)) hx hb dX12_opOf_100 (by decide) ?_
                      refine lv_goto (tgt := 106) hx hb dX12_opOf_102 (by decide) ?_
                      exact leave_i hx hb hr hlocks hP hS hZ dX12_opOf_106
                  · have hZ := jx_i_pos c_9 hZ
                    refine lv_bipush (v := (9 : Int32)) hx hb dX12_opOf_89 (by decide) ?_
                    refine lv_goto (tgt := 106) hx hb dX12_opOf_91 (by decide) ?_
                    exact leave_i hx hb hr hlocks hP hS hZ dX12_opOf_106
                · have hZ := jx_i_pos c_8 hZ
                  refine lv_bipush (v := (8 : Int32)) hx hb dX12_opOf_78 (by decide) ?_
                  refine lv_goto (tgt := 106) hx hb dX12_opOf_80 (by decide) ?_
                  exact leave_i hx hb hr hlocks hP hS hZ dX12_opOf_106
              · have hZ := jx_i_pos c_7 hZ
                refine lv_bipush (v := (7 : Int32)) hx hb dX12_opOf_67 (by decide) ?_
                refine lv_goto (tgt := 106) hx hb dX12_opOf_69 (by decide) ?_
                exact leave_i hx hb hr hlocks hP hS hZ dX12_opOf_106
            · have hZ := jx_i_pos c_6 hZ
              refine lv_bipush (v := (6 : Int32)) hx hb dX12_opOf_56 (by decide) ?_
              refine lv_goto (tgt := 106) hx hb dX12_opOf_58 (by decide) ?_
              exact leave_i hx hb hr hlocks hP hS hZ dX12_opOf_106
          · have hZ := jx_i_pos c_5 hZ
            refine lv_iconst (v := (5 : Int32)) hx hb dX12_opOf_46 (by decide) ?_
            refine lv_goto (tgt := 106) hx hb dX12_opOf_47 (by decide) ?_
            exact leave_i hx hb hr hlocks hP hS hZ dX12_opOf_106
        · have hZ := jx_i_pos c_4 hZ
          refine lv_iconst (v := (4 : Int32)) hx hb dX12_opOf_36 (by decide) ?_
          refine lv_goto (tgt := 106) hx hb dX12_opOf_37 (by decide) ?_
          exact leave_i hx hb hr hlocks hP hS hZ dX12_opOf_106
      · have hZ := jx_i_pos c_3 hZ
        refine lv_iconst (v := (3 : Int32)) hx hb dX12_opOf_26 (by decide) ?_
        refine lv_goto (tgt := 106) hx hb dX12_opOf_27 (by decide) ?_
        exact leave_i hx hb hr hlocks hP hS hZ dX12_opOf_106
    · have hZ := jx_i_pos c_2 hZ
      refine lv_iconst (v := (2 : Int32)) hx hb dX12_opOf_16 (by decide) ?_
      refine lv_goto (tgt := 106) hx hb dX12_opOf_17 (by decide) ?_
      exact leave_i hx hb hr hlocks hP hS hZ dX12_opOf_106
  · have hZ := jx_i_pos c_1 hZ
    refine lv_iconst (v := (1 : Int32)) hx hb dX12_opOf_6 (by decide) ?_
    refine lv_goto (tgt := 106) hx hb dX12_opOf_7 (by decide) ?_
    exact leave_i hx hb hr hlocks hP hS hZ dX12_opOf_106
-- X12_binds
def f_X12_binds (x0 : Int32) (S : St) : Option (Int32 × St) :=
  (if (2 : Int32) < x0 then (if (5 : Int32) < x0 then (if (7 : Int32) < x0 then (if (10 : Int32) < x0 then some ((6 : Int32), S) else some ((5 : Int32), S)) else some ((4 : Int32), S)) else some ((3 : Int32), S)) else some (x0, S))
set_option maxHeartbeats 4000000 in
set_option maxRecDepth 100000 in
theorem c_X12_binds (l : Launch) (D : va_G) (q : Nat → Nat) (k : CI) (x0 : Int32) (S : St) (sz : Nat) (Z : Int32 × St) (hZ : f_X12_binds x0 S = some Z) : MetI W_M SM l yX12_binds wsX12_binds { frames := 0, cells := 0, slots := 0, locals := 0 } [.int x0] D q k S sz Z := by
  refine enter (cc := cX12_binds) (maxL := 1) (ret := some .int) (by decide) rfl (Nat.le_of_ble_eq_true rfl) ?_
  intro p e s m below meth c A ls hx hb hr hts hown hlocks hml hP hK hD hA hS hsp hAe hl
  have hown : s.vm.findClass RX12 = some m.cls := hown
  have hl : lv_has ls 1 [(0, .int x0)] := hl
  unfold f_X12_binds at hZ
  refine lv_iload_n hx hb dX12_binds_0 rfl (lv_at hl 0 rfl) ?_
  refine lv_iconst (v := (2 : Int32)) hx hb dX12_binds_1 (by decide) ?_
  refine lv_icmp_gt (tgt := 9) hx hb dX12_binds_2 (by decide) (fun c_1 => ?_) (fun c_1 => ?_)
  · have hZ := jx_i_pos c_1 hZ
    refine lv_iload_n hx hb dX12_binds_9 rfl (lv_at hl 0 rfl) ?_
    refine lv_iconst (v := (5 : Int32)) hx hb dX12_binds_10 (by decide) ?_
    refine lv_icmp_gt (tgt := 18) hx hb dX12_binds_11 (by decide) (fun c_2 => ?_) (fun c_2 => ?_)
    · have hZ := jx_i_pos c_2 hZ
      refine lv_iload_n hx hb dX12_binds_18 rfl (lv_at hl 0 rfl) ?_
      refine lv_bipush (v := (7 : Int32)) hx hb dX12_binds_19 (by decide) ?_
      refine lv_icmp_gt (tgt := 28) hx hb dX12_binds_21 (by decide) (fun c_3 => ?_) (fun c_3 => ?_)
      · have hZ := jx_i_pos c_3 hZ
        refine lv_iload_n hx hb dX12_binds_28 rfl (lv_at hl 0 rfl) ?_
        refine lv_bipush (v := (10 : Int32)) hx hb dX12_binds_29 (by decide) ?_
        refine lv_icmp_gt (tgt := 38) hx hb dX12_binds_31 (by decide) (fun c_4 => ?_) (fun c_4 => ?_)
        · have hZ := jx_i_pos c_4 hZ
          refine lv_bipush (v := (6 : Int32)) hx hb dX12_binds_38 (by decide) ?_
          exact leave_i hx hb hr hlocks hP hS hZ dX12_binds_40
        · have hZ := jx_i_neg c_4 hZ
          refine lv_iconst (v := (5 : Int32)) hx hb dX12_binds_34 (by decide) ?_
          refine lv_goto (tgt := 40) hx hb dX12_binds_35 (by decide) ?_
          exact leave_i hx hb hr hlocks hP hS hZ dX12_binds_40
      · have hZ := jx_i_neg c_3 hZ
        refine lv_iconst (v := (4 : Int32)) hx hb dX12_binds_24 (by decide) ?_
        refine lv_goto (tgt := 40) hx hb dX12_binds_25 (by decide) ?_
        exact leave_i hx hb hr hlocks hP hS hZ dX12_binds_40
    · have hZ := jx_i_neg c_2 hZ
      refine lv_iconst (v := (3 : Int32)) hx hb dX12_binds_14 (by decide) ?_
      refine lv_goto (tgt := 40) hx hb dX12_binds_15 (by decide) ?_
      exact leave_i hx hb hr hlocks hP hS hZ dX12_binds_40
  · have hZ := jx_i_neg c_1 hZ
    refine lv_iload_n hx hb dX12_binds_5 rfl (lv_at hl 0 rfl) ?_
    refine lv_goto (tgt := 40) hx hb dX12_binds_6 (by decide) ?_
    exact leave_i hx hb hr hlocks hP hS hZ dX12_binds_40
theorem hd_X12_binds : yX12_binds.cls ≠ "java/lang/invoke/MethodHandle" ∧ yX12_binds.cls ≠ "java/lang/invoke/VarHandle" ∧ (parseMethodDescriptor yX12_binds.desc).map (fun d => d.parameters.length) = some 1 := by decide +kernel
theorem hd_X12_code : yX12_code.cls = RX12 ∧ yX12_code.cls ≠ "java/lang/invoke/MethodHandle" ∧ yX12_code.cls ≠ "java/lang/invoke/VarHandle" ∧ (parseMethodDescriptor yX12_code.desc).map (fun d => d.parameters.length) = some 1 := by decide +kernel
-- X12_unwinds
def f_X12_unwinds_97 (S_3 : St) : Option (St) :=
  some S_3
def f_X12_unwinds_65i0 (x1 : Int32) (s1_18 : Int32) (s2_18 : Int32) (S_18 : St) : Option ((St) ⊕ (St)) :=
  jx_l (u1 S_18 0 31 (s1_18 - s2_18)) (fun S_19 => jx_a ((S_19.1 0 30) - (1 : Int32)) 128 (jx_b (f_X12_code (S_19.1 18 (Int32.toNatClampNeg ((S_19.1 0 30) - (1 : Int32)))) S_19) (fun S_21 => jx_l (u1 S_21 0 30 ((S_21.1 0 30) - (1 : Int32))) (fun S_23 => some (.inl S_23)))))
def b_X12_unwinds_0 (x1 : Int32) (S : St) : Option ((St) ⊕ (St)) :=
  (if (S.1 0 30) ≤ 0 then some (.inr S) else jx_a ((S.1 0 30) - (1 : Int32)) 128 ((if (S.1 18 (Int32.toNatClampNeg ((S.1 0 30) - (1 : Int32)))) = 0 then some (.inr S) else jx_a ((S.1 0 30) - (1 : Int32)) 128 (jx_b2 (f_X12_binds (S.1 18 (Int32.toNatClampNeg ((S.1 0 30) - (1 : Int32)))) S) (fun r_13 S_11 => (if r_13 < x1 then some (.inr S_11) else jx_a ((S_11.1 0 30) - (1 : Int32)) 128 ((if (S_11.1 18 (Int32.toNatClampNeg ((S_11.1 0 30) - (1 : Int32)))) ≤ (10 : Int32) then f_X12_unwinds_65i0 x1 (S_11.1 0 31) (0 : Int32) S_11 else f_X12_unwinds_65i0 x1 (S_11.1 0 31) (1 : Int32) S_11))))))))
def g_X12_unwinds_0 (x1 : Int32) : St → Option ((St) ⊕ (St)) := fun z => b_X12_unwinds_0 x1 z
def f_X12_unwinds (x1 : Int32) (S : St) : Option (St) :=
  jx_b (jx_w (g_X12_unwinds_0 x1) FU S) (fun z => f_X12_unwinds_97 z)
set_option maxHeartbeats 4000000 in
set_option maxRecDepth 100000 in
theorem c_X12_unwinds (l : Launch) (D : va_G) (q : Nat → Nat) (k : CI) (x1 : Int32) (S : St) (sz : Nat) (Z : St) (hZ : f_X12_unwinds x1 S = some Z) : MetV W_M SM l yX12_unwinds wsX12_unwinds { frames := 1, cells := 0, slots := 0, locals := 21 } [.ref (q 0), .int x1] D q k S sz Z := by
  refine enter (cc := cX12_unwinds) (maxL := 2) (ret := none) (by decide) rfl (Nat.le_of_ble_eq_true rfl) ?_
  intro p e s m below meth c A ls hx hb hr hts hown hlocks hml hP hK hD hA hS hsp hAe hl
  have hown : s.vm.findClass RX12 = some m.cls := hown
  have hl : lv_has ls 2 [(0, .ref (q 0)), (1, .int x1)] := hl
  have in12 : ∀ w ∈ wsX120, w ∈ wsX12_unwinds := fun _ h => (List.mem_cons_of_mem _ (List.mem_append_right _ h))
  have j97 : ∀ (S_3 : St)  (H : Heap) (locs : List Loc) (hZ : f_X12_unwinds_97 S_3 = some Z) (hP : va_P D vwCl (W_M q k S_3) H) (hD : va_D A (W_M q k S_3)) (hS : va_S A s.heap H locs) (ls : Array Slot) (hl : lv_has ls 2 []), W p l e ({ frames := 1, cells := 0, slots := 0, locals := 21 } : Room) s m ([.ref (q 0), .int x1] : List Value).toArray below meth c H locs 0 0 (MQ below (va_Qv (fun u => u = Z) (fun u t => va_P D vwCl (W_M q k u) t.heap) A) ([.ref (q 0), .int x1] : List Value).toArray s 0 0 A) (F0 m 97 ls []) := by
    intro S_3   H locs hZ hP hD hS ls hl
    unfold f_X12_unwinds_97 at hZ
    exact leave_v hx hb hr hlocks hP hS hZ dX12_unwinds_97
  unfold f_X12_unwinds at hZ
  obtain ⟨r_2, hw, hza_2⟩ := jx_b_some hZ
  have l_2 : ∀ (nn : Nat) (S_1 : St) (H : Heap) (locs : List Loc) (hw : jx_w (g_X12_unwinds_0 x1) nn S_1 = some r_2) (hP : va_P D vwCl (W_M q k S_1) H) (hD : va_D A (W_M q k S_1)) (hS : va_S A s.heap H locs) (ls : Array Slot) (hl : lv_has ls 2 [(0, .ref (q 0)), (1, .int x1)]), W p l e ({ frames := 1, cells := 0, slots := 0, locals := 21 } : Room) s m ([.ref (q 0), .int x1] : List Value).toArray below meth c H locs 0 0 (MQ below (va_Qv (fun u => u = Z) (fun u t => va_P D vwCl (W_M q k u) t.heap) A) ([.ref (q 0), .int x1] : List Value).toArray s 0 0 A) (F0 m 0 ls []) := by
    intro nn
    induction nn with
    | zero =>
      intro S_1 H locs hw hP hD hS ls hl
      exact jx_w_zero hw
    | succ n_2 ih_2 =>
      intro S_1 H locs hw hP hD hS ls hl
      obtain ⟨o_2, hZ, hk_2⟩ := jx_w_succ hw
      have hZ : b_X12_unwinds_0 x1 S_1 = some o_2 := hZ
      have j65i0 : ∀ (s1_39 : Int32) (s2_39 : Int32) (S_39 : St)  (o_2 : (St) ⊕ (St)) (hk_2 : jx_k (g_X12_unwinds_0 x1) n_2 r_2 o_2) (H : Heap) (locs : List Loc) (hZ : f_X12_unwinds_65i0 x1 s1_39 s2_39 S_39 = some o_2) (hP : va_P D vwCl (W_M q k S_39) H) (hD : va_D A (W_M q k S_39)) (hS : va_S A s.heap H locs) (ls : Array Slot) (hl : lv_has ls 2 [(0, .ref (q 0)), (1, .int x1)]), W p l e ({ frames := 1, cells := 0, slots := 0, locals := 21 } : Room) s m ([.ref (q 0), .int x1] : List Value).toArray below meth c H locs 0 0 (MQ below (va_Qv (fun u => u = Z) (fun u t => va_P D vwCl (W_M q k u) t.heap) A) ([.ref (q 0), .int x1] : List Value).toArray s 0 0 A) (F0 m 65 ls [.int s2_39, .int s1_39, .ref (q 0)]) := by
        intro s1_39 s2_39 S_39  o_2 hk_2 H locs hZ hP hD hS ls hl
        unfold f_X12_unwinds_65i0 at hZ
        refine lv_isub hx hb dX12_unwinds_65 ?_
        obtain ⟨S_40, e_S_40, hZ⟩ := jx_l_some hZ
        refine pf_12_opened hx hb hts in12 hown hK hP hD hS (hts (.fieldLink RX12 187 "CoinsOfLastModel" "opened" "I") (List.mem_of_getElem? (i := 3) rfl)) e_S_40 dX12_unwinds_66 (fun H locs hP hD hS => ?_)
        refine lv_aload_n hx hb dX12_unwinds_69 rfl (lv_at hl 0 rfl) ?_
        refine lv_aload_n hx hb dX12_unwinds_70 rfl (lv_at hl 0 rfl) ?_
        refine gf_12_ops hx hb hts in12 hown hK hP (hts (.fieldLink RX12 61 "CoinsOfLastModel" "ops" "[I") (List.mem_of_getElem? (i := 2) rfl)) dX12_unwinds_71 ?_
        refine lv_aload_n hx hb dX12_unwinds_74 rfl (lv_at hl 0 rfl) ?_
        refine gf_12_opMany hx hb hts in12 hown hK hP (hts (.fieldLink RX12 181 "CoinsOfLastModel" "opMany" "I") (List.mem_of_getElem? (i := 1) rfl)) dX12_unwinds_75 ?_
        refine lv_iconst (v := (1 : Int32)) hx hb dX12_unwinds_78 (by decide) ?_
        refine lv_isub hx hb dX12_unwinds_79 ?_
        obtain ⟨c_41, hZ⟩ := jx_a_some hZ
        refine M_iald hx hb hK hP wM_18 c_41 dX12_unwinds_80 ?_
        obtain ⟨S_42, hc_43, hZ⟩ := jx_b_some hZ
        refine call_Vv SM_ok sameM ⟨hx, hb, hml, hown, hts⟩ (c_X12_code l D q k (S_40.1 18 (Int32.toNatClampNeg ((S_40.1 0 30) - (1 : Int32)))) S_40 _ S_42  hc_43) (cwV 1 hts gX12_unwinds_X12_code rfl rfl rfl hd_X12_code ⟨Nat.le_of_ble_eq_true rfl, Nat.le_of_ble_eq_true rfl⟩) hK hP hD hS hA hsp (va_recv hK hP (ci := 12) (q0 := 0) rfl wM_0) (As := [.int (S_40.1 18 (Int32.toNatClampNeg ((S_40.1 0 30) - (1 : Int32))))]) rfl hl.1 rfl (Nat.le_of_ble_eq_true rfl) dX12_unwinds_81 ⟨Nat.zero_le _, Nat.zero_le _⟩ (fun H locs hP hD hS => ?_)
        refine lv_aload_n hx hb dX12_unwinds_84 rfl (lv_at hl 0 rfl) ?_
        refine lv_dup hx hb dX12_unwinds_85 rfl ?_
        refine gf_12_opMany hx hb hts in12 hown hK hP (hts (.fieldLink RX12 181 "CoinsOfLastModel" "opMany" "I") (List.mem_of_getElem? (i := 1) rfl)) dX12_unwinds_86 ?_
        refine lv_iconst (v := (1 : Int32)) hx hb dX12_unwinds_89 (by decide) ?_
        refine lv_isub hx hb dX12_unwinds_90 ?_
        obtain ⟨S_44, e_S_44, hZ⟩ := jx_l_some hZ
        refine pf_12_opMany hx hb hts in12 hown hK hP hD hS (hts (.fieldLink RX12 181 "CoinsOfLastModel" "opMany" "I") (List.mem_of_getElem? (i := 1) rfl)) e_S_44 dX12_unwinds_91 (fun H locs hP hD hS => ?_)
        refine lv_goto (tgt := 0) hx hb dX12_unwinds_94 (by decide) ?_
        have ho := Option.some.inj hZ
        subst ho
        exact ih_2 S_44 _ _ hk_2 hP hD hS _ (lv_sub hl [0, 1] rfl)
      unfold b_X12_unwinds_0 at hZ
      refine lv_aload_n hx hb dX12_unwinds_0 rfl (lv_at hl 0 rfl) ?_
      refine gf_12_opMany hx hb hts in12 hown hK hP (hts (.fieldLink RX12 181 "CoinsOfLastModel" "opMany" "I") (List.mem_of_getElem? (i := 1) rfl)) dX12_unwinds_1 ?_
      refine lv_if_le (tgt := 97) hx hb dX12_unwinds_4 (by decide) (fun c_26 => ?_) (fun c_26 => ?_)
      · have hZ := jx_i_pos c_26 hZ
        have ho := Option.some.inj hZ
        subst ho
        have hE := hza_2
        rw [← (show S_1 = r_2 from hk_2)] at hE
        have hZ : f_X12_unwinds_97 S_1 = some Z := hE
        exact j97 S_1 _ _ hZ hP hD hS _ (lv_sub hl [] rfl)
      · have hZ := jx_i_neg c_26 hZ
        refine lv_aload_n hx hb dX12_unwinds_7 rfl (lv_at hl 0 rfl) ?_
        refine gf_12_ops hx hb hts in12 hown hK hP (hts (.fieldLink RX12 61 "CoinsOfLastModel" "ops" "[I") (List.mem_of_getElem? (i := 2) rfl)) dX12_unwinds_8 ?_
        refine lv_aload_n hx hb dX12_unwinds_11 rfl (lv_at hl 0 rfl) ?_
        refine gf_12_opMany hx hb hts in12 hown hK hP (hts (.fieldLink RX12 181 "CoinsOfLastModel" "opMany" "I") (List.mem_of_getElem? (i := 1) rfl)) dX12_unwinds_12 ?_
        refine lv_iconst (v := (1 : Int32)) hx hb dX12_unwinds_15 (by decide) ?_
        refine lv_isub hx hb dX12_unwinds_16 ?_
        obtain ⟨c_28, hZ⟩ := jx_a_some hZ
        refine M_iald hx hb hK hP wM_18 c_28 dX12_unwinds_17 ?_
        refine lv_if_eq (tgt := 97) hx hb dX12_unwinds_18 (by decide) (fun c_29 => ?_) (fun c_29 => ?_)
        · have hZ := jx_i_pos c_29 hZ
          have ho := Option.some.inj hZ
          subst ho
          have hE := hza_2
          rw [← (show S_1 = r_2 from hk_2)] at hE
          have hZ : f_X12_unwinds_97 S_1 = some Z := hE
          exact j97 S_1 _ _ hZ hP hD hS _ (lv_sub hl [] rfl)
        · have hZ := jx_i_neg c_29 hZ
          refine lv_aload_n hx hb dX12_unwinds_21 rfl (lv_at hl 0 rfl) ?_
          refine gf_12_ops hx hb hts in12 hown hK hP (hts (.fieldLink RX12 61 "CoinsOfLastModel" "ops" "[I") (List.mem_of_getElem? (i := 2) rfl)) dX12_unwinds_22 ?_
          refine lv_aload_n hx hb dX12_unwinds_25 rfl (lv_at hl 0 rfl) ?_
          refine gf_12_opMany hx hb hts in12 hown hK hP (hts (.fieldLink RX12 181 "CoinsOfLastModel" "opMany" "I") (List.mem_of_getElem? (i := 1) rfl)) dX12_unwinds_26 ?_
          refine lv_iconst (v := (1 : Int32)) hx hb dX12_unwinds_29 (by decide) ?_
          refine lv_isub hx hb dX12_unwinds_30 ?_
          obtain ⟨c_31, hZ⟩ := jx_a_some hZ
          refine M_iald hx hb hK hP wM_18 c_31 dX12_unwinds_31 ?_
          obtain ⟨r_34, S_32, hc_33, hZ⟩ := jx_b2_some hZ
          refine call_Si SM_ok sameM ⟨hx, hb, hml, hown, hts⟩ (c_X12_binds l D q k (S_1.1 18 (Int32.toNatClampNeg ((S_1.1 0 30) - (1 : Int32)))) S_1 _ (r_34, S_32)  hc_33) (va_cwS 1 hts gX12_unwinds_X12_binds rfl rfl rfl hd_X12_binds ⟨Nat.le_of_ble_eq_true rfl, Nat.le_of_ble_eq_true rfl⟩) hK hP hD hS hA hsp (As := [.int (S_1.1 18 (Int32.toNatClampNeg ((S_1.1 0 30) - (1 : Int32))))]) rfl hl.1 rfl (Nat.le_of_ble_eq_true rfl) dX12_unwinds_32 ⟨Nat.zero_le _, Nat.zero_le _⟩ (fun H locs hP hD hS => ?_)
          refine lv_iload_n hx hb dX12_unwinds_35 rfl (lv_at hl 1 rfl) ?_
          refine lv_icmp_lt (tgt := 97) hx hb dX12_unwinds_36 (by decide) (fun c_35 => ?_) (fun c_35 => ?_)
          · have hZ := jx_i_pos c_35 hZ
            have ho := Option.some.inj hZ
            subst ho
            have hE := hza_2
            rw [← (show S_32 = r_2 from hk_2)] at hE
            have hZ : f_X12_unwinds_97 S_32 = some Z := hE
            exact j97 S_32 _ _ hZ hP hD hS _ (lv_sub hl [] rfl)
          · have hZ := jx_i_neg c_35 hZ
            refine lv_aload_n hx hb dX12_unwinds_39 rfl (lv_at hl 0 rfl) ?_
            refine lv_dup hx hb dX12_unwinds_40 rfl ?_
            refine gf_12_opened hx hb hts in12 hown hK hP (hts (.fieldLink RX12 187 "CoinsOfLastModel" "opened" "I") (List.mem_of_getElem? (i := 3) rfl)) dX12_unwinds_41 ?_
            refine lv_aload_n hx hb dX12_unwinds_44 rfl (lv_at hl 0 rfl) ?_
            refine gf_12_ops hx hb hts in12 hown hK hP (hts (.fieldLink RX12 61 "CoinsOfLastModel" "ops" "[I") (List.mem_of_getElem? (i := 2) rfl)) dX12_unwinds_45 ?_
            refine lv_aload_n hx hb dX12_unwinds_48 rfl (lv_at hl 0 rfl) ?_
            refine gf_12_opMany hx hb hts in12 hown hK hP (hts (.fieldLink RX12 181 "CoinsOfLastModel" "opMany" "I") (List.mem_of_getElem? (i := 1) rfl)) dX12_unwinds_49 ?_
            refine lv_iconst (v := (1 : Int32)) hx hb dX12_unwinds_52 (by decide) ?_
            refine lv_isub hx hb dX12_unwinds_53 ?_
            obtain ⟨c_37, hZ⟩ := jx_a_some hZ
            refine M_iald hx hb hK hP wM_18 c_37 dX12_unwinds_54 ?_
            refine lv_bipush (v := (10 : Int32)) hx hb dX12_unwinds_55 (by decide) ?_
            refine lv_icmp_le (tgt := 64) hx hb dX12_unwinds_57 (by decide) (fun c_38 => ?_) (fun c_38 => ?_)
            · have hZ := jx_i_pos c_38 hZ
              refine lv_iconst (v := (0 : Int32)) hx hb dX12_unwinds_64 (by decide) ?_
              exact j65i0 (S_32.1 0 31) (0 : Int32) S_32 _ hk_2 _ _ hZ hP hD hS _ (lv_sub hl [0, 1] rfl)
            · have hZ := jx_i_neg c_38 hZ
              refine lv_iconst (v := (1 : Int32)) hx hb dX12_unwinds_60 (by decide) ?_
              refine lv_goto (tgt := 65) hx hb dX12_unwinds_61 (by decide) ?_
              exact j65i0 (S_32.1 0 31) (1 : Int32) S_32 _ hk_2 _ _ hZ hP hD hS _ (lv_sub hl [0, 1] rfl)
  exact l_2 FU S _ _ hw hP hD hS _ (lv_sub hl [0, 1] rfl)
-- X12_opens
def f_X12_opens_65 (S_7 : St) : Option (Int32 × St) :=
  jx_l (u1 S_7 0 27 ((S_7.1 0 27) + (1 : Int32))) (fun S_8 => some ((1 : Int32), S_8))
def f_X12_opens (x1 : Int32) (S : St) : Option (Int32 × St) :=
  (if (S.1 0 31) = (6 : Int32) then some ((0 : Int32), S) else jx_l (u1 S 0 31 ((S.1 0 31) + (1 : Int32))) (fun S_2 => jx_a (S_2.1 0 30) 128 (jx_l (u1 S_2 18 (Int32.toNatClampNeg (S_2.1 0 30)) x1) (fun S_4 => jx_l (u1 S_4 0 30 ((S_4.1 0 30) + (1 : Int32))) (fun S_5 => (if x1 = 0 then jx_l (u1 S_5 0 33 ((S_5.1 0 33) + (1 : Int32))) (fun S_10 => jx_a (S_10.1 0 33) 8 (jx_l (u1 S_10 19 (Int32.toNatClampNeg (S_10.1 0 33)) (vp_nar .boolean (0 : Int32))) (fun S_12 => f_X12_opens_65 S_12))) else f_X12_opens_65 S_5))))))
set_option maxHeartbeats 4000000 in
set_option maxRecDepth 100000 in
theorem c_X12_opens (l : Launch) (D : va_G) (q : Nat → Nat) (k : CI) (x1 : Int32) (S : St) (sz : Nat) (Z : Int32 × St) (hZ : f_X12_opens x1 S = some Z) : MetI W_M SM l yX12_opens wsX12_opens { frames := 0, cells := 0, slots := 0, locals := 0 } [.ref (q 0), .int x1] D q k S sz Z := by
  refine enter (cc := cX12_opens) (maxL := 2) (ret := some .boolean) (by decide) rfl (Nat.le_of_ble_eq_true rfl) ?_
  intro p e s m below meth c A ls hx hb hr hts hown hlocks hml hP hK hD hA hS hsp hAe hl
  have hown : s.vm.findClass RX12 = some m.cls := hown
  have hl : lv_has ls 2 [(0, .ref (q 0)), (1, .int x1)] := hl
  have in12 : ∀ w ∈ wsX120, w ∈ wsX12_opens := fun _ h => (List.mem_cons_of_mem _ (List.mem_append_right _ h))
  have j65 : ∀ (S_7 : St)  (H : Heap) (locs : List Loc) (hZ : f_X12_opens_65 S_7 = some Z) (hP : va_P D vwCl (W_M q k S_7) H) (hD : va_D A (W_M q k S_7)) (hS : va_S A s.heap H locs) (ls : Array Slot) (hl : lv_has ls 2 [(0, .ref (q 0))]), W p l e ({ frames := 0, cells := 0, slots := 0, locals := 0 } : Room) s m ([.ref (q 0), .int x1] : List Value).toArray below meth c H locs 0 0 (MQ below (va_Qi (fun r u => (r, u) = Z) (fun u t => va_P D vwCl (W_M q k u) t.heap) A) ([.ref (q 0), .int x1] : List Value).toArray s 0 0 A) (F0 m 65 ls []) := by
    intro S_7   H locs hZ hP hD hS ls hl
    unfold f_X12_opens_65 at hZ
    refine lv_aload_n hx hb dX12_opens_65 rfl (lv_at hl 0 rfl) ?_
    refine lv_dup hx hb dX12_opens_66 rfl ?_
    refine gf_12_at0 hx hb hts in12 hown hK hP (hts (.fieldLink RX12 175 "CoinsOfLastModel" "at0" "I") (List.mem_of_getElem? (i := 6) rfl)) dX12_opens_67 ?_
    refine lv_iconst (v := (1 : Int32)) hx hb dX12_opens_70 (by decide) ?_
    refine lv_iadd hx hb dX12_opens_71 ?_
    obtain ⟨S_8, e_S_8, hZ⟩ := jx_l_some hZ
    refine pf_12_at0 hx hb hts in12 hown hK hP hD hS (hts (.fieldLink RX12 175 "CoinsOfLastModel" "at0" "I") (List.mem_of_getElem? (i := 6) rfl)) e_S_8 dX12_opens_72 (fun H locs hP hD hS => ?_)
    refine lv_iconst (v := (1 : Int32)) hx hb dX12_opens_75 (by decide) ?_
    exact leave_z hx hb hr hlocks rfl hP hS hZ dX12_opens_76
  unfold f_X12_opens at hZ
  refine lv_aload_n hx hb dX12_opens_0 rfl (lv_at hl 0 rfl) ?_
  refine gf_12_opened hx hb hts in12 hown hK hP (hts (.fieldLink RX12 187 "CoinsOfLastModel" "opened" "I") (List.mem_of_getElem? (i := 1) rfl)) dX12_opens_1 ?_
  refine lv_bipush (v := (6 : Int32)) hx hb dX12_opens_4 (by decide) ?_
  refine lv_icmp_ne (tgt := 11) hx hb dX12_opens_6 (by decide) (fun c_1 => ?_) (fun c_1 => ?_)
  · have hZ := jx_i_neg c_1 hZ
    refine lv_aload_n hx hb dX12_opens_11 rfl (lv_at hl 0 rfl) ?_
    refine lv_dup hx hb dX12_opens_12 rfl ?_
    refine gf_12_opened hx hb hts in12 hown hK hP (hts (.fieldLink RX12 187 "CoinsOfLastModel" "opened" "I") (List.mem_of_getElem? (i := 1) rfl)) dX12_opens_13 ?_
    refine lv_iconst (v := (1 : Int32)) hx hb dX12_opens_16 (by decide) ?_
    refine lv_iadd hx hb dX12_opens_17 ?_
    obtain ⟨S_2, e_S_2, hZ⟩ := jx_l_some hZ
    refine pf_12_opened hx hb hts in12 hown hK hP hD hS (hts (.fieldLink RX12 187 "CoinsOfLastModel" "opened" "I") (List.mem_of_getElem? (i := 1) rfl)) e_S_2 dX12_opens_18 (fun H locs hP hD hS => ?_)
    refine lv_aload_n hx hb dX12_opens_21 rfl (lv_at hl 0 rfl) ?_
    refine gf_12_ops hx hb hts in12 hown hK hP (hts (.fieldLink RX12 61 "CoinsOfLastModel" "ops" "[I") (List.mem_of_getElem? (i := 2) rfl)) dX12_opens_22 ?_
    refine lv_aload_n hx hb dX12_opens_25 rfl (lv_at hl 0 rfl) ?_
    refine gf_12_opMany hx hb hts in12 hown hK hP (hts (.fieldLink RX12 181 "CoinsOfLastModel" "opMany" "I") (List.mem_of_getElem? (i := 3) rfl)) dX12_opens_26 ?_
    refine lv_iload_n hx hb dX12_opens_29 rfl (lv_at hl 1 rfl) ?_
    obtain ⟨c_3, hZ⟩ := jx_a_some hZ
    obtain ⟨S_4, e_S_4, hZ⟩ := jx_l_some hZ
    refine M_iast hx hb hK hP hD hS wM_18 (fun _ => wMs_18) c_3 e_S_4 dX12_opens_30 (fun H locs hP hD hS => ?_)
    refine lv_aload_n hx hb dX12_opens_31 rfl (lv_at hl 0 rfl) ?_
    refine lv_dup hx hb dX12_opens_32 rfl ?_
    refine gf_12_opMany hx hb hts in12 hown hK hP (hts (.fieldLink RX12 181 "CoinsOfLastModel" "opMany" "I") (List.mem_of_getElem? (i := 3) rfl)) dX12_opens_33 ?_
    refine lv_iconst (v := (1 : Int32)) hx hb dX12_opens_36 (by decide) ?_
    refine lv_iadd hx hb dX12_opens_37 ?_
    obtain ⟨S_5, e_S_5, hZ⟩ := jx_l_some hZ
    refine pf_12_opMany hx hb hts in12 hown hK hP hD hS (hts (.fieldLink RX12 181 "CoinsOfLastModel" "opMany" "I") (List.mem_of_getElem? (i := 3) rfl)) e_S_5 dX12_opens_38 (fun H locs hP hD hS => ?_)
    refine lv_iload_n hx hb dX12_opens_41 rfl (lv_at hl 1 rfl) ?_
    refine lv_if_ne (tgt := 65) hx hb dX12_opens_42 (by decide) (fun c_6 => ?_) (fun c_6 => ?_)
    · have hZ := jx_i_neg c_6 hZ
      exact j65 S_5 _ _ hZ hP hD hS _ (lv_sub hl [0] rfl)
    · have hZ := jx_i_pos c_6 hZ
      refine lv_aload_n hx hb dX12_opens_45 rfl (lv_at hl 0 rfl) ?_
      refine lv_dup hx hb dX12_opens_46 rfl ?_
      refine gf_12_deep hx hb hts in12 hown hK hP (hts (.fieldLink RX12 194 "CoinsOfLastModel" "deep" "I") (List.mem_of_getElem? (i := 4) rfl)) dX12_opens_47 ?_
      refine lv_iconst (v := (1 : Int32)) hx hb dX12_opens_50 (by decide) ?_
      refine lv_iadd hx hb dX12_opens_51 ?_
      obtain ⟨S_10, e_S_10, hZ⟩ := jx_l_some hZ
      refine pf_12_deep hx hb hts in12 hown hK hP hD hS (hts (.fieldLink RX12 194 "CoinsOfLastModel" "deep" "I") (List.mem_of_getElem? (i := 4) rfl)) e_S_10 dX12_opens_52 (fun H locs hP hD hS => ?_)
      refine lv_aload_n hx hb dX12_opens_55 rfl (lv_at hl 0 rfl) ?_
      refine gf_12_compared hx hb hts in12 hown hK hP (hts (.fieldLink RX12 64 "CoinsOfLastModel" "compared" "[Z") (List.mem_of_getElem? (i := 5) rfl)) dX12_opens_56 ?_
      refine lv_aload_n hx hb dX12_opens_59 rfl (lv_at hl 0 rfl) ?_
      refine gf_12_deep hx hb hts in12 hown hK hP (hts (.fieldLink RX12 194 "CoinsOfLastModel" "deep" "I") (List.mem_of_getElem? (i := 4) rfl)) dX12_opens_60 ?_
      refine lv_iconst (v := (0 : Int32)) hx hb dX12_opens_63 (by decide) ?_
      obtain ⟨c_11, hZ⟩ := jx_a_some hZ
      obtain ⟨S_12, e_S_12, hZ⟩ := jx_l_some hZ
      refine M_zast hx hb hK hP hD hS wM_19 (fun _ => wMs_19) c_11 e_S_12 dX12_opens_64 (fun H locs hP hD hS => ?_)
      exact j65 S_12 _ _ hZ hP hD hS _ (lv_sub hl [0] rfl)
  · have hZ := jx_i_pos c_1 hZ
    refine lv_iconst (v := (0 : Int32)) hx hb dX12_opens_9 (by decide) ?_
    exact leave_z hx hb hr hlocks rfl hP hS hZ dX12_opens_10
theorem hd_X12_nameOf : yX12_nameOf.cls ≠ "java/lang/invoke/MethodHandle" ∧ yX12_nameOf.cls ≠ "java/lang/invoke/VarHandle" ∧ (parseMethodDescriptor yX12_nameOf.desc).map (fun d => d.parameters.length) = some 1 := by decide +kernel
theorem hd_X12_sign : yX12_sign.cls = RX12 ∧ yX12_sign.cls ≠ "java/lang/invoke/MethodHandle" ∧ yX12_sign.cls ≠ "java/lang/invoke/VarHandle" ∧ (parseMethodDescriptor yX12_sign.desc).map (fun d => d.parameters.length) = some 0 := by decide +kernel
-- X12_oneRead
def f_X12_oneRead_100 (x2_19 : Int32) (S_19 : St) : Option (Int32 × St) :=
  jx_b (f_X12_code ((1000 : Int32) + x2_19) S_19) (fun S_20 => some ((1 : Int32), S_20))
def b_X12_oneRead_52 (x2 : Int32) (x3 : Int32) (S : St) : Option ((Int32 × Int32 × St) ⊕ ((Int32 × St))) :=
  (if (4 : Int32) ≤ x3 then some (.inr (x2, S)) else jx_b2 (f_X12_sign S) (fun r_27 S_25 => jx_b2 (f_X12_in r_27 (48 : Int32) (57 : Int32) S_25) (fun r_30 S_28 => (if r_30 = 0 then some (.inr (x2, S_28)) else jx_b2 (f_X12_sign S_28) (fun r_35 S_33 => jx_l ((((10 : Int32) * x2) + r_35) - (48 : Int32)) (fun x2_36 => jx_l (u1 S_33 0 27 ((S_33.1 0 27) + (1 : Int32))) (fun S_37 => jx_l (x3 + 1) (fun x3_38 => some (.inl (x2_36, x3_38, S_37))))))))))
def g_X12_oneRead_52 : (Int32 × Int32 × St) → Option ((Int32 × Int32 × St) ⊕ ((Int32 × St))) := fun z => b_X12_oneRead_52 z.1 z.2.1 z.2.2
def f_X12_oneRead (S : St) : Option (Int32 × St) :=
  jx_b2 (f_X12_sign S) (fun r_3 S_1 => jx_b2 (f_X12_nameOf r_3 S_1) (fun r_6 S_4 => (if r_6 < 0 then jx_b2 (f_X12_sign S_4) (fun r_10 S_8 => jx_b2 (f_X12_in r_10 (48 : Int32) (57 : Int32) S_8) (fun r_13 S_11 => (if r_13 = 0 then some ((0 : Int32), S_11) else jx_b (jx_w (g_X12_oneRead_52) FU ((0 : Int32), (0 : Int32), S_11)) (fun z => f_X12_oneRead_100 z.1 z.2)))) else jx_b (f_X12_code ((100 : Int32) + r_6) S_4) (fun S_55 => jx_l (u1 S_55 0 27 ((S_55.1 0 27) + (1 : Int32))) (fun S_57 => some ((1 : Int32), S_57))))))
set_option maxHeartbeats 4000000 in
set_option maxRecDepth 100000 in
theorem c_X12_oneRead (l : Launch) (D : va_G) (q : Nat → Nat) (k : CI) (S : St) (sz : Nat) (Z : Int32 × St) (hZ : f_X12_oneRead S = some Z) : MetI W_M SM l yX12_oneRead wsX12_oneRead { frames := 1, cells := 0, slots := 0, locals := 22 } [.ref (q 0)] D q k S sz Z := by
  refine enter (cc := cX12_oneRead) (maxL := 4) (ret := some .boolean) (by decide) rfl (Nat.le_of_ble_eq_true rfl) ?_
  intro p e s m below meth c A ls hx hb hr hts hown hlocks hml hP hK hD hA hS hsp hAe hl
  have hown : s.vm.findClass RX12 = some m.cls := hown
  have hl : lv_has ls 4 [(0, .ref (q 0))] := hl
  have in12 : ∀ w ∈ wsX120, w ∈ wsX12_oneRead := fun _ h => (List.mem_cons_of_mem _ (List.mem_append_right _ h))
  have j100 : ∀ (x2_19 : Int32) (S_19 : St)  (H : Heap) (locs : List Loc) (hZ : f_X12_oneRead_100 x2_19 S_19 = some Z) (hP : va_P D vwCl (W_M q k S_19) H) (hD : va_D A (W_M q k S_19)) (hS : va_S A s.heap H locs) (ls : Array Slot) (hl : lv_has ls 4 [(0, .ref (q 0)), (2, .int x2_19)]), W p l e ({ frames := 1, cells := 0, slots := 0, locals := 22 } : Room) s m ([.ref (q 0)] : List Value).toArray below meth c H locs 0 0 (MQ below (va_Qi (fun r u => (r, u) = Z) (fun u t => va_P D vwCl (W_M q k u) t.heap) A) ([.ref (q 0)] : List Value).toArray s 0 0 A) (F0 m 100 ls []) := by
    intro x2_19 S_19   H locs hZ hP hD hS ls hl
    unfold f_X12_oneRead_100 at hZ
    refine lv_aload_n hx hb dX12_oneRead_100 rfl (lv_at hl 0 rfl) ?_
    refine lv_sipush (v := (1000 : Int32)) hx hb dX12_oneRead_101 (by decide) ?_
    refine lv_iload_n hx hb dX12_oneRead_104 rfl (lv_at hl 1 rfl) ?_
    refine lv_iadd hx hb dX12_oneRead_105 ?_
    obtain ⟨S_20, hc_21, hZ⟩ := jx_b_some hZ
    refine call_Vv SM_ok sameM ⟨hx, hb, hml, hown, hts⟩ (c_X12_code l D q k ((1000 : Int32) + x2_19) S_19 _ S_20  hc_21) (cwV 1 hts gX12_oneRead_X12_code rfl rfl rfl hd_X12_code ⟨Nat.le_of_ble_eq_true rfl, Nat.le_of_ble_eq_true rfl⟩) hK hP hD hS hA hsp (va_recv hK hP (ci := 12) (q0 := 0) rfl wM_0) (As := [.int ((1000 : Int32) + x2_19)]) rfl hl.1 rfl (Nat.le_of_ble_eq_true rfl) dX12_oneRead_106 ⟨Nat.zero_le _, Nat.zero_le _⟩ (fun H locs hP hD hS => ?_)
    refine lv_iconst (v := (1 : Int32)) hx hb dX12_oneRead_109 (by decide) ?_
    exact leave_z hx hb hr hlocks rfl hP hS hZ dX12_oneRead_110
  unfold f_X12_oneRead at hZ
  refine lv_aload_n hx hb dX12_oneRead_0 rfl (lv_at hl 0 rfl) ?_
  obtain ⟨r_3, S_1, hc_2, hZ⟩ := jx_b2_some hZ
  refine call_Vi SM_ok sameM ⟨hx, hb, hml, hown, hts⟩ (c_X12_sign l D q k  S _ (r_3, S_1)  hc_2) (cwV 0 hts gX12_oneRead_X12_sign rfl rfl rfl hd_X12_sign ⟨Nat.le_of_ble_eq_true rfl, Nat.le_of_ble_eq_true rfl⟩) hK hP hD hS hA hsp (va_recv hK hP (ci := 12) (q0 := 0) rfl wM_0) (As := []) rfl hl.1 rfl (Nat.le_of_ble_eq_true rfl) dX12_oneRead_1 ⟨Nat.zero_le _, Nat.zero_le _⟩ (fun H locs hP hD hS => ?_)
  obtain ⟨r_6, S_4, hc_5, hZ⟩ := jx_b2_some hZ
  refine call_Si SM_ok sameM ⟨hx, hb, hml, hown, hts⟩ (c_X12_nameOf l D q k r_3 S_1 _ (r_6, S_4)  hc_5) (va_cwS 1 hts gX12_oneRead_X12_nameOf rfl rfl rfl hd_X12_nameOf ⟨Nat.le_of_ble_eq_true rfl, Nat.le_of_ble_eq_true rfl⟩) hK hP hD hS hA hsp (As := [.int r_3]) rfl hl.1 rfl (Nat.le_of_ble_eq_true rfl) dX12_oneRead_4 ⟨Nat.zero_le _, Nat.zero_le _⟩ (fun H locs hP hD hS => ?_)
  refine lv_istore_n (lv' := [(1, .int r_6), (0, .ref (q 0))]) hx hb dX12_oneRead_7 rfl hl (by decide) rfl (fun ls hl => ?_)
  refine lv_iload_n hx hb dX12_oneRead_8 rfl (lv_at hl 0 rfl) ?_
  refine lv_if_lt (tgt := 32) hx hb dX12_oneRead_9 (by decide) (fun c_7 => ?_) (fun c_7 => ?_)
  · have hZ := jx_i_pos c_7 hZ
    refine lv_aload_n hx hb dX12_oneRead_32 rfl (lv_at hl 1 rfl) ?_
    obtain ⟨r_10, S_8, hc_9, hZ⟩ := jx_b2_some hZ
    refine call_Vi SM_ok sameM ⟨hx, hb, hml, hown, hts⟩ (c_X12_sign l D q k  S_4 _ (r_10, S_8)  hc_9) (cwV 0 hts gX12_oneRead_X12_sign rfl rfl rfl hd_X12_sign ⟨Nat.le_of_ble_eq_true rfl, Nat.le_of_ble_eq_true rfl⟩) hK hP hD hS hA hsp (va_recv hK hP (ci := 12) (q0 := 0) rfl wM_0) (As := []) rfl hl.1 rfl (Nat.le_of_ble_eq_true rfl) dX12_oneRead_33 ⟨Nat.zero_le _, Nat.zero_le _⟩ (fun H locs hP hD hS => ?_)
    refine lv_bipush (v := (48 : Int32)) hx hb dX12_oneRead_36 (by decide) ?_
    refine lv_bipush (v := (57 : Int32)) hx hb dX12_oneRead_38 (by decide) ?_
    obtain ⟨r_13, S_11, hc_12, hZ⟩ := jx_b2_some hZ
    refine call_Si SM_ok sameM ⟨hx, hb, hml, hown, hts⟩ (c_X12_in l D q k r_10 (48 : Int32) (57 : Int32) S_8 _ (r_13, S_11)  hc_12) (va_cwS 3 hts gX12_oneRead_X12_in rfl rfl rfl hd_X12_in ⟨Nat.le_of_ble_eq_true rfl, Nat.le_of_ble_eq_true rfl⟩) hK hP hD hS hA hsp (As := [.int r_10, .int (48 : Int32), .int (57 : Int32)]) rfl hl.1 rfl (Nat.le_of_ble_eq_true rfl) dX12_oneRead_40 ⟨Nat.zero_le _, Nat.zero_le _⟩ (fun H locs hP hD hS => ?_)
    refine lv_if_ne (tgt := 48) hx hb dX12_oneRead_43 (by decide) (fun c_14 => ?_) (fun c_14 => ?_)
    · have hZ := jx_i_neg c_14 hZ
      refine lv_iconst (v := (0 : Int32)) hx hb dX12_oneRead_48 (by decide) ?_
      refine lv_istore_n (lv' := [(2, .int (0 : Int32)), (1, .int r_6), (0, .ref (q 0))]) hx hb dX12_oneRead_49 rfl hl (by decide) rfl (fun ls hl => ?_)
      refine lv_iconst (v := (0 : Int32)) hx hb dX12_oneRead_50 (by decide) ?_
      refine lv_istore_n (lv' := [(3, .int (0 : Int32)), (2, .int (0 : Int32)), (1, .int r_6), (0, .ref (q 0))]) hx hb dX12_oneRead_51 rfl hl (by decide) rfl (fun ls hl => ?_)
      obtain ⟨r_18, hw, hza_18⟩ := jx_b_some hZ
      have l_18 : ∀ (nn : Nat) (x2_15 : Int32) (x3_16 : Int32) (S_17 : St) (H : Heap) (locs : List Loc) (hw : jx_w (g_X12_oneRead_52) nn (x2_15, x3_16, S_17) = some r_18) (hP : va_P D vwCl (W_M q k S_17) H) (hD : va_D A (W_M q k S_17)) (hS : va_S A s.heap H locs) (ls : Array Slot) (hl : lv_has ls 4 [(0, .ref (q 0)), (2, .int x2_15), (3, .int x3_16)]), W p l e ({ frames := 1, cells := 0, slots := 0, locals := 22 } : Room) s m ([.ref (q 0)] : List Value).toArray below meth c H locs 0 0 (MQ below (va_Qi (fun r u => (r, u) = Z) (fun u t => va_P D vwCl (W_M q k u) t.heap) A) ([.ref (q 0)] : List Value).toArray s 0 0 A) (F0 m 52 ls []) := by
        intro nn
        induction nn with
        | zero =>
          intro x2_15 x3_16 S_17 H locs hw hP hD hS ls hl
          exact jx_w_zero hw
        | succ n_18 ih_18 =>
          intro x2_15 x3_16 S_17 H locs hw hP hD hS ls hl
          obtain ⟨o_18, hZ, hk_18⟩ := jx_w_succ hw
          have hZ : b_X12_oneRead_52 x2_15 x3_16 S_17 = some o_18 := hZ
          unfold b_X12_oneRead_52 at hZ
          refine lv_iload_n hx hb dX12_oneRead_52 rfl (lv_at hl 2 rfl) ?_
          refine lv_iconst (v := (4 : Int32)) hx hb dX12_oneRead_53 (by decide) ?_
          refine lv_icmp_ge (tgt := 100) hx hb dX12_oneRead_54 (by decide) (fun c_39 => ?_) (fun c_39 => ?_)
          · have hZ := jx_i_pos c_39 hZ
            have ho := Option.some.inj hZ
            subst ho
            have hE := hza_18
            rw [← (show (x2_15, S_17) = r_18 from hk_18)] at hE
            have hZ : f_X12_oneRead_100 x2_15 S_17 = some Z := hE
            exact j100 x2_15 S_17 _ _ hZ hP hD hS _ (lv_sub hl [0, 1] rfl)
          · have hZ := jx_i_neg c_39 hZ
            refine lv_aload_n hx hb dX12_oneRead_57 rfl (lv_at hl 0 rfl) ?_
            obtain ⟨r_43, S_41, hc_42, hZ⟩ := jx_b2_some hZ
            refine call_Vi SM_ok sameM ⟨hx, hb, hml, hown, hts⟩ (c_X12_sign l D q k  S_17 _ (r_43, S_41)  hc_42) (cwV 0 hts gX12_oneRead_X12_sign rfl rfl rfl hd_X12_sign ⟨Nat.le_of_ble_eq_true rfl, Nat.le_of_ble_eq_true rfl⟩) hK hP hD hS hA hsp (va_recv hK hP (ci := 12) (q0 := 0) rfl wM_0) (As := []) rfl hl.1 rfl (Nat.le_of_ble_eq_true rfl) dX12_oneRead_58 ⟨Nat.zero_le _, Nat.zero_le _⟩ (fun H locs hP hD hS => ?_)
            refine lv_bipush (v := (48 : Int32)) hx hb dX12_oneRead_61 (by decide) ?_
            refine lv_bipush (v := (57 : Int32)) hx hb dX12_oneRead_63 (by decide) ?_
            obtain ⟨r_46, S_44, hc_45, hZ⟩ := jx_b2_some hZ
            refine call_Si SM_ok sameM ⟨hx, hb, hml, hown, hts⟩ (c_X12_in l D q k r_43 (48 : Int32) (57 : Int32) S_41 _ (r_46, S_44)  hc_45) (va_cwS 3 hts gX12_oneRead_X12_in rfl rfl rfl hd_X12_in ⟨Nat.le_of_ble_eq_true rfl, Nat.le_of_ble_eq_true rfl⟩) hK hP hD hS hA hsp (As := [.int r_43, .int (48 : Int32), .int (57 : Int32)]) rfl hl.1 rfl (Nat.le_of_ble_eq_true rfl) dX12_oneRead_65 ⟨Nat.zero_le _, Nat.zero_le _⟩ (fun H locs hP hD hS => ?_)
            refine lv_if_eq (tgt := 100) hx hb dX12_oneRead_68 (by decide) (fun c_47 => ?_) (fun c_47 => ?_)
            · have hZ := jx_i_pos c_47 hZ
              have ho := Option.some.inj hZ
              subst ho
              have hE := hza_18
              rw [← (show (x2_15, S_44) = r_18 from hk_18)] at hE
              have hZ : f_X12_oneRead_100 x2_15 S_44 = some Z := hE
              exact j100 x2_15 S_44 _ _ hZ hP hD hS _ (lv_sub hl [0, 1] rfl)
            · have hZ := jx_i_neg c_47 hZ
              refine lv_bipush (v := (10 : Int32)) hx hb dX12_oneRead_71 (by decide) ?_
              refine lv_iload_n hx hb dX12_oneRead_73 rfl (lv_at hl 1 rfl) ?_
              refine lv_imul hx hb dX12_oneRead_74 ?_
              refine lv_aload_n hx hb dX12_oneRead_75 rfl (lv_at hl 0 rfl) ?_
              obtain ⟨r_51, S_49, hc_50, hZ⟩ := jx_b2_some hZ
              refine call_Vi SM_ok sameM ⟨hx, hb, hml, hown, hts⟩ (c_X12_sign l D q k  S_44 _ (r_51, S_49)  hc_50) (cwV 0 hts gX12_oneRead_X12_sign rfl rfl rfl hd_X12_sign ⟨Nat.le_of_ble_eq_true rfl, Nat.le_of_ble_eq_true rfl⟩) hK hP hD hS hA hsp (va_recv hK hP (ci := 12) (q0 := 0) rfl wM_0) (As := []) rfl hl.1 rfl (Nat.le_of_ble_eq_true rfl) dX12_oneRead_76 ⟨Nat.zero_le _, Nat.zero_le _⟩ (fun H locs hP hD hS => ?_)
              refine lv_iadd hx hb dX12_oneRead_79 ?_
              refine lv_bipush (v := (48 : Int32)) hx hb dX12_oneRead_80 (by decide) ?_
              refine lv_isub hx hb dX12_oneRead_82 ?_
              obtain ⟨x2_52, e_x2_52, hZ⟩ := jx_l_some hZ
              refine tx_i e_x2_52 ?_
              refine lv_istore_n (lv' := [(2, .int x2_52), (0, .ref (q 0)), (3, .int x3_16)]) hx hb dX12_oneRead_83 rfl hl (by decide) rfl (fun ls hl => ?_)
              refine lv_aload_n hx hb dX12_oneRead_84 rfl (lv_at hl 1 rfl) ?_
              refine lv_dup hx hb dX12_oneRead_85 rfl ?_
              refine gf_12_at0 hx hb hts in12 hown hK hP (hts (.fieldLink RX12 175 "CoinsOfLastModel" "at0" "I") (List.mem_of_getElem? (i := 1) rfl)) dX12_oneRead_86 ?_
              refine lv_iconst (v := (1 : Int32)) hx hb dX12_oneRead_89 (by decide) ?_
              refine lv_iadd hx hb dX12_oneRead_90 ?_
              obtain ⟨S_53, e_S_53, hZ⟩ := jx_l_some hZ
              refine pf_12_at0 hx hb hts in12 hown hK hP hD hS (hts (.fieldLink RX12 175 "CoinsOfLastModel" "at0" "I") (List.mem_of_getElem? (i := 1) rfl)) e_S_53 dX12_oneRead_91 (fun H locs hP hD hS => ?_)
              obtain ⟨x3_54, e_x3_54, hZ⟩ := jx_l_some hZ
              refine lv_iinc (v := x3_54) (lv' := [(3, .int x3_54), (2, .int x2_52), (0, .ref (q 0))]) hx hb dX12_oneRead_94 hl (k := 2) rfl (by rw [e_x3_54]; rfl) (by decide) rfl (fun ls hl => ?_)
              refine lv_goto (tgt := 52) hx hb dX12_oneRead_97 (by decide) ?_
              have ho := Option.some.inj hZ
              subst ho
              exact ih_18 x2_52 x3_54 S_53 _ _ hk_18 hP hD hS _ (lv_sub hl [2, 1, 0] rfl)
      exact l_18 FU (0 : Int32) (0 : Int32) S_11 _ _ hw hP hD hS _ (lv_sub hl [3, 1, 0] rfl)
    · have hZ := jx_i_pos c_14 hZ
      refine lv_iconst (v := (0 : Int32)) hx hb dX12_oneRead_46 (by decide) ?_
      exact leave_z hx hb hr hlocks rfl hP hS hZ dX12_oneRead_47
  · have hZ := jx_i_neg c_7 hZ
    refine lv_aload_n hx hb dX12_oneRead_12 rfl (lv_at hl 1 rfl) ?_
    refine lv_bipush (v := (100 : Int32)) hx hb dX12_oneRead_13 (by decide) ?_
    refine lv_iload_n hx hb dX12_oneRead_15 rfl (lv_at hl 0 rfl) ?_
    refine lv_iadd hx hb dX12_oneRead_16 ?_
    obtain ⟨S_55, hc_56, hZ⟩ := jx_b_some hZ
    refine call_Vv SM_ok sameM ⟨hx, hb, hml, hown, hts⟩ (c_X12_code l D q k ((100 : Int32) + r_6) S_4 _ S_55  hc_56) (cwV 1 hts gX12_oneRead_X12_code rfl rfl rfl hd_X12_code ⟨Nat.le_of_ble_eq_true rfl, Nat.le_of_ble_eq_true rfl⟩) hK hP hD hS hA hsp (va_recv hK hP (ci := 12) (q0 := 0) rfl wM_0) (As := [.int ((100 : Int32) + r_6)]) rfl hl.1 rfl (Nat.le_of_ble_eq_true rfl) dX12_oneRead_17 ⟨Nat.zero_le _, Nat.zero_le _⟩ (fun H locs hP hD hS => ?_)
    refine lv_aload_n hx hb dX12_oneRead_20 rfl (lv_at hl 1 rfl) ?_
    refine lv_dup hx hb dX12_oneRead_21 rfl ?_
    refine gf_12_at0 hx hb hts in12 hown hK hP (hts (.fieldLink RX12 175 "CoinsOfLastModel" "at0" "I") (List.mem_of_getElem? (i := 1) rfl)) dX12_oneRead_22 ?_
    refine lv_iconst (v := (1 : Int32)) hx hb dX12_oneRead_25 (by decide) ?_
    refine lv_iadd hx hb dX12_oneRead_26 ?_
    obtain ⟨S_57, e_S_57, hZ⟩ := jx_l_some hZ
    refine pf_12_at0 hx hb hts in12 hown hK hP hD hS (hts (.fieldLink RX12 175 "CoinsOfLastModel" "at0" "I") (List.mem_of_getElem? (i := 1) rfl)) e_S_57 dX12_oneRead_27 (fun H locs hP hD hS => ?_)
    refine lv_iconst (v := (1 : Int32)) hx hb dX12_oneRead_30 (by decide) ?_
    exact leave_z hx hb hr hlocks rfl hP hS hZ dX12_oneRead_31
theorem hd_X12_unwinds : yX12_unwinds.cls = RX12 ∧ yX12_unwinds.cls ≠ "java/lang/invoke/MethodHandle" ∧ yX12_unwinds.cls ≠ "java/lang/invoke/VarHandle" ∧ (parseMethodDescriptor yX12_unwinds.desc).map (fun d => d.parameters.length) = some 1 := by decide +kernel
-- X12_goesOn
def f_X12_goesOn_50 (x1_6 : Int32) (S_6 : St) : Option (Int32 × St) :=
  jx_b2 (f_X12_binds x1_6 S_6) (fun r_9 S_7 => jx_b (f_X12_unwinds r_9 S_7) (fun S_10 => jx_a (S_10.1 0 30) 128 (jx_l (u1 S_10 18 (Int32.toNatClampNeg (S_10.1 0 30)) x1_6) (fun S_13 => jx_l (u1 S_13 0 30 ((S_13.1 0 30) + (1 : Int32))) (fun S_14 => jx_l (u1 S_14 0 27 ((S_14.1 0 27) + (1 : Int32))) (fun S_15 => some ((1 : Int32), S_15)))))))
def f_X12_goesOn (x1 : Int32) (S : St) : Option (Int32 × St) :=
  jx_b2 (f_X12_binds x1 S) (fun r_3 S_1 => (if r_3 = (3 : Int32) then jx_a (S_1.1 0 33) 8 ((if (S_1.1 19 (Int32.toNatClampNeg (S_1.1 0 33))) = 0 then jx_a (S_1.1 0 33) 8 (jx_l (u1 S_1 19 (Int32.toNatClampNeg (S_1.1 0 33)) (vp_nar .boolean (1 : Int32))) (fun S_23 => f_X12_goesOn_50 x1 S_23)) else some ((0 : Int32), S_1))) else (if (2 : Int32) < x1 then f_X12_goesOn_50 x1 S_1 else jx_a (S_1.1 0 33) 8 (jx_l (u1 S_1 19 (Int32.toNatClampNeg (S_1.1 0 33)) (vp_nar .boolean (0 : Int32))) (fun S_18 => f_X12_goesOn_50 x1 S_18)))))
set_option maxHeartbeats 4000000 in
set_option maxRecDepth 100000 in
theorem c_X12_goesOn (l : Launch) (D : va_G) (q : Nat → Nat) (k : CI) (x1 : Int32) (S : St) (sz : Nat) (Z : Int32 × St) (hZ : f_X12_goesOn x1 S = some Z) : MetI W_M SM l yX12_goesOn wsX12_goesOn { frames := 2, cells := 0, slots := 0, locals := 42 } [.ref (q 0), .int x1] D q k S sz Z := by
  refine enter (cc := cX12_goesOn) (maxL := 2) (ret := some .boolean) (by decide) rfl (Nat.le_of_ble_eq_true rfl) ?_
  intro p e s m below meth c A ls hx hb hr hts hown hlocks hml hP hK hD hA hS hsp hAe hl
  have hown : s.vm.findClass RX12 = some m.cls := hown
  have hl : lv_has ls 2 [(0, .ref (q 0)), (1, .int x1)] := hl
  have in12 : ∀ w ∈ wsX120, w ∈ wsX12_goesOn := fun _ h => (List.mem_cons_of_mem _ (List.mem_append_right _ h))
  have j50 : ∀ (x1_6 : Int32) (S_6 : St)  (H : Heap) (locs : List Loc) (hZ : f_X12_goesOn_50 x1_6 S_6 = some Z) (hP : va_P D vwCl (W_M q k S_6) H) (hD : va_D A (W_M q k S_6)) (hS : va_S A s.heap H locs) (ls : Array Slot) (hl : lv_has ls 2 [(0, .ref (q 0)), (1, .int x1_6)]), W p l e ({ frames := 2, cells := 0, slots := 0, locals := 42 } : Room) s m ([.ref (q 0), .int x1] : List Value).toArray below meth c H locs 0 0 (MQ below (va_Qi (fun r u => (r, u) = Z) (fun u t => va_P D vwCl (W_M q k u) t.heap) A) ([.ref (q 0), .int x1] : List Value).toArray s 0 0 A) (F0 m 50 ls []) := by
    intro x1_6 S_6   H locs hZ hP hD hS ls hl
    unfold f_X12_goesOn_50 at hZ
    refine lv_aload_n hx hb dX12_goesOn_50 rfl (lv_at hl 0 rfl) ?_
    refine lv_iload_n hx hb dX12_goesOn_51 rfl (lv_at hl 1 rfl) ?_
    obtain ⟨r_9, S_7, hc_8, hZ⟩ := jx_b2_some hZ
    refine call_Si SM_ok sameM ⟨hx, hb, hml, hown, hts⟩ (c_X12_binds l D q k x1_6 S_6 _ (r_9, S_7)  hc_8) (va_cwS 1 hts gX12_goesOn_X12_binds rfl rfl rfl hd_X12_binds ⟨Nat.le_of_ble_eq_true rfl, Nat.le_of_ble_eq_true rfl⟩) hK hP hD hS hA hsp (As := [.int x1_6]) rfl hl.1 rfl (Nat.le_of_ble_eq_true rfl) dX12_goesOn_52 ⟨Nat.zero_le _, Nat.zero_le _⟩ (fun H locs hP hD hS => ?_)
    obtain ⟨S_10, hc_11, hZ⟩ := jx_b_some hZ
    refine call_Vv SM_ok sameM ⟨hx, hb, hml, hown, hts⟩ (c_X12_unwinds l D q k r_9 S_7 _ S_10  hc_11) (cwV 1 hts gX12_goesOn_X12_unwinds rfl rfl rfl hd_X12_unwinds ⟨Nat.le_of_ble_eq_true rfl, Nat.le_of_ble_eq_true rfl⟩) hK hP hD hS hA hsp (va_recv hK hP (ci := 12) (q0 := 0) rfl wM_0) (As := [.int r_9]) rfl hl.1 rfl (Nat.le_of_ble_eq_true rfl) dX12_goesOn_55 ⟨Nat.zero_le _, Nat.zero_le _⟩ (fun H locs hP hD hS => ?_)
    refine lv_aload_n hx hb dX12_goesOn_58 rfl (lv_at hl 0 rfl) ?_
    refine gf_12_ops hx hb hts in12 hown hK hP (hts (.fieldLink RX12 61 "CoinsOfLastModel" "ops" "[I") (List.mem_of_getElem? (i := 3) rfl)) dX12_goesOn_59 ?_
    refine lv_aload_n hx hb dX12_goesOn_62 rfl (lv_at hl 0 rfl) ?_
    refine gf_12_opMany hx hb hts in12 hown hK hP (hts (.fieldLink RX12 181 "CoinsOfLastModel" "opMany" "I") (List.mem_of_getElem? (i := 4) rfl)) dX12_goesOn_63 ?_
    refine lv_iload_n hx hb dX12_goesOn_66 rfl (lv_at hl 1 rfl) ?_
    obtain ⟨c_12, hZ⟩ := jx_a_some hZ
    obtain ⟨S_13, e_S_13, hZ⟩ := jx_l_some hZ
    refine M_iast hx hb hK hP hD hS wM_18 (fun _ => wMs_18) c_12 e_S_13 dX12_goesOn_67 (fun H locs hP hD hS => ?_)
    refine lv_aload_n hx hb dX12_goesOn_68 rfl (lv_at hl 0 rfl) ?_
    refine lv_dup hx hb dX12_goesOn_69 rfl ?_
    refine gf_12_opMany hx hb hts in12 hown hK hP (hts (.fieldLink RX12 181 "CoinsOfLastModel" "opMany" "I") (List.mem_of_getElem? (i := 4) rfl)) dX12_goesOn_70 ?_
    refine lv_iconst (v := (1 : Int32)) hx hb dX12_goesOn_73 (by decide) ?_
    refine lv_iadd hx hb dX12_goesOn_74 ?_
    obtain ⟨S_14, e_S_14, hZ⟩ := jx_l_some hZ
    refine pf_12_opMany hx hb hts in12 hown hK hP hD hS (hts (.fieldLink RX12 181 "CoinsOfLastModel" "opMany" "I") (List.mem_of_getElem? (i := 4) rfl)) e_S_14 dX12_goesOn_75 (fun H locs hP hD hS => ?_)
    refine lv_aload_n hx hb dX12_goesOn_78 rfl (lv_at hl 0 rfl) ?_
    refine lv_dup hx hb dX12_goesOn_79 rfl ?_
    refine gf_12_at0 hx hb hts in12 hown hK hP (hts (.fieldLink RX12 175 "CoinsOfLastModel" "at0" "I") (List.mem_of_getElem? (i := 5) rfl)) dX12_goesOn_80 ?_
    refine lv_iconst (v := (1 : Int32)) hx hb dX12_goesOn_83 (by decide) ?_
    refine lv_iadd hx hb dX12_goesOn_84 ?_
    obtain ⟨S_15, e_S_15, hZ⟩ := jx_l_some hZ
    refine pf_12_at0 hx hb hts in12 hown hK hP hD hS (hts (.fieldLink RX12 175 "CoinsOfLastModel" "at0" "I") (List.mem_of_getElem? (i := 5) rfl)) e_S_15 dX12_goesOn_85 (fun H locs hP hD hS => ?_)
    refine lv_iconst (v := (1 : Int32)) hx hb dX12_goesOn_88 (by decide) ?_
    exact leave_z hx hb hr hlocks rfl hP hS hZ dX12_goesOn_89
  unfold f_X12_goesOn at hZ
  refine lv_iload_n hx hb dX12_goesOn_0 rfl (lv_at hl 1 rfl) ?_
  obtain ⟨r_3, S_1, hc_2, hZ⟩ := jx_b2_some hZ
  refine call_Si SM_ok sameM ⟨hx, hb, hml, hown, hts⟩ (c_X12_binds l D q k x1 S _ (r_3, S_1)  hc_2) (va_cwS 1 hts gX12_goesOn_X12_binds rfl rfl rfl hd_X12_binds ⟨Nat.le_of_ble_eq_true rfl, Nat.le_of_ble_eq_true rfl⟩) hK hP hD hS hA hsp (As := [.int x1]) rfl hl.1 rfl (Nat.le_of_ble_eq_true rfl) dX12_goesOn_1 ⟨Nat.zero_le _, Nat.zero_le _⟩ (fun H locs hP hD hS => ?_)
  refine lv_iconst (v := (3 : Int32)) hx hb dX12_goesOn_4 (by decide) ?_
  refine lv_icmp_ne (tgt := 35) hx hb dX12_goesOn_5 (by decide) (fun c_4 => ?_) (fun c_4 => ?_)
  · have hZ := jx_i_neg c_4 hZ
    refine lv_iload_n hx hb dX12_goesOn_35 rfl (lv_at hl 1 rfl) ?_
    refine lv_iconst (v := (2 : Int32)) hx hb dX12_goesOn_36 (by decide) ?_
    refine lv_icmp_gt (tgt := 50) hx hb dX12_goesOn_37 (by decide) (fun c_5 => ?_) (fun c_5 => ?_)
    · have hZ := jx_i_pos c_5 hZ
      exact j50 x1 S_1 _ _ hZ hP hD hS _ (lv_sub hl [0, 1] rfl)
    · have hZ := jx_i_neg c_5 hZ
      refine lv_aload_n hx hb dX12_goesOn_40 rfl (lv_at hl 0 rfl) ?_
      refine gf_12_compared hx hb hts in12 hown hK hP (hts (.fieldLink RX12 64 "CoinsOfLastModel" "compared" "[Z") (List.mem_of_getElem? (i := 1) rfl)) dX12_goesOn_41 ?_
      refine lv_aload_n hx hb dX12_goesOn_44 rfl (lv_at hl 0 rfl) ?_
      refine gf_12_deep hx hb hts in12 hown hK hP (hts (.fieldLink RX12 194 "CoinsOfLastModel" "deep" "I") (List.mem_of_getElem? (i := 2) rfl)) dX12_goesOn_45 ?_
      refine lv_iconst (v := (0 : Int32)) hx hb dX12_goesOn_48 (by decide) ?_
      obtain ⟨c_17, hZ⟩ := jx_a_some hZ
      obtain ⟨S_18, e_S_18, hZ⟩ := jx_l_some hZ
      refine M_zast hx hb hK hP hD hS wM_19 (fun _ => wMs_19) c_17 e_S_18 dX12_goesOn_49 (fun H locs hP hD hS => ?_)
      exact j50 x1 S_18 _ _ hZ hP hD hS _ (lv_sub hl [0, 1] rfl)
  · have hZ := jx_i_pos c_4 hZ
    refine lv_aload_n hx hb dX12_goesOn_8 rfl (lv_at hl 0 rfl) ?_
    refine gf_12_compared hx hb hts in12 hown hK hP (hts (.fieldLink RX12 64 "CoinsOfLastModel" "compared" "[Z") (List.mem_of_getElem? (i := 1) rfl)) dX12_goesOn_9 ?_
    refine lv_aload_n hx hb dX12_goesOn_12 rfl (lv_at hl 0 rfl) ?_
    refine gf_12_deep hx hb hts in12 hown hK hP (hts (.fieldLink RX12 194 "CoinsOfLastModel" "deep" "I") (List.mem_of_getElem? (i := 2) rfl)) dX12_goesOn_13 ?_
    obtain ⟨c_20, hZ⟩ := jx_a_some hZ
    refine M_zald hx hb hK hP wM_19 c_20 dX12_goesOn_16 ?_
    refine lv_if_eq (tgt := 22) hx hb dX12_goesOn_17 (by decide) (fun c_21 => ?_) (fun c_21 => ?_)
    · have hZ := jx_i_pos c_21 hZ
      refine lv_aload_n hx hb dX12_goesOn_22 rfl (lv_at hl 0 rfl) ?_
      refine gf_12_compared hx hb hts in12 hown hK hP (hts (.fieldLink RX12 64 "CoinsOfLastModel" "compared" "[Z") (List.mem_of_getElem? (i := 1) rfl)) dX12_goesOn_23 ?_
      refine lv_aload_n hx hb dX12_goesOn_26 rfl (lv_at hl 0 rfl) ?_
      refine gf_12_deep hx hb hts in12 hown hK hP (hts (.fieldLink RX12 194 "CoinsOfLastModel" "deep" "I") (List.mem_of_getElem? (i := 2) rfl)) dX12_goesOn_27 ?_
      refine lv_iconst (v := (1 : Int32)) hx hb dX12_goesOn_30 (by decide) ?_
      obtain ⟨c_22, hZ⟩ := jx_a_some hZ
      obtain ⟨S_23, e_S_23, hZ⟩ := jx_l_some hZ
      refine M_zast hx hb hK hP hD hS wM_19 (fun _ => wMs_19) c_22 e_S_23 dX12_goesOn_31 (fun H locs hP hD hS => ?_)
      refine lv_goto (tgt := 50) hx hb dX12_goesOn_32 (by decide) ?_
      exact j50 x1 S_23 _ _ hZ hP hD hS _ (lv_sub hl [0, 1] rfl)
    · have hZ := jx_i_neg c_21 hZ
      refine lv_iconst (v := (0 : Int32)) hx hb dX12_goesOn_20 (by decide) ?_
      exact leave_z hx hb hr hlocks rfl hP hS hZ dX12_goesOn_21
theorem hd_X12_goesOn : yX12_goesOn.cls = RX12 ∧ yX12_goesOn.cls ≠ "java/lang/invoke/MethodHandle" ∧ yX12_goesOn.cls ≠ "java/lang/invoke/VarHandle" ∧ (parseMethodDescriptor yX12_goesOn.desc).map (fun d => d.parameters.length) = some 1 := by decide +kernel
theorem hd_X12_oneRead : yX12_oneRead.cls = RX12 ∧ yX12_oneRead.cls ≠ "java/lang/invoke/MethodHandle" ∧ yX12_oneRead.cls ≠ "java/lang/invoke/VarHandle" ∧ (parseMethodDescriptor yX12_oneRead.desc).map (fun d => d.parameters.length) = some 0 := by decide +kernel
theorem hd_X12_opOf : yX12_opOf.cls ≠ "java/lang/invoke/MethodHandle" ∧ yX12_opOf.cls ≠ "java/lang/invoke/VarHandle" ∧ (parseMethodDescriptor yX12_opOf.desc).map (fun d => d.parameters.length) = some 1 := by decide +kernel
theorem hd_X12_opens : yX12_opens.cls = RX12 ∧ yX12_opens.cls ≠ "java/lang/invoke/MethodHandle" ∧ yX12_opens.cls ≠ "java/lang/invoke/VarHandle" ∧ (parseMethodDescriptor yX12_opens.desc).map (fun d => d.parameters.length) = some 1 := by decide +kernel
-- X12_eRead
def f_X12_eRead_101 (S_10 : St) : Option (Int32 × St) :=
  some ((0 : Int32), S_10)
def f_X12_eRead_91 (S_9 : St) : Option (Int32 × St) :=
  f_X12_eRead_101 S_9
def f_X12_eRead_136 (S_14 : St) : Option (Int32 × St) :=
  some ((0 : Int32), S_14)
def f_X12_eRead_210 (S_16 : St) : Option (Int32 × St) :=
  jx_b (f_X12_unwinds (1 : Int32) S_16) (fun S_17 => (if (S_17.1 0 33) = 0 then some ((1 : Int32), S_17) else some ((0 : Int32), S_17)))
def f_X12_eRead_228i24 (x1_41 : Int32) (S_41 : St) : Option ((Int32 × St) ⊕ ((St) ⊕ ((St) ⊕ ((St) ⊕ (St))))) :=
  some (.inl (x1_41, S_41))
def f_X12_eRead_115i24 (x1_62 : Int32) (S_62 : St) : Option ((Int32 × St) ⊕ ((St) ⊕ ((St) ⊕ ((St) ⊕ (St))))) :=
  f_X12_eRead_228i24 x1_62 S_62
def f_X12_eRead_103i24 (x3_60 : Int32) (S_60 : St) : Option ((Int32 × St) ⊕ ((St) ⊕ ((St) ⊕ ((St) ⊕ (St))))) :=
  (if x3_60 = 0 then jx_b (f_X12_unwinds (6 : Int32) S_60) (fun S_65 => f_X12_eRead_115i24 x3_60 S_65) else f_X12_eRead_115i24 x3_60 S_60)
def f_X12_eRead_85i24 (x3_72 : Int32) (s1_72 : Int32) (S_72 : St) : Option ((Int32 × St) ⊕ ((St) ⊕ ((St) ⊕ ((St) ⊕ (St))))) :=
  jx_b2 (f_X12_opens s1_72 S_72) (fun r_75 S_73 => (if r_75 = 0 then some (.inr (.inl S_73)) else f_X12_eRead_103i24 x3_72 S_73))
def f_X12_eRead_56i24 (x2_54 : Int32) (s0_54 : Int32) (S_54 : St) : Option ((Int32 × St) ⊕ ((St) ⊕ ((St) ⊕ ((St) ⊕ (St))))) :=
  (if s0_54 = 0 then jx_b2 (f_X12_oneRead S_54) (fun r_58 S_56 => (if r_58 = 0 then some (.inr (.inr (.inl S_56))) else f_X12_eRead_103i24 s0_54 S_56)) else (if x2_54 = (40 : Int32) then f_X12_eRead_85i24 s0_54 (0 : Int32) S_54 else (if x2_54 = (33 : Int32) then f_X12_eRead_85i24 s0_54 (11 : Int32) S_54 else f_X12_eRead_85i24 s0_54 (12 : Int32) S_54)))
def f_X12_eRead_51i24 (x2_53 : Int32) (S_53 : St) : Option ((Int32 × St) ⊕ ((St) ⊕ ((St) ⊕ ((St) ⊕ (St))))) :=
  f_X12_eRead_56i24 x2_53 (1 : Int32) S_53
def b_X12_eRead_24 (x1 : Int32) (S : St) : Option ((Int32 × St) ⊕ ((St) ⊕ ((St) ⊕ ((St) ⊕ (St))))) :=
  jx_b2 (f_X12_sign S) (fun r_23 S_21 => (if x1 = 0 then jx_b2 (f_X12_opOf r_23 S_21) (fun r_27 S_25 => (if r_27 ≤ 0 then (if r_23 = (41 : Int32) then (if (S_25.1 0 33) ≤ 0 then some (.inr (.inr (.inr (.inr S_25)))) else jx_b (f_X12_unwinds (1 : Int32) S_25) (fun S_33 => jx_l (u1 S_33 0 30 ((S_33.1 0 30) - (1 : Int32))) (fun S_35 => jx_l (u1 S_35 0 31 ((S_35.1 0 31) - (1 : Int32))) (fun S_36 => jx_l (u1 S_36 0 33 ((S_36.1 0 33) - (1 : Int32))) (fun S_37 => jx_l (u1 S_37 0 27 ((S_37.1 0 27) + (1 : Int32))) (fun S_38 => jx_b (f_X12_unwinds (6 : Int32) S_38) (fun S_39 => f_X12_eRead_228i24 x1 S_39))))))) else some (.inr (.inr (.inr (.inr S_25))))) else jx_b2 (f_X12_opOf r_23 S_25) (fun r_45 S_43 => jx_b2 (f_X12_goesOn r_45 S_43) (fun r_48 S_46 => (if r_48 = 0 then some (.inr (.inr (.inr (.inl S_46)))) else f_X12_eRead_228i24 (1 : Int32) S_46))))) else (if r_23 = (40 : Int32) then f_X12_eRead_51i24 r_23 S_21 else (if r_23 = (33 : Int32) then f_X12_eRead_51i24 r_23 S_21 else (if r_23 = (45 : Int32) then f_X12_eRead_51i24 r_23 S_21 else f_X12_eRead_56i24 r_23 (0 : Int32) S_21)))))
def g_X12_eRead_24 : (Int32 × St) → Option ((Int32 × St) ⊕ ((St) ⊕ ((St) ⊕ ((St) ⊕ (St))))) := fun z => b_X12_eRead_24 z.1 z.2
def f_X12_eRead (S : St) : Option (Int32 × St) :=
  jx_l (u1 S 0 30 (0 : Int32)) (fun S_1 => jx_l (u1 S_1 0 31 (0 : Int32)) (fun S_2 => jx_l (u1 S_2 0 33 (0 : Int32)) (fun S_3 => jx_a (0 : Int32) 8 (jx_l (u1 S_3 19 (Int32.toNatClampNeg (0 : Int32)) (vp_nar .boolean (0 : Int32))) (fun S_5 => jx_b (jx_w (g_X12_eRead_24) FU ((1 : Int32), S_5)) (fun z => Sum.elim (fun z => f_X12_eRead_91 z) (fun z => Sum.elim (fun z => f_X12_eRead_101 z) (fun z => Sum.elim (fun z => f_X12_eRead_136 z) (fun z => f_X12_eRead_210 z) z) z) z))))))
set_option maxHeartbeats 4000000 in
set_option maxRecDepth 100000 in
theorem c_X12_eRead (l : Launch) (D : va_G) (q : Nat → Nat) (k : CI) (S : St) (sz : Nat) (Z : Int32 × St) (hZ : f_X12_eRead S = some Z) : MetI W_M SM l yX12_eRead wsX12_eRead { frames := 3, cells := 0, slots := 0, locals := 63 } [.ref (q 0)] D q k S sz Z := by
  refine enter (cc := cX12_eRead) (maxL := 4) (ret := some .boolean) (by decide) rfl (Nat.le_of_ble_eq_true rfl) ?_
  intro p e s m below meth c A ls hx hb hr hts hown hlocks hml hP hK hD hA hS hsp hAe hl
  have hown : s.vm.findClass RX12 = some m.cls := hown
  have hl : lv_has ls 4 [(0, .ref (q 0))] := hl
  have in12 : ∀ w ∈ wsX120, w ∈ wsX12_eRead := fun _ h => (List.mem_cons_of_mem _ (List.mem_append_right _ h))
  have j101 : ∀ (S_10 : St)  (H : Heap) (locs : List Loc) (hZ : f_X12_eRead_101 S_10 = some Z) (hP : va_P D vwCl (W_M q k S_10) H) (hD : va_D A (W_M q k S_10)) (hS : va_S A s.heap H locs) (ls : Array Slot) (hl : lv_has ls 4 []), W p l e ({ frames := 3, cells := 0, slots := 0, locals := 63 } : Room) s m ([.ref (q 0)] : List Value).toArray below meth c H locs 0 0 (MQ below (va_Qi (fun r u => (r, u) = Z) (fun u t => va_P D vwCl (W_M q k u) t.heap) A) ([.ref (q 0)] : List Value).toArray s 0 0 A) (F0 m 101 ls []) := by
    intro S_10   H locs hZ hP hD hS ls hl
    unfold f_X12_eRead_101 at hZ
    refine lv_iconst (v := (0 : Int32)) hx hb dX12_eRead_101 (by decide) ?_
    exact leave_z hx hb hr hlocks rfl hP hS hZ dX12_eRead_102
  have j91 : ∀ (S_9 : St)  (H : Heap) (locs : List Loc) (hZ : f_X12_eRead_91 S_9 = some Z) (hP : va_P D vwCl (W_M q k S_9) H) (hD : va_D A (W_M q k S_9)) (hS : va_S A s.heap H locs) (ls : Array Slot) (hl : lv_has ls 4 []), W p l e ({ frames := 3, cells := 0, slots := 0, locals := 63 } : Room) s m ([.ref (q 0)] : List Value).toArray below meth c H locs 0 0 (MQ below (va_Qi (fun r u => (r, u) = Z) (fun u t => va_P D vwCl (W_M q k u) t.heap) A) ([.ref (q 0)] : List Value).toArray s 0 0 A) (F0 m 91 ls []) := by
    intro S_9   H locs hZ hP hD hS ls hl
    unfold f_X12_eRead_91 at hZ
    refine lv_goto (tgt := 101) hx hb dX12_eRead_91 (by decide) ?_
    exact j101 S_9 _ _ hZ hP hD hS _ (lv_sub hl [] rfl)
  have j136 : ∀ (S_14 : St)  (H : Heap) (locs : List Loc) (hZ : f_X12_eRead_136 S_14 = some Z) (hP : va_P D vwCl (W_M q k S_14) H) (hD : va_D A (W_M q k S_14)) (hS : va_S A s.heap H locs) (ls : Array Slot) (hl : lv_has ls 4 []), W p l e ({ frames := 3, cells := 0, slots := 0, locals := 63 } : Room) s m ([.ref (q 0)] : List Value).toArray below meth c H locs 0 0 (MQ below (va_Qi (fun r u => (r, u) = Z) (fun u t => va_P D vwCl (W_M q k u) t.heap) A) ([.ref (q 0)] : List Value).toArray s 0 0 A) (F0 m 136 ls []) := by
    intro S_14   H locs hZ hP hD hS ls hl
    unfold f_X12_eRead_136 at hZ
    refine lv_iconst (v := (0 : Int32)) hx hb dX12_eRead_136 (by decide) ?_
    exact leave_z hx hb hr hlocks rfl hP hS hZ dX12_eRead_137
  have j210 : ∀ (S_16 : St)  (H : Heap) (locs : List Loc) (hZ : f_X12_eRead_210 S_16 = some Z) (hP : va_P D vwCl (W_M q k S_16) H) (hD : va_D A (W_M q k S_16)) (hS : va_S A s.heap H locs) (ls : Array Slot) (hl : lv_has ls 4 [(0, .ref (q 0))]), W p l e ({ frames := 3, cells := 0, slots := 0, locals := 63 } : Room) s m ([.ref (q 0)] : List Value).toArray below meth c H locs 0 0 (MQ below (va_Qi (fun r u => (r, u) = Z) (fun u t => va_P D vwCl (W_M q k u) t.heap) A) ([.ref (q 0)] : List Value).toArray s 0 0 A) (F0 m 210 ls []) := by
    intro S_16   H locs hZ hP hD hS ls hl
    unfold f_X12_eRead_210 at hZ
    refine lv_aload_n hx hb dX12_eRead_210 rfl (lv_at hl 0 rfl) ?_
    refine lv_iconst (v := (1 : Int32)) hx hb dX12_eRead_211 (by decide) ?_
    obtain ⟨S_17, hc_18, hZ⟩ := jx_b_some hZ
    refine call_Vv SM_ok sameM ⟨hx, hb, hml, hown, hts⟩ (c_X12_unwinds l D q k (1 : Int32) S_16 _ S_17  hc_18) (cwV 1 hts gX12_eRead_X12_unwinds rfl rfl rfl hd_X12_unwinds ⟨Nat.le_of_ble_eq_true rfl, Nat.le_of_ble_eq_true rfl⟩) hK hP hD hS hA hsp (va_recv hK hP (ci := 12) (q0 := 0) rfl wM_0) (As := [.int (1 : Int32)]) rfl hl.1 rfl (Nat.le_of_ble_eq_true rfl) dX12_eRead_212 ⟨Nat.zero_le _, Nat.zero_le _⟩ (fun H locs hP hD hS => ?_)
    refine lv_aload_n hx hb dX12_eRead_215 rfl (lv_at hl 0 rfl) ?_
    refine gf_12_deep hx hb hts in12 hown hK hP (hts (.fieldLink RX12 194 "CoinsOfLastModel" "deep" "I") (List.mem_of_getElem? (i := 3) rfl)) dX12_eRead_216 ?_
    refine lv_if_ne (tgt := 226) hx hb dX12_eRead_219 (by decide) (fun c_19 => ?_) (fun c_19 => ?_)
    · have hZ := jx_i_neg c_19 hZ
      refine lv_iconst (v := (0 : Int32)) hx hb dX12_eRead_226 (by decide) ?_
      exact leave_z hx hb hr hlocks rfl hP hS hZ dX12_eRead_227
    · have hZ := jx_i_pos c_19 hZ
      refine lv_iconst (v := (1 : Int32)) hx hb dX12_eRead_222 (by decide) ?_
      refine lv_goto (tgt := 227) hx hb dX12_eRead_223 (by decide) ?_
      exact leave_z hx hb hr hlocks rfl hP hS hZ dX12_eRead_227
  unfold f_X12_eRead at hZ
  refine lv_aload_n hx hb dX12_eRead_0 rfl (lv_at hl 0 rfl) ?_
  refine lv_iconst (v := (0 : Int32)) hx hb dX12_eRead_1 (by decide) ?_
  obtain ⟨S_1, e_S_1, hZ⟩ := jx_l_some hZ
  refine pf_12_opMany hx hb hts in12 hown hK hP hD hS (hts (.fieldLink RX12 181 "CoinsOfLastModel" "opMany" "I") (List.mem_of_getElem? (i := 1) rfl)) e_S_1 dX12_eRead_2 (fun H locs hP hD hS => ?_)
  refine lv_aload_n hx hb dX12_eRead_5 rfl (lv_at hl 0 rfl) ?_
  refine lv_iconst (v := (0 : Int32)) hx hb dX12_eRead_6 (by decide) ?_
  obtain ⟨S_2, e_S_2, hZ⟩ := jx_l_some hZ
  refine pf_12_opened hx hb hts in12 hown hK hP hD hS (hts (.fieldLink RX12 187 "CoinsOfLastModel" "opened" "I") (List.mem_of_getElem? (i := 2) rfl)) e_S_2 dX12_eRead_7 (fun H locs hP hD hS => ?_)
  refine lv_aload_n hx hb dX12_eRead_10 rfl (lv_at hl 0 rfl) ?_
  refine lv_iconst (v := (0 : Int32)) hx hb dX12_eRead_11 (by decide) ?_
  obtain ⟨S_3, e_S_3, hZ⟩ := jx_l_some hZ
  refine pf_12_deep hx hb hts in12 hown hK hP hD hS (hts (.fieldLink RX12 194 "CoinsOfLastModel" "deep" "I") (List.mem_of_getElem? (i := 3) rfl)) e_S_3 dX12_eRead_12 (fun H locs hP hD hS => ?_)
  refine lv_aload_n hx hb dX12_eRead_15 rfl (lv_at hl 0 rfl) ?_
  refine gf_12_compared hx hb hts in12 hown hK hP (hts (.fieldLink RX12 64 "CoinsOfLastModel" "compared" "[Z") (List.mem_of_getElem? (i := 4) rfl)) dX12_eRead_16 ?_
  refine lv_iconst (v := (0 : Int32)) hx hb dX12_eRead_19 (by decide) ?_
  refine lv_iconst (v := (0 : Int32)) hx hb dX12_eRead_20 (by decide) ?_
  obtain ⟨c_4, hZ⟩ := jx_a_some hZ
  obtain ⟨S_5, e_S_5, hZ⟩ := jx_l_some hZ
  refine M_zast hx hb hK hP hD hS wM_19 (fun _ => wMs_19) c_4 e_S_5 dX12_eRead_21 (fun H locs hP hD hS => ?_)
  refine lv_iconst (v := (1 : Int32)) hx hb dX12_eRead_22 (by decide) ?_
  refine lv_istore_n (lv' := [(1, .int (1 : Int32)), (0, .ref (q 0))]) hx hb dX12_eRead_23 rfl hl (by decide) rfl (fun ls hl => ?_)
  obtain ⟨r_8, hw, hza_8⟩ := jx_b_some hZ
  have l_8 : ∀ (nn : Nat) (x1_6 : Int32) (S_7 : St) (H : Heap) (locs : List Loc) (hw : jx_w (g_X12_eRead_24) nn (x1_6, S_7) = some r_8) (hP : va_P D vwCl (W_M q k S_7) H) (hD : va_D A (W_M q k S_7)) (hS : va_S A s.heap H locs) (ls : Array Slot) (hl : lv_has ls 4 [(0, .ref (q 0)), (1, .int x1_6)]), W p l e ({ frames := 3, cells := 0, slots := 0, locals := 63 } : Room) s m ([.ref (q 0)] : List Value).toArray below meth c H locs 0 0 (MQ below (va_Qi (fun r u => (r, u) = Z) (fun u t => va_P D vwCl (W_M q k u) t.heap) A) ([.ref (q 0)] : List Value).toArray s 0 0 A) (F0 m 24 ls []) := by
    intro nn
    induction nn with
    | zero =>
      intro x1_6 S_7 H locs hw hP hD hS ls hl
      exact jx_w_zero hw
    | succ n_8 ih_8 =>
      intro x1_6 S_7 H locs hw hP hD hS ls hl
      obtain ⟨o_8, hZ, hk_8⟩ := jx_w_succ hw
      have hZ : b_X12_eRead_24 x1_6 S_7 = some o_8 := hZ
      have j228i24 : ∀ (x1_109 : Int32) (S_109 : St)  (o_8 : (Int32 × St) ⊕ ((St) ⊕ ((St) ⊕ ((St) ⊕ (St))))) (hk_8 : jx_k (g_X12_eRead_24) n_8 r_8 o_8) (H : Heap) (locs : List Loc) (hZ : f_X12_eRead_228i24 x1_109 S_109 = some o_8) (hP : va_P D vwCl (W_M q k S_109) H) (hD : va_D A (W_M q k S_109)) (hS : va_S A s.heap H locs) (ls : Array Slot) (hl : lv_has ls 4 [(0, .ref (q 0)), (1, .int x1_109)]), W p l e ({ frames := 3, cells := 0, slots := 0, locals := 63 } : Room) s m ([.ref (q 0)] : List Value).toArray below meth c H locs 0 0 (MQ below (va_Qi (fun r u => (r, u) = Z) (fun u t => va_P D vwCl (W_M q k u) t.heap) A) ([.ref (q 0)] : List Value).toArray s 0 0 A) (F0 m 228 ls []) := by
        intro x1_109 S_109  o_8 hk_8 H locs hZ hP hD hS ls hl
        unfold f_X12_eRead_228i24 at hZ
        refine lv_goto (tgt := 24) hx hb dX12_eRead_228 (by decide) ?_
        have ho := Option.some.inj hZ
        subst ho
        exact ih_8 x1_109 S_109 _ _ hk_8 hP hD hS _ (lv_sub hl [0, 1] rfl)
      have j115i24 : ∀ (x1_130 : Int32) (S_130 : St)  (o_8 : (Int32 × St) ⊕ ((St) ⊕ ((St) ⊕ ((St) ⊕ (St))))) (hk_8 : jx_k (g_X12_eRead_24) n_8 r_8 o_8) (H : Heap) (locs : List Loc) (hZ : f_X12_eRead_115i24 x1_130 S_130 = some o_8) (hP : va_P D vwCl (W_M q k S_130) H) (hD : va_D A (W_M q k S_130)) (hS : va_S A s.heap H locs) (ls : Array Slot) (hl : lv_has ls 4 [(0, .ref (q 0)), (1, .int x1_130)]), W p l e ({ frames := 3, cells := 0, slots := 0, locals := 63 } : Room) s m ([.ref (q 0)] : List Value).toArray below meth c H locs 0 0 (MQ below (va_Qi (fun r u => (r, u) = Z) (fun u t => va_P D vwCl (W_M q k u) t.heap) A) ([.ref (q 0)] : List Value).toArray s 0 0 A) (F0 m 115 ls []) := by
        intro x1_130 S_130  o_8 hk_8 H locs hZ hP hD hS ls hl
        unfold f_X12_eRead_115i24 at hZ
        refine lv_goto (tgt := 228) hx hb dX12_eRead_115 (by decide) ?_
        exact j228i24 x1_130 S_130 _ hk_8 _ _ hZ hP hD hS _ (lv_sub hl [0, 1] rfl)
      have j103i24 : ∀ (x3_128 : Int32) (S_128 : St)  (o_8 : (Int32 × St) ⊕ ((St) ⊕ ((St) ⊕ ((St) ⊕ (St))))) (hk_8 : jx_k (g_X12_eRead_24) n_8 r_8 o_8) (H : Heap) (locs : List Loc) (hZ : f_X12_eRead_103i24 x3_128 S_128 = some o_8) (hP : va_P D vwCl (W_M q k S_128) H) (hD : va_D A (W_M q k S_128)) (hS : va_S A s.heap H locs) (ls : Array Slot) (hl : lv_has ls 4 [(0, .ref (q 0)), (3, .int x3_128)]), W p l e ({ frames := 3, cells := 0, slots := 0, locals := 63 } : Room) s m ([.ref (q 0)] : List Value).toArray below meth c H locs 0 0 (MQ below (va_Qi (fun r u => (r, u) = Z) (fun u t => va_P D vwCl (W_M q k u) t.heap) A) ([.ref (q 0)] : List Value).toArray s 0 0 A) (F0 m 103 ls []) := by
        intro x3_128 S_128  o_8 hk_8 H locs hZ hP hD hS ls hl
        unfold f_X12_eRead_103i24 at hZ
        refine lv_iload_n hx hb dX12_eRead_103 rfl (lv_at hl 1 rfl) ?_
        refine lv_istore_n (lv' := [(1, .int x3_128), (0, .ref (q 0)), (3, .int x3_128)]) hx hb dX12_eRead_104 rfl hl (by decide) rfl (fun ls hl => ?_)
        refine lv_iload_n hx hb dX12_eRead_105 rfl (lv_at hl 0 rfl) ?_
        refine lv_if_ne (tgt := 115) hx hb dX12_eRead_106 (by decide) (fun c_129 => ?_) (fun c_129 => ?_)
        · have hZ := jx_i_neg c_129 hZ
          exact j115i24 x3_128 S_128 _ hk_8 _ _ hZ hP hD hS _ (lv_sub hl [1, 0] rfl)
        · have hZ := jx_i_pos c_129 hZ
          refine lv_aload_n hx hb dX12_eRead_109 rfl (lv_at hl 1 rfl) ?_
          refine lv_bipush (v := (6 : Int32)) hx hb dX12_eRead_110 (by decide) ?_
          obtain ⟨S_133, hc_134, hZ⟩ := jx_b_some hZ
          refine call_Vv SM_ok sameM ⟨hx, hb, hml, hown, hts⟩ (c_X12_unwinds l D q k (6 : Int32) S_128 _ S_133  hc_134) (cwV 1 hts gX12_eRead_X12_unwinds rfl rfl rfl hd_X12_unwinds ⟨Nat.le_of_ble_eq_true rfl, Nat.le_of_ble_eq_true rfl⟩) hK hP hD hS hA hsp (va_recv hK hP (ci := 12) (q0 := 0) rfl wM_0) (As := [.int (6 : Int32)]) rfl hl.1 rfl (Nat.le_of_ble_eq_true rfl) dX12_eRead_112 ⟨Nat.zero_le _, Nat.zero_le _⟩ (fun H locs hP hD hS => ?_)
          exact j115i24 x3_128 S_133 _ hk_8 _ _ hZ hP hD hS _ (lv_sub hl [1, 0] rfl)
      have j85i24 : ∀ (x3_140 : Int32) (s1_140 : Int32) (S_140 : St)  (o_8 : (Int32 × St) ⊕ ((St) ⊕ ((St) ⊕ ((St) ⊕ (St))))) (hk_8 : jx_k (g_X12_eRead_24) n_8 r_8 o_8) (H : Heap) (locs : List Loc) (hZ : f_X12_eRead_85i24 x3_140 s1_140 S_140 = some o_8) (hP : va_P D vwCl (W_M q k S_140) H) (hD : va_D A (W_M q k S_140)) (hS : va_S A s.heap H locs) (ls : Array Slot) (hl : lv_has ls 4 [(0, .ref (q 0)), (3, .int x3_140)]), W p l e ({ frames := 3, cells := 0, slots := 0, locals := 63 } : Room) s m ([.ref (q 0)] : List Value).toArray below meth c H locs 0 0 (MQ below (va_Qi (fun r u => (r, u) = Z) (fun u t => va_P D vwCl (W_M q k u) t.heap) A) ([.ref (q 0)] : List Value).toArray s 0 0 A) (F0 m 85 ls [.int s1_140, .ref (q 0)]) := by
        intro x3_140 s1_140 S_140  o_8 hk_8 H locs hZ hP hD hS ls hl
        unfold f_X12_eRead_85i24 at hZ
        obtain ⟨r_143, S_141, hc_142, hZ⟩ := jx_b2_some hZ
        refine call_Vi SM_ok sameM ⟨hx, hb, hml, hown, hts⟩ (c_X12_opens l D q k s1_140 S_140 _ (r_143, S_141)  hc_142) (cwV 1 hts gX12_eRead_X12_opens rfl rfl rfl hd_X12_opens ⟨Nat.le_of_ble_eq_true rfl, Nat.le_of_ble_eq_true rfl⟩) hK hP hD hS hA hsp (va_recv hK hP (ci := 12) (q0 := 0) rfl wM_0) (As := [.int s1_140]) rfl hl.1 rfl (Nat.le_of_ble_eq_true rfl) dX12_eRead_85 ⟨Nat.zero_le _, Nat.zero_le _⟩ (fun H locs hP hD hS => ?_)
        refine lv_if_ne (tgt := 103) hx hb dX12_eRead_88 (by decide) (fun c_144 => ?_) (fun c_144 => ?_)
        · have hZ := jx_i_neg c_144 hZ
          exact j103i24 x3_140 S_141 _ hk_8 _ _ hZ hP hD hS _ (lv_sub hl [0, 1] rfl)
        · have hZ := jx_i_pos c_144 hZ
          have ho := Option.some.inj hZ
          subst ho
          have hE := hza_8
          rw [← (show .inl S_141 = r_8 from hk_8)] at hE
          have hZ : f_X12_eRead_91 S_141 = some Z := hE
          exact j91 S_141 _ _ hZ hP hD hS _ (lv_sub hl [] rfl)
      have j56i24 : ∀ (x2_122 : Int32) (s0_122 : Int32) (S_122 : St)  (o_8 : (Int32 × St) ⊕ ((St) ⊕ ((St) ⊕ ((St) ⊕ (St))))) (hk_8 : jx_k (g_X12_eRead_24) n_8 r_8 o_8) (H : Heap) (locs : List Loc) (hZ : f_X12_eRead_56i24 x2_122 s0_122 S_122 = some o_8) (hP : va_P D vwCl (W_M q k S_122) H) (hD : va_D A (W_M q k S_122)) (hS : va_S A s.heap H locs) (ls : Array Slot) (hl : lv_has ls 4 [(0, .ref (q 0)), (2, .int x2_122)]), W p l e ({ frames := 3, cells := 0, slots := 0, locals := 63 } : Room) s m ([.ref (q 0)] : List Value).toArray below meth c H locs 0 0 (MQ below (va_Qi (fun r u => (r, u) = Z) (fun u t => va_P D vwCl (W_M q k u) t.heap) A) ([.ref (q 0)] : List Value).toArray s 0 0 A) (F0 m 56 ls [.int s0_122]) := by
        intro x2_122 s0_122 S_122  o_8 hk_8 H locs hZ hP hD hS ls hl
        unfold f_X12_eRead_56i24 at hZ
        refine lv_istore_n (lv' := [(3, .int s0_122), (0, .ref (q 0)), (2, .int x2_122)]) hx hb dX12_eRead_56 rfl hl (by decide) rfl (fun ls hl => ?_)
        refine lv_iload_n hx hb dX12_eRead_57 rfl (lv_at hl 0 rfl) ?_
        refine lv_if_eq (tgt := 94) hx hb dX12_eRead_58 (by decide) (fun c_123 => ?_) (fun c_123 => ?_)
        · have hZ := jx_i_pos c_123 hZ
          refine lv_aload_n hx hb dX12_eRead_94 rfl (lv_at hl 1 rfl) ?_
          obtain ⟨r_126, S_124, hc_125, hZ⟩ := jx_b2_some hZ
          refine call_Vi SM_ok sameM ⟨hx, hb, hml, hown, hts⟩ (c_X12_oneRead l D q k  S_122 _ (r_126, S_124)  hc_125) (cwV 0 hts gX12_eRead_X12_oneRead rfl rfl rfl hd_X12_oneRead ⟨Nat.le_of_ble_eq_true rfl, Nat.le_of_ble_eq_true rfl⟩) hK hP hD hS hA hsp (va_recv hK hP (ci := 12) (q0 := 0) rfl wM_0) (As := []) rfl hl.1 rfl (Nat.le_of_ble_eq_true rfl) dX12_eRead_95 ⟨Nat.zero_le _, Nat.zero_le _⟩ (fun H locs hP hD hS => ?_)
          refine lv_if_ne (tgt := 103) hx hb dX12_eRead_98 (by decide) (fun c_127 => ?_) (fun c_127 => ?_)
          · have hZ := jx_i_neg c_127 hZ
            exact j103i24 s0_122 S_124 _ hk_8 _ _ hZ hP hD hS _ (lv_sub hl [1, 0] rfl)
          · have hZ := jx_i_pos c_127 hZ
            have ho := Option.some.inj hZ
            subst ho
            have hE := hza_8
            rw [← (show .inr (.inl S_124) = r_8 from hk_8)] at hE
            have hZ : f_X12_eRead_101 S_124 = some Z := hE
            exact j101 S_124 _ _ hZ hP hD hS _ (lv_sub hl [] rfl)
        · have hZ := jx_i_neg c_123 hZ
          refine lv_aload_n hx hb dX12_eRead_61 rfl (lv_at hl 1 rfl) ?_
          refine lv_iload_n hx hb dX12_eRead_62 rfl (lv_at hl 2 rfl) ?_
          refine lv_bipush (v := (40 : Int32)) hx hb dX12_eRead_63 (by decide) ?_
          refine lv_icmp_ne (tgt := 72) hx hb dX12_eRead_65 (by decide) (fun c_138 => ?_) (fun c_138 => ?_)
          · have hZ := jx_i_neg c_138 hZ
            refine lv_iload_n hx hb dX12_eRead_72 rfl (lv_at hl 2 rfl) ?_
            refine lv_bipush (v := (33 : Int32)) hx hb dX12_eRead_73 (by decide) ?_
            refine lv_icmp_ne (tgt := 83) hx hb dX12_eRead_75 (by decide) (fun c_139 => ?_) (fun c_139 => ?_)
            · have hZ := jx_i_neg c_139 hZ
              refine lv_bipush (v := (12 : Int32)) hx hb dX12_eRead_83 (by decide) ?_
              exact j85i24 s0_122 (12 : Int32) S_122 _ hk_8 _ _ hZ hP hD hS _ (lv_sub hl [1, 0] rfl)
            · have hZ := jx_i_pos c_139 hZ
              refine lv_bipush (v := (11 : Int32)) hx hb dX12_eRead_78 (by decide) ?_
              refine lv_goto (tgt := 85) hx hb dX12_eRead_80 (by decide) ?_
              exact j85i24 s0_122 (11 : Int32) S_122 _ hk_8 _ _ hZ hP hD hS _ (lv_sub hl [1, 0] rfl)
          · have hZ := jx_i_pos c_138 hZ
            refine lv_iconst (v := (0 : Int32)) hx hb dX12_eRead_68 (by decide) ?_
            refine lv_goto (tgt := 85) hx hb dX12_eRead_69 (by decide) ?_
            exact j85i24 s0_122 (0 : Int32) S_122 _ hk_8 _ _ hZ hP hD hS _ (lv_sub hl [1, 0] rfl)
      have j51i24 : ∀ (x2_121 : Int32) (S_121 : St)  (o_8 : (Int32 × St) ⊕ ((St) ⊕ ((St) ⊕ ((St) ⊕ (St))))) (hk_8 : jx_k (g_X12_eRead_24) n_8 r_8 o_8) (H : Heap) (locs : List Loc) (hZ : f_X12_eRead_51i24 x2_121 S_121 = some o_8) (hP : va_P D vwCl (W_M q k S_121) H) (hD : va_D A (W_M q k S_121)) (hS : va_S A s.heap H locs) (ls : Array Slot) (hl : lv_has ls 4 [(0, .ref (q 0)), (2, .int x2_121)]), W p l e ({ frames := 3, cells := 0, slots := 0, locals := 63 } : Room) s m ([.ref (q 0)] : List Value).toArray below meth c H locs 0 0 (MQ below (va_Qi (fun r u => (r, u) = Z) (fun u t => va_P D vwCl (W_M q k u) t.heap) A) ([.ref (q 0)] : List Value).toArray s 0 0 A) (F0 m 51 ls []) := by
        intro x2_121 S_121  o_8 hk_8 H locs hZ hP hD hS ls hl
        unfold f_X12_eRead_51i24 at hZ
        refine lv_iconst (v := (1 : Int32)) hx hb dX12_eRead_51 (by decide) ?_
        refine lv_goto (tgt := 56) hx hb dX12_eRead_52 (by decide) ?_
        exact j56i24 x2_121 (1 : Int32) S_121 _ hk_8 _ _ hZ hP hD hS _ (lv_sub hl [0, 1] rfl)
      unfold b_X12_eRead_24 at hZ
      refine lv_aload_n hx hb dX12_eRead_24 rfl (lv_at hl 0 rfl) ?_
      obtain ⟨r_91, S_89, hc_90, hZ⟩ := jx_b2_some hZ
      refine call_Vi SM_ok sameM ⟨hx, hb, hml, hown, hts⟩ (c_X12_sign l D q k  S_7 _ (r_91, S_89)  hc_90) (cwV 0 hts gX12_eRead_X12_sign rfl rfl rfl hd_X12_sign ⟨Nat.le_of_ble_eq_true rfl, Nat.le_of_ble_eq_true rfl⟩) hK hP hD hS hA hsp (va_recv hK hP (ci := 12) (q0 := 0) rfl wM_0) (As := []) rfl hl.1 rfl (Nat.le_of_ble_eq_true rfl) dX12_eRead_25 ⟨Nat.zero_le _, Nat.zero_le _⟩ (fun H locs hP hD hS => ?_)
      refine lv_istore_n (lv' := [(2, .int r_91), (0, .ref (q 0)), (1, .int x1_6)]) hx hb dX12_eRead_28 rfl hl (by decide) rfl (fun ls hl => ?_)
      refine lv_iload_n hx hb dX12_eRead_29 rfl (lv_at hl 2 rfl) ?_
      refine lv_if_eq (tgt := 118) hx hb dX12_eRead_30 (by decide) (fun c_92 => ?_) (fun c_92 => ?_)
      · have hZ := jx_i_pos c_92 hZ
        refine lv_iload_n hx hb dX12_eRead_118 rfl (lv_at hl 0 rfl) ?_
        obtain ⟨r_95, S_93, hc_94, hZ⟩ := jx_b2_some hZ
        refine call_Si SM_ok sameM ⟨hx, hb, hml, hown, hts⟩ (c_X12_opOf l D q k r_91 S_89 _ (r_95, S_93)  hc_94) (va_cwS 1 hts gX12_eRead_X12_opOf rfl rfl rfl hd_X12_opOf ⟨Nat.le_of_ble_eq_true rfl, Nat.le_of_ble_eq_true rfl⟩) hK hP hD hS hA hsp (As := [.int r_91]) rfl hl.1 rfl (Nat.le_of_ble_eq_true rfl) dX12_eRead_119 ⟨Nat.zero_le _, Nat.zero_le _⟩ (fun H locs hP hD hS => ?_)
        refine lv_if_le (tgt := 143) hx hb dX12_eRead_122 (by decide) (fun c_96 => ?_) (fun c_96 => ?_)
        · have hZ := jx_i_pos c_96 hZ
          refine lv_iload_n hx hb dX12_eRead_143 rfl (lv_at hl 0 rfl) ?_
          refine lv_bipush (v := (41 : Int32)) hx hb dX12_eRead_144 (by decide) ?_
          refine lv_icmp_ne (tgt := 210) hx hb dX12_eRead_146 (by decide) (fun c_97 => ?_) (fun c_97 => ?_)
          · have hZ := jx_i_neg c_97 hZ
            have ho := Option.some.inj hZ
            subst ho
            have hE := hza_8
            rw [← (show .inr (.inr (.inr S_93)) = r_8 from hk_8)] at hE
            have hZ : f_X12_eRead_210 S_93 = some Z := hE
            exact j210 S_93 _ _ hZ hP hD hS _ (lv_sub hl [1] rfl)
          · have hZ := jx_i_pos c_97 hZ
            refine lv_aload_n hx hb dX12_eRead_149 rfl (lv_at hl 1 rfl) ?_
            refine gf_12_deep hx hb hts in12 hown hK hP (hts (.fieldLink RX12 194 "CoinsOfLastModel" "deep" "I") (List.mem_of_getElem? (i := 3) rfl)) dX12_eRead_150 ?_
            refine lv_if_le (tgt := 210) hx hb dX12_eRead_153 (by decide) (fun c_99 => ?_) (fun c_99 => ?_)
            · have hZ := jx_i_pos c_99 hZ
              have ho := Option.some.inj hZ
              subst ho
              have hE := hza_8
              rw [← (show .inr (.inr (.inr S_93)) = r_8 from hk_8)] at hE
              have hZ : f_X12_eRead_210 S_93 = some Z := hE
              exact j210 S_93 _ _ hZ hP hD hS _ (lv_sub hl [1] rfl)
            · have hZ := jx_i_neg c_99 hZ
              refine lv_aload_n hx hb dX12_eRead_156 rfl (lv_at hl 1 rfl) ?_
              refine lv_iconst (v := (1 : Int32)) hx hb dX12_eRead_157 (by decide) ?_
              obtain ⟨S_101, hc_102, hZ⟩ := jx_b_some hZ
              refine call_Vv SM_ok sameM ⟨hx, hb, hml, hown, hts⟩ (c_X12_unwinds l D q k (1 : Int32) S_93 _ S_101  hc_102) (cwV 1 hts gX12_eRead_X12_unwinds rfl rfl rfl hd_X12_unwinds ⟨Nat.le_of_ble_eq_true rfl, Nat.le_of_ble_eq_true rfl⟩) hK hP hD hS hA hsp (va_recv hK hP (ci := 12) (q0 := 0) rfl wM_0) (As := [.int (1 : Int32)]) rfl hl.1 rfl (Nat.le_of_ble_eq_true rfl) dX12_eRead_158 ⟨Nat.zero_le _, Nat.zero_le _⟩ (fun H locs hP hD hS => ?_)
              refine lv_aload_n hx hb dX12_eRead_161 rfl (lv_at hl 1 rfl) ?_
              refine lv_dup hx hb dX12_eRead_162 rfl ?_
              refine gf_12_opMany hx hb hts in12 hown hK hP (hts (.fieldLink RX12 181 "CoinsOfLastModel" "opMany" "I") (List.mem_of_getElem? (i := 1) rfl)) dX12_eRead_163 ?_
              refine lv_iconst (v := (1 : Int32)) hx hb dX12_eRead_166 (by decide) ?_
              refine lv_isub hx hb dX12_eRead_167 ?_
              obtain ⟨S_103, e_S_103, hZ⟩ := jx_l_some hZ
              refine pf_12_opMany hx hb hts in12 hown hK hP hD hS (hts (.fieldLink RX12 181 "CoinsOfLastModel" "opMany" "I") (List.mem_of_getElem? (i := 1) rfl)) e_S_103 dX12_eRead_168 (fun H locs hP hD hS => ?_)
              refine lv_aload_n hx hb dX12_eRead_171 rfl (lv_at hl 1 rfl) ?_
              refine lv_dup hx hb dX12_eRead_172 rfl ?_
              refine gf_12_opened hx hb hts in12 hown hK hP (hts (.fieldLink RX12 187 "CoinsOfLastModel" "opened" "I") (List.mem_of_getElem? (i := 2) rfl)) dX12_eRead_173 ?_
              refine lv_iconst (v := (1 : Int32)) hx hb dX12_eRead_176 (by decide) ?_
              refine lv_isub hx hb dX12_eRead_177 ?_
              obtain ⟨S_104, e_S_104, hZ⟩ := jx_l_some hZ
              refine pf_12_opened hx hb hts in12 hown hK hP hD hS (hts (.fieldLink RX12 187 "CoinsOfLastModel" "opened" "I") (List.mem_of_getElem? (i := 2) rfl)) e_S_104 dX12_eRead_178 (fun H locs hP hD hS => ?_)
              refine lv_aload_n hx hb dX12_eRead_181 rfl (lv_at hl 1 rfl) ?_
              refine lv_dup hx hb dX12_eRead_182 rfl ?_
              refine gf_12_deep hx hb hts in12 hown hK hP (hts (.fieldLink RX12 194 "CoinsOfLastModel" "deep" "I") (List.mem_of_getElem? (i := 3) rfl)) dX12_eRead_183 ?_
              refine lv_iconst (v := (1 : Int32)) hx hb dX12_eRead_186 (by decide) ?_
              refine lv_isub hx hb dX12_eRead_187 ?_
              obtain ⟨S_105, e_S_105, hZ⟩ := jx_l_some hZ
              refine pf_12_deep hx hb hts in12 hown hK hP hD hS (hts (.fieldLink RX12 194 "CoinsOfLastModel" "deep" "I") (List.mem_of_getElem? (i := 3) rfl)) e_S_105 dX12_eRead_188 (fun H locs hP hD hS => ?_)
              refine lv_aload_n hx hb dX12_eRead_191 rfl (lv_at hl 1 rfl) ?_
              refine lv_dup hx hb dX12_eRead_192 rfl ?_
              refine gf_12_at0 hx hb hts in12 hown hK hP (hts (.fieldLink RX12 175 "CoinsOfLastModel" "at0" "I") (List.mem_of_getElem? (i := 5) rfl)) dX12_eRead_193 ?_
              refine lv_iconst (v := (1 : Int32)) hx hb dX12_eRead_196 (by decide) ?_
              refine lv_iadd hx hb dX12_eRead_197 ?_
              obtain ⟨S_106, e_S_106, hZ⟩ := jx_l_some hZ
              refine pf_12_at0 hx hb hts in12 hown hK hP hD hS (hts (.fieldLink RX12 175 "CoinsOfLastModel" "at0" "I") (List.mem_of_getElem? (i := 5) rfl)) e_S_106 dX12_eRead_198 (fun H locs hP hD hS => ?_)
              refine lv_aload_n hx hb dX12_eRead_201 rfl (lv_at hl 1 rfl) ?_
              refine lv_bipush (v := (6 : Int32)) hx hb dX12_eRead_202 (by decide) ?_
              obtain ⟨S_107, hc_108, hZ⟩ := jx_b_some hZ
              refine call_Vv SM_ok sameM ⟨hx, hb, hml, hown, hts⟩ (c_X12_unwinds l D q k (6 : Int32) S_106 _ S_107  hc_108) (cwV 1 hts gX12_eRead_X12_unwinds rfl rfl rfl hd_X12_unwinds ⟨Nat.le_of_ble_eq_true rfl, Nat.le_of_ble_eq_true rfl⟩) hK hP hD hS hA hsp (va_recv hK hP (ci := 12) (q0 := 0) rfl wM_0) (As := [.int (6 : Int32)]) rfl hl.1 rfl (Nat.le_of_ble_eq_true rfl) dX12_eRead_204 ⟨Nat.zero_le _, Nat.zero_le _⟩ (fun H locs hP hD hS => ?_)
              refine lv_goto (tgt := 228) hx hb dX12_eRead_207 (by decide) ?_
              exact j228i24 x1_6 S_107 _ hk_8 _ _ hZ hP hD hS _ (lv_sub hl [1, 2] rfl)
        · have hZ := jx_i_neg c_96 hZ
          refine lv_aload_n hx hb dX12_eRead_125 rfl (lv_at hl 1 rfl) ?_
          refine lv_iload_n hx hb dX12_eRead_126 rfl (lv_at hl 0 rfl) ?_
          obtain ⟨r_113, S_111, hc_112, hZ⟩ := jx_b2_some hZ
          refine call_Si SM_ok sameM ⟨hx, hb, hml, hown, hts⟩ (c_X12_opOf l D q k r_91 S_93 _ (r_113, S_111)  hc_112) (va_cwS 1 hts gX12_eRead_X12_opOf rfl rfl rfl hd_X12_opOf ⟨Nat.le_of_ble_eq_true rfl, Nat.le_of_ble_eq_true rfl⟩) hK hP hD hS hA hsp (As := [.int r_91]) rfl hl.1 rfl (Nat.le_of_ble_eq_true rfl) dX12_eRead_127 ⟨Nat.zero_le _, Nat.zero_le _⟩ (fun H locs hP hD hS => ?_)
          obtain ⟨r_116, S_114, hc_115, hZ⟩ := jx_b2_some hZ
          refine call_Vi SM_ok sameM ⟨hx, hb, hml, hown, hts⟩ (c_X12_goesOn l D q k r_113 S_111 _ (r_116, S_114)  hc_115) (cwV 1 hts gX12_eRead_X12_goesOn rfl rfl rfl hd_X12_goesOn ⟨Nat.le_of_ble_eq_true rfl, Nat.le_of_ble_eq_true rfl⟩) hK hP hD hS hA hsp (va_recv hK hP (ci := 12) (q0 := 0) rfl wM_0) (As := [.int r_113]) rfl hl.1 rfl (Nat.le_of_ble_eq_true rfl) dX12_eRead_130 ⟨Nat.zero_le _, Nat.zero_le _⟩ (fun H locs hP hD hS => ?_)
          refine lv_if_ne (tgt := 138) hx hb dX12_eRead_133 (by decide) (fun c_117 => ?_) (fun c_117 => ?_)
          · have hZ := jx_i_neg c_117 hZ
            refine lv_iconst (v := (1 : Int32)) hx hb dX12_eRead_138 (by decide) ?_
            refine lv_istore_n (lv' := [(1, .int (1 : Int32)), (2, .int r_91), (0, .ref (q 0))]) hx hb dX12_eRead_139 rfl hl (by decide) rfl (fun ls hl => ?_)
            refine lv_goto (tgt := 228) hx hb dX12_eRead_140 (by decide) ?_
            exact j228i24 (1 : Int32) S_114 _ hk_8 _ _ hZ hP hD hS _ (lv_sub hl [2, 0] rfl)
          · have hZ := jx_i_pos c_117 hZ
            have ho := Option.some.inj hZ
            subst ho
            have hE := hza_8
            rw [← (show .inr (.inr (.inl S_114)) = r_8 from hk_8)] at hE
            have hZ : f_X12_eRead_136 S_114 = some Z := hE
            exact j136 S_114 _ _ hZ hP hD hS _ (lv_sub hl [] rfl)
      · have hZ := jx_i_neg c_92 hZ
        refine lv_iload_n hx hb dX12_eRead_33 rfl (lv_at hl 0 rfl) ?_
        refine lv_bipush (v := (40 : Int32)) hx hb dX12_eRead_34 (by decide) ?_
        refine lv_icmp_eq (tgt := 51) hx hb dX12_eRead_36 (by decide) (fun c_120 => ?_) (fun c_120 => ?_)
        · have hZ := jx_i_pos c_120 hZ
          exact j51i24 r_91 S_89 _ hk_8 _ _ hZ hP hD hS _ (lv_sub hl [1, 0] rfl)
        · have hZ := jx_i_neg c_120 hZ
          refine lv_iload_n hx hb dX12_eRead_39 rfl (lv_at hl 0 rfl) ?_
          refine lv_bipush (v := (33 : Int32)) hx hb dX12_eRead_40 (by decide) ?_
          refine lv_icmp_eq (tgt := 51) hx hb dX12_eRead_42 (by decide) (fun c_152 => ?_) (fun c_152 => ?_)
          · have hZ := jx_i_pos c_152 hZ
            exact j51i24 r_91 S_89 _ hk_8 _ _ hZ hP hD hS _ (lv_sub hl [1, 0] rfl)
          · have hZ := jx_i_neg c_152 hZ
            refine lv_iload_n hx hb dX12_eRead_45 rfl (lv_at hl 0 rfl) ?_
            refine lv_bipush (v := (45 : Int32)) hx hb dX12_eRead_46 (by decide) ?_
            refine lv_icmp_ne (tgt := 55) hx hb dX12_eRead_48 (by decide) (fun c_154 => ?_) (fun c_154 => ?_)
            · have hZ := jx_i_neg c_154 hZ
              refine lv_iconst (v := (0 : Int32)) hx hb dX12_eRead_55 (by decide) ?_
              exact j56i24 r_91 (0 : Int32) S_89 _ hk_8 _ _ hZ hP hD hS _ (lv_sub hl [1, 0] rfl)
            · have hZ := jx_i_pos c_154 hZ
              exact j51i24 r_91 S_89 _ hk_8 _ _ hZ hP hD hS _ (lv_sub hl [1, 0] rfl)
  exact l_8 FU (1 : Int32) S_5 _ _ hw hP hD hS _ (lv_sub hl [1, 0] rfl)
