theorem hd_X12_eRead : yX12_eRead.cls = RX12 ∧ yX12_eRead.cls ≠ "java/lang/invoke/MethodHandle" ∧ yX12_eRead.cls ≠ "java/lang/invoke/VarHandle" ∧ (parseMethodDescriptor yX12_eRead.desc).map (fun d => d.parameters.length) = some 0 := by decide +kernel
-- X12_lineRead
def f_X12_lineRead_78 (x1_15 : Int32) (S_15 : St) : Option (Int32 × St) :=
  jx_a x1_15 192 (jx_l (u1 S_15 16 (Int32.toNatClampNeg x1_15) (S_15.1 0 28)) (fun S_17 => jx_a (2 : Int32) 3 (jx_a (2 : Int32) 3 (jx_l (u1 S_17 13 (Int32.toNatClampNeg (2 : Int32)) ((S_17.1 13 (Int32.toNatClampNeg (2 : Int32))) + (1 : Int32))) (fun S_20 => some ((1 : Int32), S_20))))))
def f_X12_lineRead (S : St) : Option (Int32 × St) :=
  jx_a (2 : Int32) 3 (jx_l ((128 : Int32) + (S.1 13 (Int32.toNatClampNeg (2 : Int32)))) (fun x1_2 => jx_a x1_2 192 (jx_l (u1 S 14 (Int32.toNatClampNeg x1_2) (S.1 0 28)) (fun S_4 => jx_a x1_2 192 (jx_l (u1 S_4 15 (Int32.toNatClampNeg x1_2) (S_4.1 0 28)) (fun S_6 => jx_b2 (f_X12_eRead S_6) (fun r_9 S_7 => (if r_9 = 0 then some ((0 : Int32), S_7) else jx_b2 (f_X12_sign S_7) (fun r_13 S_11 => (if r_13 = (63 : Int32) then jx_l (u1 S_11 0 27 ((S_11.1 0 27) + (1 : Int32))) (fun S_22 => jx_a x1_2 192 (jx_l (u1 S_22 15 (Int32.toNatClampNeg x1_2) (S_22.1 0 28)) (fun S_24 => jx_b2 (f_X12_eRead S_24) (fun r_27 S_25 => (if r_27 = 0 then some ((0 : Int32), S_25) else f_X12_lineRead_78 x1_2 S_25))))) else f_X12_lineRead_78 x1_2 S_11))))))))))
set_option maxHeartbeats 4000000 in
set_option maxRecDepth 100000 in
theorem c_X12_lineRead (l : Launch) (D : va_G) (q : Nat → Nat) (k : CI) (S : St) (sz : Nat) (Z : Int32 × St) (hZ : f_X12_lineRead S = some Z) : MetI W_M SM l yX12_lineRead wsX12_lineRead { frames := 4, cells := 0, slots := 0, locals := 86 } [.ref (q 0)] D q k S sz Z := by
  refine enter (cc := cX12_lineRead) (maxL := 2) (ret := some .boolean) (by decide) rfl (Nat.le_of_ble_eq_true rfl) ?_
  intro p e s m below meth c A ls hx hb hr hts hown hlocks hml hP hK hD hA hS hsp hAe hl
  have hown : s.vm.findClass RX12 = some m.cls := hown
  have hl : lv_has ls 2 [(0, .ref (q 0))] := hl
  have in12 : ∀ w ∈ wsX120, w ∈ wsX12_lineRead := fun _ h => (List.mem_cons_of_mem _ (List.mem_append_right _ h))
  have j78 : ∀ (x1_15 : Int32) (S_15 : St)  (H : Heap) (locs : List Loc) (hZ : f_X12_lineRead_78 x1_15 S_15 = some Z) (hP : va_P D vwCl (W_M q k S_15) H) (hD : va_D A (W_M q k S_15)) (hS : va_S A s.heap H locs) (ls : Array Slot) (hl : lv_has ls 2 [(0, .ref (q 0)), (1, .int x1_15)]), W p l e ({ frames := 4, cells := 0, slots := 0, locals := 86 } : Room) s m ([.ref (q 0)] : List Value).toArray below meth c H locs 0 0 (MQ below (va_Qi (fun r u => (r, u) = Z) (fun u t => va_P D vwCl (W_M q k u) t.heap) A) ([.ref (q 0)] : List Value).toArray s 0 0 A) (F0 m 78 ls []) := by
    intro x1_15 S_15   H locs hZ hP hD hS ls hl
    unfold f_X12_lineRead_78 at hZ
    refine lv_aload_n hx hb dX12_lineRead_78 rfl (lv_at hl 0 rfl) ?_
    refine gf_12_lineTo hx hb hts in12 hown hK hP (hts (.fieldLink RX12 55 "CoinsOfLastModel" "lineTo" "[I") (List.mem_of_getElem? (i := 6) rfl)) dX12_lineRead_79 ?_
    refine lv_iload_n hx hb dX12_lineRead_82 rfl (lv_at hl 1 rfl) ?_
    refine lv_aload_n hx hb dX12_lineRead_83 rfl (lv_at hl 0 rfl) ?_
    refine gf_12_coded hx hb hts in12 hown hK hP (hts (.fieldLink RX12 178 "CoinsOfLastModel" "coded" "I") (List.mem_of_getElem? (i := 3) rfl)) dX12_lineRead_84 ?_
    obtain ⟨c_16, hZ⟩ := jx_a_some hZ
    obtain ⟨S_17, e_S_17, hZ⟩ := jx_l_some hZ
    refine M_iast hx hb hK hP hD hS wM_16 (fun _ => wMs_16) c_16 e_S_17 dX12_lineRead_87 (fun H locs hP hD hS => ?_)
    refine lv_aload_n hx hb dX12_lineRead_88 rfl (lv_at hl 0 rfl) ?_
    refine gf_12_lineMany hx hb hts in12 hown hK hP (hts (.fieldLink RX12 46 "CoinsOfLastModel" "lineMany" "[I") (List.mem_of_getElem? (i := 1) rfl)) dX12_lineRead_89 ?_
    refine lv_iconst (v := (2 : Int32)) hx hb dX12_lineRead_92 (by decide) ?_
    refine lv_dup2_11 hx hb dX12_lineRead_93 rfl rfl ?_
    obtain ⟨c_18, hZ⟩ := jx_a_some hZ
    refine M_iald hx hb hK hP wM_13 c_18 dX12_lineRead_94 ?_
    refine lv_iconst (v := (1 : Int32)) hx hb dX12_lineRead_95 (by decide) ?_
    refine lv_iadd hx hb dX12_lineRead_96 ?_
    obtain ⟨c_19, hZ⟩ := jx_a_some hZ
    obtain ⟨S_20, e_S_20, hZ⟩ := jx_l_some hZ
    refine M_iast hx hb hK hP hD hS wM_13 (fun _ => wMs_13) c_19 e_S_20 dX12_lineRead_97 (fun H locs hP hD hS => ?_)
    refine lv_iconst (v := (1 : Int32)) hx hb dX12_lineRead_98 (by decide) ?_
    exact leave_z hx hb hr hlocks rfl hP hS hZ dX12_lineRead_99
  unfold f_X12_lineRead at hZ
  refine lv_sipush (v := (128 : Int32)) hx hb dX12_lineRead_0 (by decide) ?_
  refine lv_aload_n hx hb dX12_lineRead_3 rfl (lv_at hl 0 rfl) ?_
  refine gf_12_lineMany hx hb hts in12 hown hK hP (hts (.fieldLink RX12 46 "CoinsOfLastModel" "lineMany" "[I") (List.mem_of_getElem? (i := 1) rfl)) dX12_lineRead_4 ?_
  refine lv_iconst (v := (2 : Int32)) hx hb dX12_lineRead_7 (by decide) ?_
  obtain ⟨c_1, hZ⟩ := jx_a_some hZ
  refine M_iald hx hb hK hP wM_13 c_1 dX12_lineRead_8 ?_
  refine lv_iadd hx hb dX12_lineRead_9 ?_
  obtain ⟨x1_2, e_x1_2, hZ⟩ := jx_l_some hZ
  refine tx_i e_x1_2 ?_
  refine lv_istore_n (lv' := [(1, .int x1_2), (0, .ref (q 0))]) hx hb dX12_lineRead_10 rfl hl (by decide) rfl (fun ls hl => ?_)
  refine lv_aload_n hx hb dX12_lineRead_11 rfl (lv_at hl 1 rfl) ?_
  refine gf_12_lineFrom hx hb hts in12 hown hK hP (hts (.fieldLink RX12 49 "CoinsOfLastModel" "lineFrom" "[I") (List.mem_of_getElem? (i := 2) rfl)) dX12_lineRead_12 ?_
  refine lv_iload_n hx hb dX12_lineRead_15 rfl (lv_at hl 0 rfl) ?_
  refine lv_aload_n hx hb dX12_lineRead_16 rfl (lv_at hl 1 rfl) ?_
  refine gf_12_coded hx hb hts in12 hown hK hP (hts (.fieldLink RX12 178 "CoinsOfLastModel" "coded" "I") (List.mem_of_getElem? (i := 3) rfl)) dX12_lineRead_17 ?_
  obtain ⟨c_3, hZ⟩ := jx_a_some hZ
  obtain ⟨S_4, e_S_4, hZ⟩ := jx_l_some hZ
  refine M_iast hx hb hK hP hD hS wM_14 (fun _ => wMs_14) c_3 e_S_4 dX12_lineRead_20 (fun H locs hP hD hS => ?_)
  refine lv_aload_n hx hb dX12_lineRead_21 rfl (lv_at hl 1 rfl) ?_
  refine gf_12_lineMid hx hb hts in12 hown hK hP (hts (.fieldLink RX12 52 "CoinsOfLastModel" "lineMid" "[I") (List.mem_of_getElem? (i := 4) rfl)) dX12_lineRead_22 ?_
  refine lv_iload_n hx hb dX12_lineRead_25 rfl (lv_at hl 0 rfl) ?_
  refine lv_aload_n hx hb dX12_lineRead_26 rfl (lv_at hl 1 rfl) ?_
  refine gf_12_coded hx hb hts in12 hown hK hP (hts (.fieldLink RX12 178 "CoinsOfLastModel" "coded" "I") (List.mem_of_getElem? (i := 3) rfl)) dX12_lineRead_27 ?_
  obtain ⟨c_5, hZ⟩ := jx_a_some hZ
  obtain ⟨S_6, e_S_6, hZ⟩ := jx_l_some hZ
  refine M_iast hx hb hK hP hD hS wM_15 (fun _ => wMs_15) c_5 e_S_6 dX12_lineRead_30 (fun H locs hP hD hS => ?_)
  refine lv_aload_n hx hb dX12_lineRead_31 rfl (lv_at hl 1 rfl) ?_
  obtain ⟨r_9, S_7, hc_8, hZ⟩ := jx_b2_some hZ
  refine call_Vi SM_ok sameM ⟨hx, hb, hml, hown, hts⟩ (c_X12_eRead l D q k  S_6 _ (r_9, S_7)  hc_8) (cwV 0 hts gX12_lineRead_X12_eRead rfl rfl rfl hd_X12_eRead ⟨Nat.le_of_ble_eq_true rfl, Nat.le_of_ble_eq_true rfl⟩) hK hP hD hS hA hsp (va_recv hK hP (ci := 12) (q0 := 0) rfl wM_0) (As := []) rfl hl.1 rfl (Nat.le_of_ble_eq_true rfl) dX12_lineRead_32 ⟨Nat.zero_le _, Nat.zero_le _⟩ (fun H locs hP hD hS => ?_)
  refine lv_if_ne (tgt := 40) hx hb dX12_lineRead_35 (by decide) (fun c_10 => ?_) (fun c_10 => ?_)
  · have hZ := jx_i_neg c_10 hZ
    refine lv_aload_n hx hb dX12_lineRead_40 rfl (lv_at hl 1 rfl) ?_
    obtain ⟨r_13, S_11, hc_12, hZ⟩ := jx_b2_some hZ
    refine call_Vi SM_ok sameM ⟨hx, hb, hml, hown, hts⟩ (c_X12_sign l D q k  S_7 _ (r_13, S_11)  hc_12) (cwV 0 hts gX12_lineRead_X12_sign rfl rfl rfl hd_X12_sign ⟨Nat.le_of_ble_eq_true rfl, Nat.le_of_ble_eq_true rfl⟩) hK hP hD hS hA hsp (va_recv hK hP (ci := 12) (q0 := 0) rfl wM_0) (As := []) rfl hl.1 rfl (Nat.le_of_ble_eq_true rfl) dX12_lineRead_41 ⟨Nat.zero_le _, Nat.zero_le _⟩ (fun H locs hP hD hS => ?_)
    refine lv_bipush (v := (63 : Int32)) hx hb dX12_lineRead_44 (by decide) ?_
    refine lv_icmp_ne (tgt := 78) hx hb dX12_lineRead_46 (by decide) (fun c_14 => ?_) (fun c_14 => ?_)
    · have hZ := jx_i_neg c_14 hZ
      exact j78 x1_2 S_11 _ _ hZ hP hD hS _ (lv_sub hl [1, 0] rfl)
    · have hZ := jx_i_pos c_14 hZ
      refine lv_aload_n hx hb dX12_lineRead_49 rfl (lv_at hl 1 rfl) ?_
      refine lv_dup hx hb dX12_lineRead_50 rfl ?_
      refine gf_12_at0 hx hb hts in12 hown hK hP (hts (.fieldLink RX12 175 "CoinsOfLastModel" "at0" "I") (List.mem_of_getElem? (i := 5) rfl)) dX12_lineRead_51 ?_
      refine lv_iconst (v := (1 : Int32)) hx hb dX12_lineRead_54 (by decide) ?_
      refine lv_iadd hx hb dX12_lineRead_55 ?_
      obtain ⟨S_22, e_S_22, hZ⟩ := jx_l_some hZ
      refine pf_12_at0 hx hb hts in12 hown hK hP hD hS (hts (.fieldLink RX12 175 "CoinsOfLastModel" "at0" "I") (List.mem_of_getElem? (i := 5) rfl)) e_S_22 dX12_lineRead_56 (fun H locs hP hD hS => ?_)
      refine lv_aload_n hx hb dX12_lineRead_59 rfl (lv_at hl 1 rfl) ?_
      refine gf_12_lineMid hx hb hts in12 hown hK hP (hts (.fieldLink RX12 52 "CoinsOfLastModel" "lineMid" "[I") (List.mem_of_getElem? (i := 4) rfl)) dX12_lineRead_60 ?_
      refine lv_iload_n hx hb dX12_lineRead_63 rfl (lv_at hl 0 rfl) ?_
      refine lv_aload_n hx hb dX12_lineRead_64 rfl (lv_at hl 1 rfl) ?_
      refine gf_12_coded hx hb hts in12 hown hK hP (hts (.fieldLink RX12 178 "CoinsOfLastModel" "coded" "I") (List.mem_of_getElem? (i := 3) rfl)) dX12_lineRead_65 ?_
      obtain ⟨c_23, hZ⟩ := jx_a_some hZ
      obtain ⟨S_24, e_S_24, hZ⟩ := jx_l_some hZ
      refine M_iast hx hb hK hP hD hS wM_15 (fun _ => wMs_15) c_23 e_S_24 dX12_lineRead_68 (fun H locs hP hD hS => ?_)
      refine lv_aload_n hx hb dX12_lineRead_69 rfl (lv_at hl 1 rfl) ?_
      obtain ⟨r_27, S_25, hc_26, hZ⟩ := jx_b2_some hZ
      refine call_Vi SM_ok sameM ⟨hx, hb, hml, hown, hts⟩ (c_X12_eRead l D q k  S_24 _ (r_27, S_25)  hc_26) (cwV 0 hts gX12_lineRead_X12_eRead rfl rfl rfl hd_X12_eRead ⟨Nat.le_of_ble_eq_true rfl, Nat.le_of_ble_eq_true rfl⟩) hK hP hD hS hA hsp (va_recv hK hP (ci := 12) (q0 := 0) rfl wM_0) (As := []) rfl hl.1 rfl (Nat.le_of_ble_eq_true rfl) dX12_lineRead_70 ⟨Nat.zero_le _, Nat.zero_le _⟩ (fun H locs hP hD hS => ?_)
      refine lv_if_ne (tgt := 78) hx hb dX12_lineRead_73 (by decide) (fun c_28 => ?_) (fun c_28 => ?_)
      · have hZ := jx_i_neg c_28 hZ
        exact j78 x1_2 S_25 _ _ hZ hP hD hS _ (lv_sub hl [1, 0] rfl)
      · have hZ := jx_i_pos c_28 hZ
        refine lv_iconst (v := (0 : Int32)) hx hb dX12_lineRead_76 (by decide) ?_
        exact leave_z hx hb hr hlocks rfl hP hS hZ dX12_lineRead_77
  · have hZ := jx_i_pos c_10 hZ
    refine lv_iconst (v := (0 : Int32)) hx hb dX12_lineRead_38 (by decide) ?_
    exact leave_z hx hb hr hlocks rfl hP hS hZ dX12_lineRead_39
theorem hd_X12_lineRead : yX12_lineRead.cls = RX12 ∧ yX12_lineRead.cls ≠ "java/lang/invoke/MethodHandle" ∧ yX12_lineRead.cls ≠ "java/lang/invoke/VarHandle" ∧ (parseMethodDescriptor yX12_lineRead.desc).map (fun d => d.parameters.length) = some 0 := by decide +kernel
-- X12_textRead
def f_X12_textRead_24 (S_7 : St) : Option (Int32 × St) :=
  some ((S_7.1 0 27), S_7)
def f_X12_textRead_40 (S_9 : St) : Option (Int32 × St) :=
  some ((-1 : Int32), S_9)
def f_X12_textRead_51 (S_11 : St) : Option (Int32 × St) :=
  some ((S_11.1 0 27), S_11)
def b_X12_textRead_17 (S : St) : Option ((St) ⊕ ((St) ⊕ ((St) ⊕ (St)))) :=
  jx_b2 (f_X12_lineRead S) (fun r_15 S_13 => (if r_15 = 0 then some (.inr (.inl S_13)) else (if (S_13.1 0 27) = (S_13.1 0 18) then some (.inr (.inr (.inl S_13))) else jx_b2 (f_X12_sign S_13) (fun r_20 S_18 => (if r_20 = (59 : Int32) then jx_l (u1 S_18 0 27 ((S_18.1 0 27) + (1 : Int32))) (fun S_22 => some (.inl S_22)) else some (.inr (.inr (.inr S_18))))))))
def g_X12_textRead_17 : St → Option ((St) ⊕ ((St) ⊕ ((St) ⊕ (St)))) := fun z => b_X12_textRead_17 z
def f_X12_textRead (S : St) : Option (Int32 × St) :=
  jx_l (u1 S 0 27 (0 : Int32)) (fun S_1 => jx_l (u1 S_1 0 28 (0 : Int32)) (fun S_2 => jx_a (2 : Int32) 3 (jx_l (u1 S_2 13 (Int32.toNatClampNeg (2 : Int32)) (0 : Int32)) (fun S_4 => jx_b (jx_w (g_X12_textRead_17) FU S_4) (fun z => Sum.elim (fun z => f_X12_textRead_24 z) (fun z => Sum.elim (fun z => f_X12_textRead_40 z) (fun z => f_X12_textRead_51 z) z) z)))))
set_option maxHeartbeats 4000000 in
set_option maxRecDepth 100000 in
theorem c_X12_textRead (l : Launch) (D : va_G) (q : Nat → Nat) (k : CI) (S : St) (sz : Nat) (Z : Int32 × St) (hZ : f_X12_textRead S = some Z) : MetI W_M SM l yX12_textRead wsX12_textRead { frames := 5, cells := 0, slots := 0, locals := 107 } [.ref (q 0)] D q k S sz Z := by
  refine enter (cc := cX12_textRead) (maxL := 1) (ret := some .int) (by decide) rfl (Nat.le_of_ble_eq_true rfl) ?_
  intro p e s m below meth c A ls hx hb hr hts hown hlocks hml hP hK hD hA hS hsp hAe hl
  have hown : s.vm.findClass RX12 = some m.cls := hown
  have hl : lv_has ls 1 [(0, .ref (q 0))] := hl
  have in12 : ∀ w ∈ wsX120, w ∈ wsX12_textRead := fun _ h => (List.mem_cons_of_mem _ (List.mem_append_right _ h))
  have j24 : ∀ (S_7 : St)  (H : Heap) (locs : List Loc) (hZ : f_X12_textRead_24 S_7 = some Z) (hP : va_P D vwCl (W_M q k S_7) H) (hD : va_D A (W_M q k S_7)) (hS : va_S A s.heap H locs) (ls : Array Slot) (hl : lv_has ls 1 [(0, .ref (q 0))]), W p l e ({ frames := 5, cells := 0, slots := 0, locals := 107 } : Room) s m ([.ref (q 0)] : List Value).toArray below meth c H locs 0 0 (MQ below (va_Qi (fun r u => (r, u) = Z) (fun u t => va_P D vwCl (W_M q k u) t.heap) A) ([.ref (q 0)] : List Value).toArray s 0 0 A) (F0 m 24 ls []) := by
    intro S_7   H locs hZ hP hD hS ls hl
    unfold f_X12_textRead_24 at hZ
    refine lv_aload_n hx hb dX12_textRead_24 rfl (lv_at hl 0 rfl) ?_
    refine gf_12_at0 hx hb hts in12 hown hK hP (hts (.fieldLink RX12 175 "CoinsOfLastModel" "at0" "I") (List.mem_of_getElem? (i := 1) rfl)) dX12_textRead_25 ?_
    exact leave_i hx hb hr hlocks hP hS hZ dX12_textRead_28
  have j40 : ∀ (S_9 : St)  (H : Heap) (locs : List Loc) (hZ : f_X12_textRead_40 S_9 = some Z) (hP : va_P D vwCl (W_M q k S_9) H) (hD : va_D A (W_M q k S_9)) (hS : va_S A s.heap H locs) (ls : Array Slot) (hl : lv_has ls 1 []), W p l e ({ frames := 5, cells := 0, slots := 0, locals := 107 } : Room) s m ([.ref (q 0)] : List Value).toArray below meth c H locs 0 0 (MQ below (va_Qi (fun r u => (r, u) = Z) (fun u t => va_P D vwCl (W_M q k u) t.heap) A) ([.ref (q 0)] : List Value).toArray s 0 0 A) (F0 m 40 ls []) := by
    intro S_9   H locs hZ hP hD hS ls hl
    unfold f_X12_textRead_40 at hZ
    refine lv_iconst (v := (-1 : Int32)) hx hb dX12_textRead_40 (by decide) ?_
    exact leave_i hx hb hr hlocks hP hS hZ dX12_textRead_41
  have j51 : ∀ (S_11 : St)  (H : Heap) (locs : List Loc) (hZ : f_X12_textRead_51 S_11 = some Z) (hP : va_P D vwCl (W_M q k S_11) H) (hD : va_D A (W_M q k S_11)) (hS : va_S A s.heap H locs) (ls : Array Slot) (hl : lv_has ls 1 [(0, .ref (q 0))]), W p l e ({ frames := 5, cells := 0, slots := 0, locals := 107 } : Room) s m ([.ref (q 0)] : List Value).toArray below meth c H locs 0 0 (MQ below (va_Qi (fun r u => (r, u) = Z) (fun u t => va_P D vwCl (W_M q k u) t.heap) A) ([.ref (q 0)] : List Value).toArray s 0 0 A) (F0 m 51 ls []) := by
    intro S_11   H locs hZ hP hD hS ls hl
    unfold f_X12_textRead_51 at hZ
    refine lv_aload_n hx hb dX12_textRead_51 rfl (lv_at hl 0 rfl) ?_
    refine gf_12_at0 hx hb hts in12 hown hK hP (hts (.fieldLink RX12 175 "CoinsOfLastModel" "at0" "I") (List.mem_of_getElem? (i := 1) rfl)) dX12_textRead_52 ?_
    exact leave_i hx hb hr hlocks hP hS hZ dX12_textRead_55
  unfold f_X12_textRead at hZ
  refine lv_aload_n hx hb dX12_textRead_0 rfl (lv_at hl 0 rfl) ?_
  refine lv_iconst (v := (0 : Int32)) hx hb dX12_textRead_1 (by decide) ?_
  obtain ⟨S_1, e_S_1, hZ⟩ := jx_l_some hZ
  refine pf_12_at0 hx hb hts in12 hown hK hP hD hS (hts (.fieldLink RX12 175 "CoinsOfLastModel" "at0" "I") (List.mem_of_getElem? (i := 1) rfl)) e_S_1 dX12_textRead_2 (fun H locs hP hD hS => ?_)
  refine lv_aload_n hx hb dX12_textRead_5 rfl (lv_at hl 0 rfl) ?_
  refine lv_iconst (v := (0 : Int32)) hx hb dX12_textRead_6 (by decide) ?_
  obtain ⟨S_2, e_S_2, hZ⟩ := jx_l_some hZ
  refine pf_12_coded hx hb hts in12 hown hK hP hD hS (hts (.fieldLink RX12 178 "CoinsOfLastModel" "coded" "I") (List.mem_of_getElem? (i := 2) rfl)) e_S_2 dX12_textRead_7 (fun H locs hP hD hS => ?_)
  refine lv_aload_n hx hb dX12_textRead_10 rfl (lv_at hl 0 rfl) ?_
  refine gf_12_lineMany hx hb hts in12 hown hK hP (hts (.fieldLink RX12 46 "CoinsOfLastModel" "lineMany" "[I") (List.mem_of_getElem? (i := 3) rfl)) dX12_textRead_11 ?_
  refine lv_iconst (v := (2 : Int32)) hx hb dX12_textRead_14 (by decide) ?_
  refine lv_iconst (v := (0 : Int32)) hx hb dX12_textRead_15 (by decide) ?_
  obtain ⟨c_3, hZ⟩ := jx_a_some hZ
  obtain ⟨S_4, e_S_4, hZ⟩ := jx_l_some hZ
  refine M_iast hx hb hK hP hD hS wM_13 (fun _ => wMs_13) c_3 e_S_4 dX12_textRead_16 (fun H locs hP hD hS => ?_)
  obtain ⟨r_6, hw, hza_6⟩ := jx_b_some hZ
  have l_6 : ∀ (nn : Nat) (S_5 : St) (H : Heap) (locs : List Loc) (hw : jx_w (g_X12_textRead_17) nn S_5 = some r_6) (hP : va_P D vwCl (W_M q k S_5) H) (hD : va_D A (W_M q k S_5)) (hS : va_S A s.heap H locs) (ls : Array Slot) (hl : lv_has ls 1 [(0, .ref (q 0))]), W p l e ({ frames := 5, cells := 0, slots := 0, locals := 107 } : Room) s m ([.ref (q 0)] : List Value).toArray below meth c H locs 0 0 (MQ below (va_Qi (fun r u => (r, u) = Z) (fun u t => va_P D vwCl (W_M q k u) t.heap) A) ([.ref (q 0)] : List Value).toArray s 0 0 A) (F0 m 17 ls []) := by
    intro nn
    induction nn with
    | zero =>
      intro S_5 H locs hw hP hD hS ls hl
      exact jx_w_zero hw
    | succ n_6 ih_6 =>
      intro S_5 H locs hw hP hD hS ls hl
      obtain ⟨o_6, hZ, hk_6⟩ := jx_w_succ hw
      have hZ : b_X12_textRead_17 S_5 = some o_6 := hZ
      unfold b_X12_textRead_17 at hZ
      refine lv_aload_n hx hb dX12_textRead_17 rfl (lv_at hl 0 rfl) ?_
      obtain ⟨r_28, S_26, hc_27, hZ⟩ := jx_b2_some hZ
      refine call_Vi SM_ok sameM ⟨hx, hb, hml, hown, hts⟩ (c_X12_lineRead l D q k  S_5 _ (r_28, S_26)  hc_27) (cwV 0 hts gX12_textRead_X12_lineRead rfl rfl rfl hd_X12_lineRead ⟨Nat.le_of_ble_eq_true rfl, Nat.le_of_ble_eq_true rfl⟩) hK hP hD hS hA hsp (va_recv hK hP (ci := 12) (q0 := 0) rfl wM_0) (As := []) rfl hl.1 rfl (Nat.le_of_ble_eq_true rfl) dX12_textRead_18 ⟨Nat.zero_le _, Nat.zero_le _⟩ (fun H locs hP hD hS => ?_)
      refine lv_if_ne (tgt := 29) hx hb dX12_textRead_21 (by decide) (fun c_29 => ?_) (fun c_29 => ?_)
      · have hZ := jx_i_neg c_29 hZ
        refine lv_aload_n hx hb dX12_textRead_29 rfl (lv_at hl 0 rfl) ?_
        refine gf_12_at0 hx hb hts in12 hown hK hP (hts (.fieldLink RX12 175 "CoinsOfLastModel" "at0" "I") (List.mem_of_getElem? (i := 1) rfl)) dX12_textRead_30 ?_
        refine lv_aload_n hx hb dX12_textRead_33 rfl (lv_at hl 0 rfl) ?_
        refine gf_12_taped hx hb hts in12 hown hK hP (hts (.fieldLink RX12 172 "CoinsOfLastModel" "taped" "I") (List.mem_of_getElem? (i := 4) rfl)) dX12_textRead_34 ?_
        refine lv_icmp_ne (tgt := 42) hx hb dX12_textRead_37 (by decide) (fun c_30 => ?_) (fun c_30 => ?_)
        · have hZ := jx_i_neg c_30 hZ
          refine lv_aload_n hx hb dX12_textRead_42 rfl (lv_at hl 0 rfl) ?_
          obtain ⟨r_33, S_31, hc_32, hZ⟩ := jx_b2_some hZ
          refine call_Vi SM_ok sameM ⟨hx, hb, hml, hown, hts⟩ (c_X12_sign l D q k  S_26 _ (r_33, S_31)  hc_32) (cwV 0 hts gX12_textRead_X12_sign rfl rfl rfl hd_X12_sign ⟨Nat.le_of_ble_eq_true rfl, Nat.le_of_ble_eq_true rfl⟩) hK hP hD hS hA hsp (va_recv hK hP (ci := 12) (q0 := 0) rfl wM_0) (As := []) rfl hl.1 rfl (Nat.le_of_ble_eq_true rfl) dX12_textRead_43 ⟨Nat.zero_le _, Nat.zero_le _⟩ (fun H locs hP hD hS => ?_)
          refine lv_bipush (v := (59 : Int32)) hx hb dX12_textRead_46 (by decide) ?_
          refine lv_icmp_eq (tgt := 56) hx hb dX12_textRead_48 (by decide) (fun c_34 => ?_) (fun c_34 => ?_)
          · have hZ := jx_i_pos c_34 hZ
            refine lv_aload_n hx hb dX12_textRead_56 rfl (lv_at hl 0 rfl) ?_
            refine lv_dup hx hb dX12_textRead_57 rfl ?_
            refine gf_12_at0 hx hb hts in12 hown hK hP (hts (.fieldLink RX12 175 "CoinsOfLastModel" "at0" "I") (List.mem_of_getElem? (i := 1) rfl)) dX12_textRead_58 ?_
            refine lv_iconst (v := (1 : Int32)) hx hb dX12_textRead_61 (by decide) ?_
            refine lv_iadd hx hb dX12_textRead_62 ?_
            obtain ⟨S_35, e_S_35, hZ⟩ := jx_l_some hZ
            refine pf_12_at0 hx hb hts in12 hown hK hP hD hS (hts (.fieldLink RX12 175 "CoinsOfLastModel" "at0" "I") (List.mem_of_getElem? (i := 1) rfl)) e_S_35 dX12_textRead_63 (fun H locs hP hD hS => ?_)
            refine lv_goto (tgt := 17) hx hb dX12_textRead_66 (by decide) ?_
            have ho := Option.some.inj hZ
            subst ho
            exact ih_6 S_35 _ _ hk_6 hP hD hS _ (lv_sub hl [0] rfl)
          · have hZ := jx_i_neg c_34 hZ
            have ho := Option.some.inj hZ
            subst ho
            have hE := hza_6
            rw [← (show .inr (.inr S_31) = r_6 from hk_6)] at hE
            have hZ : f_X12_textRead_51 S_31 = some Z := hE
            exact j51 S_31 _ _ hZ hP hD hS _ (lv_sub hl [0] rfl)
        · have hZ := jx_i_pos c_30 hZ
          have ho := Option.some.inj hZ
          subst ho
          have hE := hza_6
          rw [← (show .inr (.inl S_26) = r_6 from hk_6)] at hE
          have hZ : f_X12_textRead_40 S_26 = some Z := hE
          exact j40 S_26 _ _ hZ hP hD hS _ (lv_sub hl [] rfl)
      · have hZ := jx_i_pos c_29 hZ
        have ho := Option.some.inj hZ
        subst ho
        have hE := hza_6
        rw [← (show .inl S_26 = r_6 from hk_6)] at hE
        have hZ : f_X12_textRead_24 S_26 = some Z := hE
        exact j24 S_26 _ _ hZ hP hD hS _ (lv_sub hl [0] rfl)
  exact l_6 FU S_4 _ _ hw hP hD hS _ (lv_sub hl [0] rfl)
theorem hd_X12_textRead : yX12_textRead.cls = RX12 ∧ yX12_textRead.cls ≠ "java/lang/invoke/MethodHandle" ∧ yX12_textRead.cls ≠ "java/lang/invoke/VarHandle" ∧ (parseMethodDescriptor yX12_textRead.desc).map (fun d => d.parameters.length) = some 0 := by decide +kernel
-- X12_law
def f_X12_law_156 (S_20 : St) : Option (Int32 × St) :=
  some ((1 : Int32), S_20)
def b_X12_law_121 (x1 : Int32) (x3 : Int32) (S : St) : Option ((Int32 × St) ⊕ (St)) :=
  (if (128 : Int32) ≤ x3 then some (.inr S) else jx_a ((256 : Int32) + x3) 384 (jx_a (((128 : Int32) * x1) + x3) 384 (jx_l (u1 S 17 (Int32.toNatClampNeg (((128 : Int32) * x1) + x3)) (S.1 17 (Int32.toNatClampNeg ((256 : Int32) + x3)))) (fun S_26 => jx_l (x3 + 1) (fun x3_27 => some (.inl (x3_27, S_26)))))))
def g_X12_law_121 (x1 : Int32) : (Int32 × St) → Option ((Int32 × St) ⊕ (St)) := fun z => b_X12_law_121 x1 z.1 z.2
def f_X12_law_119 (x1_16 : Int32) (S_16 : St) : Option (Int32 × St) :=
  jx_b (jx_w (g_X12_law_121 x1_16) FU ((0 : Int32), S_16)) (fun z => f_X12_law_156 z)
def b_X12_law_44 (x1 : Int32) (x3 : Int32) (S : St) : Option ((Int32 × St) ⊕ (St)) :=
  (if (64 : Int32) ≤ x3 then some (.inr S) else jx_a ((128 : Int32) + x3) 192 (jx_a (((64 : Int32) * x1) + x3) 192 (jx_l (u1 S 14 (Int32.toNatClampNeg (((64 : Int32) * x1) + x3)) (S.1 14 (Int32.toNatClampNeg ((128 : Int32) + x3)))) (fun S_39 => jx_a ((128 : Int32) + x3) 192 (jx_a (((64 : Int32) * x1) + x3) 192 (jx_l (u1 S_39 15 (Int32.toNatClampNeg (((64 : Int32) * x1) + x3)) (S_39.1 15 (Int32.toNatClampNeg ((128 : Int32) + x3)))) (fun S_42 => jx_a ((128 : Int32) + x3) 192 (jx_a (((64 : Int32) * x1) + x3) 192 (jx_l (u1 S_42 16 (Int32.toNatClampNeg (((64 : Int32) * x1) + x3)) (S_42.1 16 (Int32.toNatClampNeg ((128 : Int32) + x3)))) (fun S_45 => jx_l (x3 + 1) (fun x3_46 => some (.inl (x3_46, S_45)))))))))))))
def g_X12_law_44 (x1 : Int32) : (Int32 × St) → Option ((Int32 × St) ⊕ (St)) := fun z => b_X12_law_44 x1 z.1 z.2
def f_X12_law (x1 : Int32) (S : St) : Option (Int32 × St) :=
  jx_b2 (f_X12_in x1 (0 : Int32) (1 : Int32) S) (fun r_3 S_1 => (if r_3 = 0 then some ((-1 : Int32), S_1) else jx_b2 (f_X12_textRead S_1) (fun r_7 S_5 => jx_l (u1 S_5 0 18 (0 : Int32)) (fun S_8 => (if r_7 < 0 then jx_a (2 : Int32) 3 (jx_a x1 3 (jx_l (u1 S_8 13 (Int32.toNatClampNeg x1) (S_8.1 13 (Int32.toNatClampNeg (2 : Int32)))) (fun S_12 => jx_b (jx_w (g_X12_law_44 x1) FU ((0 : Int32), S_12)) (fun z => f_X12_law_119 x1 z)))) else some (((-100 : Int32) - r_7), S_8))))))
set_option maxHeartbeats 4000000 in
set_option maxRecDepth 100000 in
theorem c_X12_law (l : Launch) (D : va_G) (q : Nat → Nat) (k : CI) (x1 : Int32) (S : St) (sz : Nat) (Z : Int32 × St) (hZ : f_X12_law x1 S = some Z) : MetI W_M SM l yX12_law wsX12_law { frames := 6, cells := 0, slots := 0, locals := 127 } [.ref (q 0), .int x1] D q k S sz Z := by
  refine enter (cc := cX12_law) (maxL := 4) (ret := some .int) (by decide) rfl (Nat.le_of_ble_eq_true rfl) ?_
  intro p e s m below meth c A ls hx hb hr hts hown hlocks hml hP hK hD hA hS hsp hAe hl
  have hown : s.vm.findClass RX12 = some m.cls := hown
  have hl : lv_has ls 4 [(0, .ref (q 0)), (1, .int x1)] := hl
  have in12 : ∀ w ∈ wsX120, w ∈ wsX12_law := fun _ h => (List.mem_cons_of_mem _ (List.mem_append_right _ h))
  have j156 : ∀ (S_20 : St)  (H : Heap) (locs : List Loc) (hZ : f_X12_law_156 S_20 = some Z) (hP : va_P D vwCl (W_M q k S_20) H) (hD : va_D A (W_M q k S_20)) (hS : va_S A s.heap H locs) (ls : Array Slot) (hl : lv_has ls 4 []), W p l e ({ frames := 6, cells := 0, slots := 0, locals := 127 } : Room) s m ([.ref (q 0), .int x1] : List Value).toArray below meth c H locs 0 0 (MQ below (va_Qi (fun r u => (r, u) = Z) (fun u t => va_P D vwCl (W_M q k u) t.heap) A) ([.ref (q 0), .int x1] : List Value).toArray s 0 0 A) (F0 m 156 ls []) := by
    intro S_20   H locs hZ hP hD hS ls hl
    unfold f_X12_law_156 at hZ
    refine lv_iconst (v := (1 : Int32)) hx hb dX12_law_156 (by decide) ?_
    exact leave_i hx hb hr hlocks hP hS hZ dX12_law_157
  have j119 : ∀ (x1_16 : Int32) (S_16 : St)  (H : Heap) (locs : List Loc) (hZ : f_X12_law_119 x1_16 S_16 = some Z) (hP : va_P D vwCl (W_M q k S_16) H) (hD : va_D A (W_M q k S_16)) (hS : va_S A s.heap H locs) (ls : Array Slot) (hl : lv_has ls 4 [(0, .ref (q 0)), (1, .int x1_16)]), W p l e ({ frames := 6, cells := 0, slots := 0, locals := 127 } : Room) s m ([.ref (q 0), .int x1] : List Value).toArray below meth c H locs 0 0 (MQ below (va_Qi (fun r u => (r, u) = Z) (fun u t => va_P D vwCl (W_M q k u) t.heap) A) ([.ref (q 0), .int x1] : List Value).toArray s 0 0 A) (F0 m 119 ls []) := by
    intro x1_16 S_16   H locs hZ hP hD hS ls hl
    unfold f_X12_law_119 at hZ
    refine lv_iconst (v := (0 : Int32)) hx hb dX12_law_119 (by decide) ?_
    refine lv_istore_n (lv' := [(3, .int (0 : Int32)), (0, .ref (q 0)), (1, .int x1_16)]) hx hb dX12_law_120 rfl hl (by decide) rfl (fun ls hl => ?_)
    obtain ⟨r_19, hw, hza_19⟩ := jx_b_some hZ
    have l_19 : ∀ (nn : Nat) (x3_17 : Int32) (S_18 : St) (H : Heap) (locs : List Loc) (hw : jx_w (g_X12_law_121 x1_16) nn (x3_17, S_18) = some r_19) (hP : va_P D vwCl (W_M q k S_18) H) (hD : va_D A (W_M q k S_18)) (hS : va_S A s.heap H locs) (ls : Array Slot) (hl : lv_has ls 4 [(0, .ref (q 0)), (1, .int x1_16), (3, .int x3_17)]), W p l e ({ frames := 6, cells := 0, slots := 0, locals := 127 } : Room) s m ([.ref (q 0), .int x1] : List Value).toArray below meth c H locs 0 0 (MQ below (va_Qi (fun r u => (r, u) = Z) (fun u t => va_P D vwCl (W_M q k u) t.heap) A) ([.ref (q 0), .int x1] : List Value).toArray s 0 0 A) (F0 m 121 ls []) := by
      intro nn
      induction nn with
      | zero =>
        intro x3_17 S_18 H locs hw hP hD hS ls hl
        exact jx_w_zero hw
      | succ n_19 ih_19 =>
        intro x3_17 S_18 H locs hw hP hD hS ls hl
        obtain ⟨o_19, hZ, hk_19⟩ := jx_w_succ hw
        have hZ : b_X12_law_121 x1_16 x3_17 S_18 = some o_19 := hZ
        unfold b_X12_law_121 at hZ
        refine lv_iload_n hx hb dX12_law_121 rfl (lv_at hl 2 rfl) ?_
        refine lv_sipush (v := (128 : Int32)) hx hb dX12_law_122 (by decide) ?_
        refine lv_icmp_ge (tgt := 156) hx hb dX12_law_125 (by decide) (fun c_28 => ?_) (fun c_28 => ?_)
        · have hZ := jx_i_pos c_28 hZ
          have ho := Option.some.inj hZ
          subst ho
          have hE := hza_19
          rw [← (show S_18 = r_19 from hk_19)] at hE
          have hZ : f_X12_law_156 S_18 = some Z := hE
          exact j156 S_18 _ _ hZ hP hD hS _ (lv_sub hl [] rfl)
        · have hZ := jx_i_neg c_28 hZ
          refine lv_aload_n hx hb dX12_law_128 rfl (lv_at hl 0 rfl) ?_
          refine gf_12_codes hx hb hts in12 hown hK hP (hts (.fieldLink RX12 58 "CoinsOfLastModel" "codes" "[I") (List.mem_of_getElem? (i := 6) rfl)) dX12_law_129 ?_
          refine lv_sipush (v := (128 : Int32)) hx hb dX12_law_132 (by decide) ?_
          refine lv_iload_n hx hb dX12_law_135 rfl (lv_at hl 1 rfl) ?_
          refine lv_imul hx hb dX12_law_136 ?_
          refine lv_iload_n hx hb dX12_law_137 rfl (lv_at hl 2 rfl) ?_
          refine lv_iadd hx hb dX12_law_138 ?_
          refine lv_aload_n hx hb dX12_law_139 rfl (lv_at hl 0 rfl) ?_
          refine gf_12_codes hx hb hts in12 hown hK hP (hts (.fieldLink RX12 58 "CoinsOfLastModel" "codes" "[I") (List.mem_of_getElem? (i := 6) rfl)) dX12_law_140 ?_
          refine lv_sipush (v := (256 : Int32)) hx hb dX12_law_143 (by decide) ?_
          refine lv_iload_n hx hb dX12_law_146 rfl (lv_at hl 2 rfl) ?_
          refine lv_iadd hx hb dX12_law_147 ?_
          obtain ⟨c_30, hZ⟩ := jx_a_some hZ
          refine M_iald hx hb hK hP wM_17 c_30 dX12_law_148 ?_
          obtain ⟨c_31, hZ⟩ := jx_a_some hZ
          obtain ⟨S_32, e_S_32, hZ⟩ := jx_l_some hZ
          refine M_iast hx hb hK hP hD hS wM_17 (fun _ => wMs_17) c_31 e_S_32 dX12_law_149 (fun H locs hP hD hS => ?_)
          obtain ⟨x3_33, e_x3_33, hZ⟩ := jx_l_some hZ
          refine lv_iinc (v := x3_33) (lv' := [(3, .int x3_33), (0, .ref (q 0)), (1, .int x1_16)]) hx hb dX12_law_150 hl (k := 2) rfl (by rw [e_x3_33]; rfl) (by decide) rfl (fun ls hl => ?_)
          refine lv_goto (tgt := 121) hx hb dX12_law_153 (by decide) ?_
          have ho := Option.some.inj hZ
          subst ho
          exact ih_19 x3_33 S_32 _ _ hk_19 hP hD hS _ (lv_sub hl [1, 2, 0] rfl)
    exact l_19 FU (0 : Int32) S_16 _ _ hw hP hD hS _ (lv_sub hl [1, 2, 0] rfl)
  unfold f_X12_law at hZ
  refine lv_iload_n hx hb dX12_law_0 rfl (lv_at hl 1 rfl) ?_
  refine lv_iconst (v := (0 : Int32)) hx hb dX12_law_1 (by decide) ?_
  refine lv_iconst (v := (1 : Int32)) hx hb dX12_law_2 (by decide) ?_
  obtain ⟨r_3, S_1, hc_2, hZ⟩ := jx_b2_some hZ
  refine call_Si SM_ok sameM ⟨hx, hb, hml, hown, hts⟩ (c_X12_in l D q k x1 (0 : Int32) (1 : Int32) S _ (r_3, S_1)  hc_2) (va_cwS 3 hts gX12_law_X12_in rfl rfl rfl hd_X12_in ⟨Nat.le_of_ble_eq_true rfl, Nat.le_of_ble_eq_true rfl⟩) hK hP hD hS hA hsp (As := [.int x1, .int (0 : Int32), .int (1 : Int32)]) rfl hl.1 rfl (Nat.le_of_ble_eq_true rfl) dX12_law_3 ⟨Nat.zero_le _, Nat.zero_le _⟩ (fun H locs hP hD hS => ?_)
  refine lv_if_ne (tgt := 11) hx hb dX12_law_6 (by decide) (fun c_4 => ?_) (fun c_4 => ?_)
  · have hZ := jx_i_neg c_4 hZ
    refine lv_aload_n hx hb dX12_law_11 rfl (lv_at hl 0 rfl) ?_
    obtain ⟨r_7, S_5, hc_6, hZ⟩ := jx_b2_some hZ
    refine call_Vi SM_ok sameM ⟨hx, hb, hml, hown, hts⟩ (c_X12_textRead l D q k  S_1 _ (r_7, S_5)  hc_6) (cwV 0 hts gX12_law_X12_textRead rfl rfl rfl hd_X12_textRead ⟨Nat.le_of_ble_eq_true rfl, Nat.le_of_ble_eq_true rfl⟩) hK hP hD hS hA hsp (va_recv hK hP (ci := 12) (q0 := 0) rfl wM_0) (As := []) rfl hl.1 rfl (Nat.le_of_ble_eq_true rfl) dX12_law_12 ⟨Nat.zero_le _, Nat.zero_le _⟩ (fun H locs hP hD hS => ?_)
    refine lv_istore_n (lv' := [(2, .int r_7), (0, .ref (q 0)), (1, .int x1)]) hx hb dX12_law_15 rfl hl (by decide) rfl (fun ls hl => ?_)
    refine lv_aload_n hx hb dX12_law_16 rfl (lv_at hl 1 rfl) ?_
    refine lv_iconst (v := (0 : Int32)) hx hb dX12_law_17 (by decide) ?_
    obtain ⟨S_8, e_S_8, hZ⟩ := jx_l_some hZ
    refine pf_12_taped hx hb hts in12 hown hK hP hD hS (hts (.fieldLink RX12 172 "CoinsOfLastModel" "taped" "I") (List.mem_of_getElem? (i := 1) rfl)) e_S_8 dX12_law_18 (fun H locs hP hD hS => ?_)
    refine lv_iload_n hx hb dX12_law_21 rfl (lv_at hl 0 rfl) ?_
    refine lv_if_lt (tgt := 30) hx hb dX12_law_22 (by decide) (fun c_9 => ?_) (fun c_9 => ?_)
    · have hZ := jx_i_pos c_9 hZ
      refine lv_aload_n hx hb dX12_law_30 rfl (lv_at hl 1 rfl) ?_
      refine gf_12_lineMany hx hb hts in12 hown hK hP (hts (.fieldLink RX12 46 "CoinsOfLastModel" "lineMany" "[I") (List.mem_of_getElem? (i := 2) rfl)) dX12_law_31 ?_
      refine lv_iload_n hx hb dX12_law_34 rfl (lv_at hl 2 rfl) ?_
      refine lv_aload_n hx hb dX12_law_35 rfl (lv_at hl 1 rfl) ?_
      refine gf_12_lineMany hx hb hts in12 hown hK hP (hts (.fieldLink RX12 46 "CoinsOfLastModel" "lineMany" "[I") (List.mem_of_getElem? (i := 2) rfl)) dX12_law_36 ?_
      refine lv_iconst (v := (2 : Int32)) hx hb dX12_law_39 (by decide) ?_
      obtain ⟨c_10, hZ⟩ := jx_a_some hZ
      refine M_iald hx hb hK hP wM_13 c_10 dX12_law_40 ?_
      obtain ⟨c_11, hZ⟩ := jx_a_some hZ
      obtain ⟨S_12, e_S_12, hZ⟩ := jx_l_some hZ
      refine M_iast hx hb hK hP hD hS wM_13 (fun _ => wMs_13) c_11 e_S_12 dX12_law_41 (fun H locs hP hD hS => ?_)
      refine lv_iconst (v := (0 : Int32)) hx hb dX12_law_42 (by decide) ?_
      refine lv_istore_n (lv' := [(3, .int (0 : Int32)), (2, .int r_7), (0, .ref (q 0)), (1, .int x1)]) hx hb dX12_law_43 rfl hl (by decide) rfl (fun ls hl => ?_)
      obtain ⟨r_15, hw, hza_15⟩ := jx_b_some hZ
      have l_15 : ∀ (nn : Nat) (x3_13 : Int32) (S_14 : St) (H : Heap) (locs : List Loc) (hw : jx_w (g_X12_law_44 x1) nn (x3_13, S_14) = some r_15) (hP : va_P D vwCl (W_M q k S_14) H) (hD : va_D A (W_M q k S_14)) (hS : va_S A s.heap H locs) (ls : Array Slot) (hl : lv_has ls 4 [(0, .ref (q 0)), (1, .int x1), (3, .int x3_13)]), W p l e ({ frames := 6, cells := 0, slots := 0, locals := 127 } : Room) s m ([.ref (q 0), .int x1] : List Value).toArray below meth c H locs 0 0 (MQ below (va_Qi (fun r u => (r, u) = Z) (fun u t => va_P D vwCl (W_M q k u) t.heap) A) ([.ref (q 0), .int x1] : List Value).toArray s 0 0 A) (F0 m 44 ls []) := by
        intro nn
        induction nn with
        | zero =>
          intro x3_13 S_14 H locs hw hP hD hS ls hl
          exact jx_w_zero hw
        | succ n_15 ih_15 =>
          intro x3_13 S_14 H locs hw hP hD hS ls hl
          obtain ⟨o_15, hZ, hk_15⟩ := jx_w_succ hw
          have hZ : b_X12_law_44 x1 x3_13 S_14 = some o_15 := hZ
          unfold b_X12_law_44 at hZ
          refine lv_iload_n hx hb dX12_law_44 rfl (lv_at hl 2 rfl) ?_
          refine lv_bipush (v := (64 : Int32)) hx hb dX12_law_45 (by decide) ?_
          refine lv_icmp_ge (tgt := 119) hx hb dX12_law_47 (by decide) (fun c_47 => ?_) (fun c_47 => ?_)
          · have hZ := jx_i_pos c_47 hZ
            have ho := Option.some.inj hZ
            subst ho
            have hE := hza_15
            rw [← (show S_14 = r_15 from hk_15)] at hE
            have hZ : f_X12_law_119 x1 S_14 = some Z := hE
            exact j119 x1 S_14 _ _ hZ hP hD hS _ (lv_sub hl [0, 1] rfl)
          · have hZ := jx_i_neg c_47 hZ
            refine lv_aload_n hx hb dX12_law_50 rfl (lv_at hl 0 rfl) ?_
            refine gf_12_lineFrom hx hb hts in12 hown hK hP (hts (.fieldLink RX12 49 "CoinsOfLastModel" "lineFrom" "[I") (List.mem_of_getElem? (i := 3) rfl)) dX12_law_51 ?_
            refine lv_bipush (v := (64 : Int32)) hx hb dX12_law_54 (by decide) ?_
            refine lv_iload_n hx hb dX12_law_56 rfl (lv_at hl 1 rfl) ?_
            refine lv_imul hx hb dX12_law_57 ?_
            refine lv_iload_n hx hb dX12_law_58 rfl (lv_at hl 2 rfl) ?_
            refine lv_iadd hx hb dX12_law_59 ?_
            refine lv_aload_n hx hb dX12_law_60 rfl (lv_at hl 0 rfl) ?_
            refine gf_12_lineFrom hx hb hts in12 hown hK hP (hts (.fieldLink RX12 49 "CoinsOfLastModel" "lineFrom" "[I") (List.mem_of_getElem? (i := 3) rfl)) dX12_law_61 ?_
            refine lv_sipush (v := (128 : Int32)) hx hb dX12_law_64 (by decide) ?_
            refine lv_iload_n hx hb dX12_law_67 rfl (lv_at hl 2 rfl) ?_
            refine lv_iadd hx hb dX12_law_68 ?_
            obtain ⟨c_49, hZ⟩ := jx_a_some hZ
            refine M_iald hx hb hK hP wM_14 c_49 dX12_law_69 ?_
            obtain ⟨c_50, hZ⟩ := jx_a_some hZ
            obtain ⟨S_51, e_S_51, hZ⟩ := jx_l_some hZ
            refine M_iast hx hb hK hP hD hS wM_14 (fun _ => wMs_14) c_50 e_S_51 dX12_law_70 (fun H locs hP hD hS => ?_)
            refine lv_aload_n hx hb dX12_law_71 rfl (lv_at hl 0 rfl) ?_
            refine gf_12_lineMid hx hb hts in12 hown hK hP (hts (.fieldLink RX12 52 "CoinsOfLastModel" "lineMid" "[I") (List.mem_of_getElem? (i := 4) rfl)) dX12_law_72 ?_
            refine lv_bipush (v := (64 : Int32)) hx hb dX12_law_75 (by decide) ?_
            refine lv_iload_n hx hb dX12_law_77 rfl (lv_at hl 1 rfl) ?_
            refine lv_imul hx hb dX12_law_78 ?_
            refine lv_iload_n hx hb dX12_law_79 rfl (lv_at hl 2 rfl) ?_
            refine lv_iadd hx hb dX12_law_80 ?_
            refine lv_aload_n hx hb dX12_law_81 rfl (lv_at hl 0 rfl) ?_
            refine gf_12_lineMid hx hb hts in12 hown hK hP (hts (.fieldLink RX12 52 "CoinsOfLastModel" "lineMid" "[I") (List.mem_of_getElem? (i := 4) rfl)) dX12_law_82 ?_
            refine lv_sipush (v := (128 : Int32)) hx hb dX12_law_85 (by decide) ?_
            refine lv_iload_n hx hb dX12_law_88 rfl (lv_at hl 2 rfl) ?_
            refine lv_iadd hx hb dX12_law_89 ?_
            obtain ⟨c_52, hZ⟩ := jx_a_some hZ
            refine M_iald hx hb hK hP wM_15 c_52 dX12_law_90 ?_
            obtain ⟨c_53, hZ⟩ := jx_a_some hZ
            obtain ⟨S_54, e_S_54, hZ⟩ := jx_l_some hZ
            refine M_iast hx hb hK hP hD hS wM_15 (fun _ => wMs_15) c_53 e_S_54 dX12_law_91 (fun H locs hP hD hS => ?_)
            refine lv_aload_n hx hb dX12_law_92 rfl (lv_at hl 0 rfl) ?_
            refine gf_12_lineTo hx hb hts in12 hown hK hP (hts (.fieldLink RX12 55 "CoinsOfLastModel" "lineTo" "[I") (List.mem_of_getElem? (i := 5) rfl)) dX12_law_93 ?_
            refine lv_bipush (v := (64 : Int32)) hx hb dX12_law_96 (by decide) ?_
            refine lv_iload_n hx hb dX12_law_98 rfl (lv_at hl 1 rfl) ?_
            refine lv_imul hx hb dX12_law_99 ?_
            refine lv_iload_n hx hb dX12_law_100 rfl (lv_at hl 2 rfl) ?_
            refine lv_iadd hx hb dX12_law_101 ?_
            refine lv_aload_n hx hb dX12_law_102 rfl (lv_at hl 0 rfl) ?_
            refine gf_12_lineTo hx hb hts in12 hown hK hP (hts (.fieldLink RX12 55 "CoinsOfLastModel" "lineTo" "[I") (List.mem_of_getElem? (i := 5) rfl)) dX12_law_103 ?_
            refine lv_sipush (v := (128 : Int32)) hx hb dX12_law_106 (by decide) ?_
            refine lv_iload_n hx hb dX12_law_109 rfl (lv_at hl 2 rfl) ?_
            refine lv_iadd hx hb dX12_law_110 ?_
            obtain ⟨c_55, hZ⟩ := jx_a_some hZ
            refine M_iald hx hb hK hP wM_16 c_55 dX12_law_111 ?_
            obtain ⟨c_56, hZ⟩ := jx_a_some hZ
            obtain ⟨S_57, e_S_57, hZ⟩ := jx_l_some hZ
            refine M_iast hx hb hK hP hD hS wM_16 (fun _ => wMs_16) c_56 e_S_57 dX12_law_112 (fun H locs hP hD hS => ?_)
            obtain ⟨x3_58, e_x3_58, hZ⟩ := jx_l_some hZ
            refine lv_iinc (v := x3_58) (lv' := [(3, .int x3_58), (0, .ref (q 0)), (1, .int x1)]) hx hb dX12_law_113 hl (k := 2) rfl (by rw [e_x3_58]; rfl) (by decide) rfl (fun ls hl => ?_)
            refine lv_goto (tgt := 44) hx hb dX12_law_116 (by decide) ?_
            have ho := Option.some.inj hZ
            subst ho
            exact ih_15 x3_58 S_57 _ _ hk_15 hP hD hS _ (lv_sub hl [1, 2, 0] rfl)
      exact l_15 FU (0 : Int32) S_12 _ _ hw hP hD hS _ (lv_sub hl [2, 3, 0] rfl)
    · have hZ := jx_i_neg c_9 hZ
      refine lv_bipush (v := (-100 : Int32)) hx hb dX12_law_25 (by decide) ?_
      refine lv_iload_n hx hb dX12_law_27 rfl (lv_at hl 0 rfl) ?_
      refine lv_isub hx hb dX12_law_28 ?_
      exact leave_i hx hb hr hlocks hP hS hZ dX12_law_29
  · have hZ := jx_i_pos c_4 hZ
    refine lv_iconst (v := (-1 : Int32)) hx hb dX12_law_9 (by decide) ?_
    exact leave_i hx hb hr hlocks hP hS hZ dX12_law_10
-- X12_two
def f_X12_two_60 (S_3 : St) : Option (Int32 × St) :=
  some ((1 : Int32), S_3)
def f_X12_two (x0 : Int32) (x1 : Int32) (x2 : Int32) (S : St) : Option (Int32 × St) :=
  (if x0 = (1 : Int32) then (if x1 = 0 then (if x2 = 0 then some ((0 : Int32), S) else f_X12_two_60 S) else f_X12_two_60 S) else if x0 = (2 : Int32) then (if x1 = 0 then some ((0 : Int32), S) else (if x2 = 0 then some ((0 : Int32), S) else some ((1 : Int32), S))) else if x0 = (3 : Int32) then (if x2 ≤ x1 then some ((0 : Int32), S) else some ((1 : Int32), S)) else if x0 = (4 : Int32) then (if x1 = x2 then some ((1 : Int32), S) else some ((0 : Int32), S)) else if x0 = (5 : Int32) then (if x1 ≤ x2 then some ((0 : Int32), S) else some ((1 : Int32), S)) else if x0 = (6 : Int32) then some ((x1 + x2), S) else if x0 = (7 : Int32) then some ((x1 - x2), S) else if x0 = (8 : Int32) then some ((x1 * x2), S) else if x0 = (9 : Int32) then (if x2 = 0 then some ((0 : Int32), S) else jx_d x2 (some ((x1 / x2), S))) else (if x2 = 0 then some ((0 : Int32), S) else jx_d x2 (some ((x1 - x1 / x2 * x2), S))))
set_option maxHeartbeats 4000000 in
set_option maxRecDepth 100000 in
theorem c_X12_two (l : Launch) (D : va_G) (q : Nat → Nat) (k : CI) (x0 : Int32) (x1 : Int32) (x2 : Int32) (S : St) (sz : Nat) (Z : Int32 × St) (hZ : f_X12_two x0 x1 x2 S = some Z) : MetI W_M SM l yX12_two wsX12_two { frames := 0, cells := 0, slots := 0, locals := 0 } [.int x0, .int x1, .int x2] D q k S sz Z := by
  refine enter (cc := cX12_two) (maxL := 3) (ret := some .int) (by decide) rfl (Nat.le_of_ble_eq_true rfl) ?_
  intro p e s m below meth c A ls hx hb hr hts hown hlocks hml hP hK hD hA hS hsp hAe hl
  have hown : s.vm.findClass RX12 = some m.cls := hown
  have hl : lv_has ls 3 [(0, .int x0), (1, .int x1), (2, .int x2)] := hl
  have j60 : ∀ (S_3 : St)  (H : Heap) (locs : List Loc) (hZ : f_X12_two_60 S_3 = some Z) (hP : va_P D vwCl (W_M q k S_3) H) (hD : va_D A (W_M q k S_3)) (hS : va_S A s.heap H locs) (ls : Array Slot) (hl : lv_has ls 3 []), W p l e ({ frames := 0, cells := 0, slots := 0, locals := 0 } : Room) s m ([.int x0, .int x1, .int x2] : List Value).toArray below meth c H locs 0 0 (MQ below (va_Qi (fun r u => (r, u) = Z) (fun u t => va_P D vwCl (W_M q k u) t.heap) A) ([.int x0, .int x1, .int x2] : List Value).toArray s 0 0 A) (F0 m 60 ls []) := by
    intro S_3   H locs hZ hP hD hS ls hl
    unfold f_X12_two_60 at hZ
    refine lv_iconst (v := (1 : Int32)) hx hb dX12_two_60 (by decide) ?_
    refine lv_goto (tgt := 65) hx hb dX12_two_61 (by decide) ?_
    exact leave_i hx hb hr hlocks hP hS hZ dX12_two_65
  unfold f_X12_two at hZ
  refine lv_iload_n hx hb dX12_two_0 rfl (lv_at hl 0 rfl) ?_
  by_cases c_1 : x0 = (1 : Int32)
  · have hZ := jx_i_pos c_1 hZ
    refine lv_tableIn (tgt := 52) hx hb dX12_two_1 (by rw [c_1]; decide) (by rw [c_1]; decide) (by rw [c_1]; rfl) (by decide) ?_
    refine lv_iload_n hx hb dX12_two_52 rfl (lv_at hl 1 rfl) ?_
    refine lv_if_ne (tgt := 60) hx hb dX12_two_53 (by decide) (fun c_2 => ?_) (fun c_2 => ?_)
    · have hZ := jx_i_neg c_2 hZ
      exact j60 S _ _ hZ hP hD hS _ (lv_sub hl [] rfl)
    · have hZ := jx_i_pos c_2 hZ
      refine lv_iload_n hx hb dX12_two_56 rfl (lv_at hl 2 rfl) ?_
      refine lv_if_eq (tgt := 64) hx hb dX12_two_57 (by decide) (fun c_5 => ?_) (fun c_5 => ?_)
      · have hZ := jx_i_pos c_5 hZ
        refine lv_iconst (v := (0 : Int32)) hx hb dX12_two_64 (by decide) ?_
        exact leave_i hx hb hr hlocks hP hS hZ dX12_two_65
      · have hZ := jx_i_neg c_5 hZ
        exact j60 S _ _ hZ hP hD hS _ (lv_sub hl [] rfl)
  have hZ := jx_i_neg c_1 hZ
  by_cases c_7 : x0 = (2 : Int32)
  · have hZ := jx_i_pos c_7 hZ
    refine lv_tableIn (tgt := 66) hx hb dX12_two_1 (by rw [c_7]; decide) (by rw [c_7]; decide) (by rw [c_7]; rfl) (by decide) ?_
    refine lv_iload_n hx hb dX12_two_66 rfl (lv_at hl 1 rfl) ?_
    refine lv_if_eq (tgt := 78) hx hb dX12_two_67 (by decide) (fun c_8 => ?_) (fun c_8 => ?_)
    · have hZ := jx_i_pos c_8 hZ
      refine lv_iconst (v := (0 : Int32)) hx hb dX12_two_78 (by decide) ?_
      exact leave_i hx hb hr hlocks hP hS hZ dX12_two_79
    · have hZ := jx_i_neg c_8 hZ
      refine lv_iload_n hx hb dX12_two_70 rfl (lv_at hl 2 rfl) ?_
      refine lv_if_eq (tgt := 78) hx hb dX12_two_71 (by decide) (fun c_9 => ?_) (fun c_9 => ?_)
      · have hZ := jx_i_pos c_9 hZ
        refine lv_iconst (v := (0 : Int32)) hx hb dX12_two_78 (by decide) ?_
        exact leave_i hx hb hr hlocks hP hS hZ dX12_two_79
      · have hZ := jx_i_neg c_9 hZ
        refine lv_iconst (v := (1 : Int32)) hx hb dX12_two_74 (by decide) ?_
        refine lv_goto (tgt := 79) hx hb dX12_two_75 (by decide) ?_
        exact leave_i hx hb hr hlocks hP hS hZ dX12_two_79
  have hZ := jx_i_neg c_7 hZ
  by_cases c_10 : x0 = (3 : Int32)
  · have hZ := jx_i_pos c_10 hZ
    refine lv_tableIn (tgt := 80) hx hb dX12_two_1 (by rw [c_10]; decide) (by rw [c_10]; decide) (by rw [c_10]; rfl) (by decide) ?_
    refine lv_iload_n hx hb dX12_two_80 rfl (lv_at hl 1 rfl) ?_
    refine lv_iload_n hx hb dX12_two_81 rfl (lv_at hl 2 rfl) ?_
    refine lv_icmp_ge (tgt := 89) hx hb dX12_two_82 (by decide) (fun c_11 => ?_) (fun c_11 => ?_)
    · have hZ := jx_i_pos c_11 hZ
      refine lv_iconst (v := (0 : Int32)) hx hb dX12_two_89 (by decide) ?_
      exact leave_i hx hb hr hlocks hP hS hZ dX12_two_90
    · have hZ := jx_i_neg c_11 hZ
      refine lv_iconst (v := (1 : Int32)) hx hb dX12_two_85 (by decide) ?_
      refine lv_goto (tgt := 90) hx hb dX12_two_86 (by decide) ?_
      exact leave_i hx hb hr hlocks hP hS hZ dX12_two_90
  have hZ := jx_i_neg c_10 hZ
  by_cases c_12 : x0 = (4 : Int32)
  · have hZ := jx_i_pos c_12 hZ
    refine lv_tableIn (tgt := 91) hx hb dX12_two_1 (by rw [c_12]; decide) (by rw [c_12]; decide) (by rw [c_12]; rfl) (by decide) ?_
    refine lv_iload_n hx hb dX12_two_91 rfl (lv_at hl 1 rfl) ?_
    refine lv_iload_n hx hb dX12_two_92 rfl (lv_at hl 2 rfl) ?_
    refine lv_icmp_ne (tgt := 100) hx hb dX12_two_93 (by decide) (fun c_13 => ?_) (fun c_13 => ?_)
    · have hZ := jx_i_neg c_13 hZ
      refine lv_iconst (v := (0 : Int32)) hx hb dX12_two_100 (by decide) ?_
      exact leave_i hx hb hr hlocks hP hS hZ dX12_two_101
    · have hZ := jx_i_pos c_13 hZ
      refine lv_iconst (v := (1 : Int32)) hx hb dX12_two_96 (by decide) ?_
      refine lv_goto (tgt := 101) hx hb dX12_two_97 (by decide) ?_
      exact leave_i hx hb hr hlocks hP hS hZ dX12_two_101
  have hZ := jx_i_neg c_12 hZ
  by_cases c_14 : x0 = (5 : Int32)
  · have hZ := jx_i_pos c_14 hZ
    refine lv_tableIn (tgt := 102) hx hb dX12_two_1 (by rw [c_14]; decide) (by rw [c_14]; decide) (by rw [c_14]; rfl) (by decide) ?_
    refine lv_iload_n hx hb dX12_two_102 rfl (lv_at hl 1 rfl) ?_
    refine lv_iload_n hx hb dX12_two_103 rfl (lv_at hl 2 rfl) ?_
    refine lv_icmp_le (tgt := 111) hx hb dX12_two_104 (by decide) (fun c_15 => ?_) (fun c_15 => ?_)
    · have hZ := jx_i_pos c_15 hZ
      refine lv_iconst (v := (0 : Int32)) hx hb dX12_two_111 (by decide) ?_
      exact leave_i hx hb hr hlocks hP hS hZ dX12_two_112
    · have hZ := jx_i_neg c_15 hZ
      refine lv_iconst (v := (1 : Int32)) hx hb dX12_two_107 (by decide) ?_
      refine lv_goto (tgt := 112) hx hb dX12_two_108 (by decide) ?_
      exact leave_i hx hb hr hlocks hP hS hZ dX12_two_112
  have hZ := jx_i_neg c_14 hZ
  by_cases c_16 : x0 = (6 : Int32)
  · have hZ := jx_i_pos c_16 hZ
    refine lv_tableIn (tgt := 113) hx hb dX12_two_1 (by rw [c_16]; decide) (by rw [c_16]; decide) (by rw [c_16]; rfl) (by decide) ?_
    refine lv_iload_n hx hb dX12_two_113 rfl (lv_at hl 1 rfl) ?_
    refine lv_iload_n hx hb dX12_two_114 rfl (lv_at hl 2 rfl) ?_
    refine lv_iadd hx hb dX12_two_115 ?_
    exact leave_i hx hb hr hlocks hP hS hZ dX12_two_116
  have hZ := jx_i_neg c_16 hZ
  by_cases c_17 : x0 = (7 : Int32)
  · have hZ := jx_i_pos c_17 hZ
    refine lv_tableIn (tgt := 117) hx hb dX12_two_1 (by rw [c_17]; decide) (by rw [c_17]; decide) (by rw [c_17]; rfl) (by decide) ?_
    refine lv_iload_n hx hb dX12_two_117 rfl (lv_at hl 1 rfl) ?_
    refine lv_iload_n hx hb dX12_two_118 rfl (lv_at hl 2 rfl) ?_
    refine lv_isub hx hb dX12_two_119 ?_
    exact leave_i hx hb hr hlocks hP hS hZ dX12_two_120
  have hZ := jx_i_neg c_17 hZ
  by_cases c_18 : x0 = (8 : Int32)
  · have hZ := jx_i_pos c_18 hZ
    refine lv_tableIn (tgt := 121) hx hb dX12_two_1 (by rw [c_18]; decide) (by rw [c_18]; decide) (by rw [c_18]; rfl) (by decide) ?_
    refine lv_iload_n hx hb dX12_two_121 rfl (lv_at hl 1 rfl) ?_
    refine lv_iload_n hx hb dX12_two_122 rfl (lv_at hl 2 rfl) ?_
    refine lv_imul hx hb dX12_two_123 ?_
    exact leave_i hx hb hr hlocks hP hS hZ dX12_two_124
  have hZ := jx_i_neg c_18 hZ
  by_cases c_19 : x0 = (9 : Int32)
  · have hZ := jx_i_pos c_19 hZ
    refine lv_tableIn (tgt := 125) hx hb dX12_two_1 (by rw [c_19]; decide) (by rw [c_19]; decide) (by rw [c_19]; rfl) (by decide) ?_
    refine lv_iload_n hx hb dX12_two_125 rfl (lv_at hl 2 rfl) ?_
    refine lv_if_ne (tgt := 133) hx hb dX12_two_126 (by decide) (fun c_20 => ?_) (fun c_20 => ?_)
    · have hZ := jx_i_neg c_20 hZ
      refine lv_iload_n hx hb dX12_two_133 rfl (lv_at hl 1 rfl) ?_
      refine lv_iload_n hx hb dX12_two_134 rfl (lv_at hl 2 rfl) ?_
      obtain ⟨c_21, hZ⟩ := jx_d_some hZ
      refine lv_idiv hx hb dX12_two_135 c_21 ?_
      exact leave_i hx hb hr hlocks hP hS hZ dX12_two_136
    · have hZ := jx_i_pos c_20 hZ
      refine lv_iconst (v := (0 : Int32)) hx hb dX12_two_129 (by decide) ?_
      refine lv_goto (tgt := 136) hx hb dX12_two_130 (by decide) ?_
      exact leave_i hx hb hr hlocks hP hS hZ dX12_two_136
  have hZ := jx_i_neg c_19 hZ
  refine lv_tableD (tgt := 137) hx hb dX12_two_1 ?_ (by decide) ?_
  · have t_0 : ¬ Int32.toInt x0 = 1 := lv_neT c_1 rfl
    have t_1 : ¬ Int32.toInt x0 = 2 := lv_neT c_7 rfl
    have t_2 : ¬ Int32.toInt x0 = 3 := lv_neT c_10 rfl
    have t_3 : ¬ Int32.toInt x0 = 4 := lv_neT c_12 rfl
    have t_4 : ¬ Int32.toInt x0 = 5 := lv_neT c_14 rfl
    have t_5 : ¬ Int32.toInt x0 = 6 := lv_neT c_16 rfl
    have t_6 : ¬ Int32.toInt x0 = 7 := lv_neT c_17 rfl
    have t_7 : ¬ Int32.toInt x0 = 8 := lv_neT c_18 rfl
    have t_8 : ¬ Int32.toInt x0 = 9 := lv_neT c_19 rfl
    by_cases a1 : Int32.toInt x0 < 1
    · exact Or.inl (Or.inl a1)
    by_cases a2 : 9 < Int32.toInt x0
    · exact Or.inl (Or.inr a2)
    exfalso; omega
  · refine lv_iload_n hx hb dX12_two_137 rfl (lv_at hl 2 rfl) ?_
    refine lv_if_ne (tgt := 145) hx hb dX12_two_138 (by decide) (fun c_22 => ?_) (fun c_22 => ?_)
    · have hZ := jx_i_neg c_22 hZ
      refine lv_iload_n hx hb dX12_two_145 rfl (lv_at hl 1 rfl) ?_
      refine lv_iload_n hx hb dX12_two_146 rfl (lv_at hl 2 rfl) ?_
      obtain ⟨c_23, hZ⟩ := jx_d_some hZ
      refine lv_irem hx hb dX12_two_147 c_23 ?_
      exact leave_i hx hb hr hlocks hP hS hZ dX12_two_148
    · have hZ := jx_i_pos c_22 hZ
      refine lv_iconst (v := (0 : Int32)) hx hb dX12_two_141 (by decide) ?_
      refine lv_goto (tgt := 148) hx hb dX12_two_142 (by decide) ?_
      exact leave_i hx hb hr hlocks hP hS hZ dX12_two_148
theorem hd_X12_two : yX12_two.cls ≠ "java/lang/invoke/MethodHandle" ∧ yX12_two.cls ≠ "java/lang/invoke/VarHandle" ∧ (parseMethodDescriptor yX12_two.desc).map (fun d => d.parameters.length) = some 3 := by decide +kernel
-- X12_valueOf
def f_X12_valueOf_169 (S_5 : St) : Option (Int32 × St) :=
  jx_a (0 : Int32) 128 (some ((S_5.1 21 (Int32.toNatClampNeg (0 : Int32))), S_5))
def f_X12_valueOf_163i6 (x1 : Int32) (x3 : Int32) (x4_22 : Int32) (x5_22 : Int32) (S_22 : St) : Option ((Int32 × Int32 × St) ⊕ (St)) :=
  jx_l (x5_22 + 1) (fun x5_23 => some (.inl (x4_22, x5_23, S_22)))
def f_X12_valueOf_126i6 (x1 : Int32) (x3 : Int32) (x4_28 : Int32) (x5_28 : Int32) (s1_28 : Int32) (s2_28 : Int32) (S_28 : St) : Option ((Int32 × Int32 × St) ⊕ (St)) :=
  jx_a s1_28 128 (jx_l (u1 S_28 21 (Int32.toNatClampNeg s1_28) s2_28) (fun S_30 => f_X12_valueOf_163i6 x1 x3 x4_28 x5_28 S_30))
def f_X12_valueOf_67i6 (x1 : Int32) (x3 : Int32) (x4_38 : Int32) (x5_38 : Int32) (s1_38 : Int32) (s2_38 : Int32) (S_38 : St) : Option ((Int32 × Int32 × St) ⊕ (St)) :=
  jx_a s1_38 128 (jx_l (u1 S_38 21 (Int32.toNatClampNeg s1_38) s2_38) (fun S_40 => jx_l (x4_38 + 1) (fun x4_41 => f_X12_valueOf_163i6 x1 x3 x4_41 x5_38 S_40)))
def b_X12_valueOf_6 (x1 : Int32) (x3 : Int32) (x4 : Int32) (x5 : Int32) (S : St) : Option ((Int32 × Int32 × St) ⊕ (St)) :=
  (if x3 ≤ x5 then some (.inr S) else jx_a (((128 : Int32) * x1) + x5) 384 (jx_l (S.1 17 (Int32.toNatClampNeg (((128 : Int32) * x1) + x5))) (fun x6_11 => (if x6_11 < (100 : Int32) then (if x6_11 ≤ (10 : Int32) then jx_l (x4 + (-1)) (fun x4_14 => jx_a (x4_14 - (1 : Int32)) 128 (jx_a x4_14 128 (jx_b2 (f_X12_two x6_11 (S.1 21 (Int32.toNatClampNeg (x4_14 - (1 : Int32)))) (S.1 21 (Int32.toNatClampNeg x4_14)) S) (fun r_19 S_17 => jx_a (x4_14 - (1 : Int32)) 128 (jx_l (u1 S_17 21 (Int32.toNatClampNeg (x4_14 - (1 : Int32))) r_19) (fun S_21 => f_X12_valueOf_163i6 x1 x3 x4_14 x5 S_21)))))) else (if x6_11 = (12 : Int32) then jx_a (x4 - (1 : Int32)) 128 (f_X12_valueOf_126i6 x1 x3 x4 x5 (x4 - (1 : Int32)) (-(S.1 21 (Int32.toNatClampNeg (x4 - (1 : Int32))))) S) else jx_a (x4 - (1 : Int32)) 128 ((if (S.1 21 (Int32.toNatClampNeg (x4 - (1 : Int32)))) = 0 then f_X12_valueOf_126i6 x1 x3 x4 x5 (x4 - (1 : Int32)) (1 : Int32) S else f_X12_valueOf_126i6 x1 x3 x4 x5 (x4 - (1 : Int32)) (0 : Int32) S)))) else (if x6_11 < (1000 : Int32) then jx_a (x6_11 - (100 : Int32)) 7 (f_X12_valueOf_67i6 x1 x3 x4 x5 x4 (S.1 20 (Int32.toNatClampNeg (x6_11 - (100 : Int32)))) S) else f_X12_valueOf_67i6 x1 x3 x4 x5 x4 (x6_11 - (1000 : Int32)) S)))))
def g_X12_valueOf_6 (x1 : Int32) (x3 : Int32) : (Int32 × Int32 × St) → Option ((Int32 × Int32 × St) ⊕ (St)) := fun z => b_X12_valueOf_6 x1 x3 z.1 z.2.1 z.2.2
def f_X12_valueOf (x1 : Int32) (x2 : Int32) (x3 : Int32) (S : St) : Option (Int32 × St) :=
  jx_b (jx_w (g_X12_valueOf_6 x1 x3) FU ((0 : Int32), x2, S)) (fun z => f_X12_valueOf_169 z)
set_option maxHeartbeats 4000000 in
set_option maxRecDepth 100000 in
theorem c_X12_valueOf (l : Launch) (D : va_G) (q : Nat → Nat) (k : CI) (x1 : Int32) (x2 : Int32) (x3 : Int32) (S : St) (sz : Nat) (Z : Int32 × St) (hZ : f_X12_valueOf x1 x2 x3 S = some Z) : MetI W_M SM l yX12_valueOf wsX12_valueOf { frames := 1, cells := 0, slots := 0, locals := 22 } [.ref (q 0), .int x1, .int x2, .int x3] D q k S sz Z := by
  refine enter (cc := cX12_valueOf) (maxL := 7) (ret := some .int) (by decide) rfl (Nat.le_of_ble_eq_true rfl) ?_
  intro p e s m below meth c A ls hx hb hr hts hown hlocks hml hP hK hD hA hS hsp hAe hl
  have hown : s.vm.findClass RX12 = some m.cls := hown
  have hl : lv_has ls 7 [(0, .ref (q 0)), (1, .int x1), (2, .int x2), (3, .int x3)] := hl
  have in12 : ∀ w ∈ wsX120, w ∈ wsX12_valueOf := fun _ h => (List.mem_cons_of_mem _ (List.mem_append_right _ h))
  have j169 : ∀ (S_5 : St)  (H : Heap) (locs : List Loc) (hZ : f_X12_valueOf_169 S_5 = some Z) (hP : va_P D vwCl (W_M q k S_5) H) (hD : va_D A (W_M q k S_5)) (hS : va_S A s.heap H locs) (ls : Array Slot) (hl : lv_has ls 7 [(0, .ref (q 0))]), W p l e ({ frames := 1, cells := 0, slots := 0, locals := 22 } : Room) s m ([.ref (q 0), .int x1, .int x2, .int x3] : List Value).toArray below meth c H locs 0 0 (MQ below (va_Qi (fun r u => (r, u) = Z) (fun u t => va_P D vwCl (W_M q k u) t.heap) A) ([.ref (q 0), .int x1, .int x2, .int x3] : List Value).toArray s 0 0 A) (F0 m 169 ls []) := by
    intro S_5   H locs hZ hP hD hS ls hl
    unfold f_X12_valueOf_169 at hZ
    refine lv_aload_n hx hb dX12_valueOf_169 rfl (lv_at hl 0 rfl) ?_
    refine gf_12_stack hx hb hts in12 hown hK hP (hts (.fieldLink RX12 71 "CoinsOfLastModel" "stack" "[I") (List.mem_of_getElem? (i := 2) rfl)) dX12_valueOf_170 ?_
    refine lv_iconst (v := (0 : Int32)) hx hb dX12_valueOf_173 (by decide) ?_
    obtain ⟨c_6, hZ⟩ := jx_a_some hZ
    refine M_iald hx hb hK hP wM_21 c_6 dX12_valueOf_174 ?_
    exact leave_i hx hb hr hlocks hP hS hZ dX12_valueOf_175
  unfold f_X12_valueOf at hZ
  refine lv_iconst (v := (0 : Int32)) hx hb dX12_valueOf_0 (by decide) ?_
  refine lv_istore (lv' := [(4, .int (0 : Int32)), (0, .ref (q 0)), (1, .int x1), (2, .int x2), (3, .int x3)]) hx hb dX12_valueOf_1 hl (by decide) rfl (fun ls hl => ?_)
  refine lv_iload_n hx hb dX12_valueOf_3 rfl (lv_at hl 3 rfl) ?_
  refine lv_istore (lv' := [(5, .int x2), (4, .int (0 : Int32)), (0, .ref (q 0)), (1, .int x1), (2, .int x2), (3, .int x3)]) hx hb dX12_valueOf_4 hl (by decide) rfl (fun ls hl => ?_)
  obtain ⟨r_4, hw, hza_4⟩ := jx_b_some hZ
  have l_4 : ∀ (nn : Nat) (x4_1 : Int32) (x5_2 : Int32) (S_3 : St) (H : Heap) (locs : List Loc) (hw : jx_w (g_X12_valueOf_6 x1 x3) nn (x4_1, x5_2, S_3) = some r_4) (hP : va_P D vwCl (W_M q k S_3) H) (hD : va_D A (W_M q k S_3)) (hS : va_S A s.heap H locs) (ls : Array Slot) (hl : lv_has ls 7 [(0, .ref (q 0)), (1, .int x1), (3, .int x3), (4, .int x4_1), (5, .int x5_2)]), W p l e ({ frames := 1, cells := 0, slots := 0, locals := 22 } : Room) s m ([.ref (q 0), .int x1, .int x2, .int x3] : List Value).toArray below meth c H locs 0 0 (MQ below (va_Qi (fun r u => (r, u) = Z) (fun u t => va_P D vwCl (W_M q k u) t.heap) A) ([.ref (q 0), .int x1, .int x2, .int x3] : List Value).toArray s 0 0 A) (F0 m 6 ls []) := by
    intro nn
    induction nn with
    | zero =>
      intro x4_1 x5_2 S_3 H locs hw hP hD hS ls hl
      exact jx_w_zero hw
    | succ n_4 ih_4 =>
      intro x4_1 x5_2 S_3 H locs hw hP hD hS ls hl
      obtain ⟨o_4, hZ, hk_4⟩ := jx_w_succ hw
      have hZ : b_X12_valueOf_6 x1 x3 x4_1 x5_2 S_3 = some o_4 := hZ
      have j163i6 : ∀ (x4_59 : Int32) (x5_59 : Int32) (S_59 : St)  (o_4 : (Int32 × Int32 × St) ⊕ (St)) (hk_4 : jx_k (g_X12_valueOf_6 x1 x3) n_4 r_4 o_4) (H : Heap) (locs : List Loc) (hZ : f_X12_valueOf_163i6 x1 x3 x4_59 x5_59 S_59 = some o_4) (hP : va_P D vwCl (W_M q k S_59) H) (hD : va_D A (W_M q k S_59)) (hS : va_S A s.heap H locs) (ls : Array Slot) (hl : lv_has ls 7 [(0, .ref (q 0)), (1, .int x1), (3, .int x3), (4, .int x4_59), (5, .int x5_59)]), W p l e ({ frames := 1, cells := 0, slots := 0, locals := 22 } : Room) s m ([.ref (q 0), .int x1, .int x2, .int x3] : List Value).toArray below meth c H locs 0 0 (MQ below (va_Qi (fun r u => (r, u) = Z) (fun u t => va_P D vwCl (W_M q k u) t.heap) A) ([.ref (q 0), .int x1, .int x2, .int x3] : List Value).toArray s 0 0 A) (F0 m 163 ls []) := by
        intro x4_59 x5_59 S_59  o_4 hk_4 H locs hZ hP hD hS ls hl
        unfold f_X12_valueOf_163i6 at hZ
        obtain ⟨x5_60, e_x5_60, hZ⟩ := jx_l_some hZ
        refine lv_iinc (v := x5_60) (lv' := [(5, .int x5_60), (0, .ref (q 0)), (1, .int x1), (3, .int x3), (4, .int x4_59)]) hx hb dX12_valueOf_163 hl (k := 4) rfl (by rw [e_x5_60]; rfl) (by decide) rfl (fun ls hl => ?_)
        refine lv_goto (tgt := 6) hx hb dX12_valueOf_166 (by decide) ?_
        have ho := Option.some.inj hZ
        subst ho
        exact ih_4 x4_59 x5_60 S_59 _ _ hk_4 hP hD hS _ (lv_sub hl [1, 2, 3, 4, 0] rfl)
      have j126i6 : ∀ (x4_65 : Int32) (x5_65 : Int32) (s1_65 : Int32) (s2_65 : Int32) (S_65 : St)  (o_4 : (Int32 × Int32 × St) ⊕ (St)) (hk_4 : jx_k (g_X12_valueOf_6 x1 x3) n_4 r_4 o_4) (H : Heap) (locs : List Loc) (hZ : f_X12_valueOf_126i6 x1 x3 x4_65 x5_65 s1_65 s2_65 S_65 = some o_4) (hP : va_P D vwCl (W_M q k S_65) H) (hD : va_D A (W_M q k S_65)) (hS : va_S A s.heap H locs) (ls : Array Slot) (hl : lv_has ls 7 [(0, .ref (q 0)), (1, .int x1), (3, .int x3), (4, .int x4_65), (5, .int x5_65)]), W p l e ({ frames := 1, cells := 0, slots := 0, locals := 22 } : Room) s m ([.ref (q 0), .int x1, .int x2, .int x3] : List Value).toArray below meth c H locs 0 0 (MQ below (va_Qi (fun r u => (r, u) = Z) (fun u t => va_P D vwCl (W_M q k u) t.heap) A) ([.ref (q 0), .int x1, .int x2, .int x3] : List Value).toArray s 0 0 A) (F0 m 126 ls [.int s2_65, .int s1_65, .ref (q 21)]) := by
        intro x4_65 x5_65 s1_65 s2_65 S_65  o_4 hk_4 H locs hZ hP hD hS ls hl
        unfold f_X12_valueOf_126i6 at hZ
        obtain ⟨c_66, hZ⟩ := jx_a_some hZ
        obtain ⟨S_67, e_S_67, hZ⟩ := jx_l_some hZ
        refine M_iast hx hb hK hP hD hS wM_21 (fun _ => wMs_21) c_66 e_S_67 dX12_valueOf_126 (fun H locs hP hD hS => ?_)
        refine lv_goto (tgt := 163) hx hb dX12_valueOf_127 (by decide) ?_
        exact j163i6 x4_65 x5_65 S_67 _ hk_4 _ _ hZ hP hD hS _ (lv_sub hl [0, 1, 2, 3, 4] rfl)
      have j67i6 : ∀ (x4_75 : Int32) (x5_75 : Int32) (s1_75 : Int32) (s2_75 : Int32) (S_75 : St)  (o_4 : (Int32 × Int32 × St) ⊕ (St)) (hk_4 : jx_k (g_X12_valueOf_6 x1 x3) n_4 r_4 o_4) (H : Heap) (locs : List Loc) (hZ : f_X12_valueOf_67i6 x1 x3 x4_75 x5_75 s1_75 s2_75 S_75 = some o_4) (hP : va_P D vwCl (W_M q k S_75) H) (hD : va_D A (W_M q k S_75)) (hS : va_S A s.heap H locs) (ls : Array Slot) (hl : lv_has ls 7 [(0, .ref (q 0)), (1, .int x1), (3, .int x3), (4, .int x4_75), (5, .int x5_75)]), W p l e ({ frames := 1, cells := 0, slots := 0, locals := 22 } : Room) s m ([.ref (q 0), .int x1, .int x2, .int x3] : List Value).toArray below meth c H locs 0 0 (MQ below (va_Qi (fun r u => (r, u) = Z) (fun u t => va_P D vwCl (W_M q k u) t.heap) A) ([.ref (q 0), .int x1, .int x2, .int x3] : List Value).toArray s 0 0 A) (F0 m 67 ls [.int s2_75, .int s1_75, .ref (q 21)]) := by
        intro x4_75 x5_75 s1_75 s2_75 S_75  o_4 hk_4 H locs hZ hP hD hS ls hl
        unfold f_X12_valueOf_67i6 at hZ
        obtain ⟨c_76, hZ⟩ := jx_a_some hZ
        obtain ⟨S_77, e_S_77, hZ⟩ := jx_l_some hZ
        refine M_iast hx hb hK hP hD hS wM_21 (fun _ => wMs_21) c_76 e_S_77 dX12_valueOf_67 (fun H locs hP hD hS => ?_)
        obtain ⟨x4_78, e_x4_78, hZ⟩ := jx_l_some hZ
        refine lv_iinc (v := x4_78) (lv' := [(4, .int x4_78), (0, .ref (q 0)), (1, .int x1), (3, .int x3), (5, .int x5_75)]) hx hb dX12_valueOf_68 hl (k := 3) rfl (by rw [e_x4_78]; rfl) (by decide) rfl (fun ls hl => ?_)
        refine lv_goto (tgt := 163) hx hb dX12_valueOf_71 (by decide) ?_
        exact j163i6 x4_78 x5_75 S_77 _ hk_4 _ _ hZ hP hD hS _ (lv_sub hl [1, 2, 3, 0, 4] rfl)
      unfold b_X12_valueOf_6 at hZ
      refine lv_iload hx hb dX12_valueOf_6 (lv_at hl 4 rfl) ?_
      refine lv_iload_n hx hb dX12_valueOf_8 rfl (lv_at hl 2 rfl) ?_
      refine lv_icmp_ge (tgt := 169) hx hb dX12_valueOf_9 (by decide) (fun c_45 => ?_) (fun c_45 => ?_)
      · have hZ := jx_i_pos c_45 hZ
        have ho := Option.some.inj hZ
        subst ho
        have hE := hza_4
        rw [← (show S_3 = r_4 from hk_4)] at hE
        have hZ : f_X12_valueOf_169 S_3 = some Z := hE
        exact j169 S_3 _ _ hZ hP hD hS _ (lv_sub hl [0] rfl)
      · have hZ := jx_i_neg c_45 hZ
        refine lv_aload_n hx hb dX12_valueOf_12 rfl (lv_at hl 0 rfl) ?_
        refine gf_12_codes hx hb hts in12 hown hK hP (hts (.fieldLink RX12 58 "CoinsOfLastModel" "codes" "[I") (List.mem_of_getElem? (i := 1) rfl)) dX12_valueOf_13 ?_
        refine lv_sipush (v := (128 : Int32)) hx hb dX12_valueOf_16 (by decide) ?_
        refine lv_iload_n hx hb dX12_valueOf_19 rfl (lv_at hl 1 rfl) ?_
        refine lv_imul hx hb dX12_valueOf_20 ?_
        refine lv_iload hx hb dX12_valueOf_21 (lv_at hl 4 rfl) ?_
        refine lv_iadd hx hb dX12_valueOf_23 ?_
        obtain ⟨c_47, hZ⟩ := jx_a_some hZ
        refine M_iald hx hb hK hP wM_17 c_47 dX12_valueOf_24 ?_
        obtain ⟨x6_48, e_x6_48, hZ⟩ := jx_l_some hZ
        refine tx_i e_x6_48 ?_
        refine lv_istore (lv' := [(6, .int x6_48), (0, .ref (q 0)), (1, .int x1), (3, .int x3), (4, .int x4_1), (5, .int x5_2)]) hx hb dX12_valueOf_25 hl (by decide) rfl (fun ls hl => ?_)
        refine lv_iload hx hb dX12_valueOf_27 (lv_at hl 0 rfl) ?_
        refine lv_bipush (v := (100 : Int32)) hx hb dX12_valueOf_29 (by decide) ?_
        refine lv_icmp_lt (tgt := 74) hx hb dX12_valueOf_31 (by decide) (fun c_49 => ?_) (fun c_49 => ?_)
        · have hZ := jx_i_pos c_49 hZ
          refine lv_iload hx hb dX12_valueOf_74 (lv_at hl 0 rfl) ?_
          refine lv_bipush (v := (10 : Int32)) hx hb dX12_valueOf_76 (by decide) ?_
          refine lv_icmp_le (tgt := 130) hx hb dX12_valueOf_78 (by decide) (fun c_50 => ?_) (fun c_50 => ?_)
          · have hZ := jx_i_pos c_50 hZ
            obtain ⟨x4_51, e_x4_51, hZ⟩ := jx_l_some hZ
            refine lv_iinc (v := x4_51) (lv' := [(4, .int x4_51), (6, .int x6_48), (0, .ref (q 0)), (1, .int x1), (3, .int x3), (5, .int x5_2)]) hx hb dX12_valueOf_130 hl (k := 4) rfl (by rw [e_x4_51]; rfl) (by decide) rfl (fun ls hl => ?_)
            refine lv_aload_n hx hb dX12_valueOf_133 rfl (lv_at hl 2 rfl) ?_
            refine gf_12_stack hx hb hts in12 hown hK hP (hts (.fieldLink RX12 71 "CoinsOfLastModel" "stack" "[I") (List.mem_of_getElem? (i := 2) rfl)) dX12_valueOf_134 ?_
            refine lv_iload hx hb dX12_valueOf_137 (lv_at hl 0 rfl) ?_
            refine lv_iconst (v := (1 : Int32)) hx hb dX12_valueOf_139 (by decide) ?_
            refine lv_isub hx hb dX12_valueOf_140 ?_
            refine lv_iload hx hb dX12_valueOf_141 (lv_at hl 1 rfl) ?_
            refine lv_aload_n hx hb dX12_valueOf_143 rfl (lv_at hl 2 rfl) ?_
            refine gf_12_stack hx hb hts in12 hown hK hP (hts (.fieldLink RX12 71 "CoinsOfLastModel" "stack" "[I") (List.mem_of_getElem? (i := 2) rfl)) dX12_valueOf_144 ?_
            refine lv_iload hx hb dX12_valueOf_147 (lv_at hl 0 rfl) ?_
            refine lv_iconst (v := (1 : Int32)) hx hb dX12_valueOf_149 (by decide) ?_
            refine lv_isub hx hb dX12_valueOf_150 ?_
            obtain ⟨c_52, hZ⟩ := jx_a_some hZ
            refine M_iald hx hb hK hP wM_21 c_52 dX12_valueOf_151 ?_
            refine lv_aload_n hx hb dX12_valueOf_152 rfl (lv_at hl 2 rfl) ?_
            refine gf_12_stack hx hb hts in12 hown hK hP (hts (.fieldLink RX12 71 "CoinsOfLastModel" "stack" "[I") (List.mem_of_getElem? (i := 2) rfl)) dX12_valueOf_153 ?_
            refine lv_iload hx hb dX12_valueOf_156 (lv_at hl 0 rfl) ?_
            obtain ⟨c_53, hZ⟩ := jx_a_some hZ
            refine M_iald hx hb hK hP wM_21 c_53 dX12_valueOf_158 ?_
            obtain ⟨r_56, S_54, hc_55, hZ⟩ := jx_b2_some hZ
            refine call_Si SM_ok sameM ⟨hx, hb, hml, hown, hts⟩ (c_X12_two l D q k x6_48 (S_3.1 21 (Int32.toNatClampNeg (x4_51 - (1 : Int32)))) (S_3.1 21 (Int32.toNatClampNeg x4_51)) S_3 _ (r_56, S_54)  hc_55) (va_cwS 3 hts gX12_valueOf_X12_two rfl rfl rfl hd_X12_two ⟨Nat.le_of_ble_eq_true rfl, Nat.le_of_ble_eq_true rfl⟩) hK hP hD hS hA hsp (As := [.int x6_48, .int (S_3.1 21 (Int32.toNatClampNeg (x4_51 - (1 : Int32)))), .int (S_3.1 21 (Int32.toNatClampNeg x4_51))]) rfl hl.1 rfl (Nat.le_of_ble_eq_true rfl) dX12_valueOf_159 ⟨Nat.zero_le _, Nat.zero_le _⟩ (fun H locs hP hD hS => ?_)
            obtain ⟨c_57, hZ⟩ := jx_a_some hZ
            obtain ⟨S_58, e_S_58, hZ⟩ := jx_l_some hZ
            refine M_iast hx hb hK hP hD hS wM_21 (fun _ => wMs_21) c_57 e_S_58 dX12_valueOf_162 (fun H locs hP hD hS => ?_)
            exact j163i6 x4_51 x5_2 S_58 _ hk_4 _ _ hZ hP hD hS _ (lv_sub hl [2, 3, 4, 0, 5] rfl)
          · have hZ := jx_i_neg c_50 hZ
            refine lv_aload_n hx hb dX12_valueOf_81 rfl (lv_at hl 1 rfl) ?_
            refine gf_12_stack hx hb hts in12 hown hK hP (hts (.fieldLink RX12 71 "CoinsOfLastModel" "stack" "[I") (List.mem_of_getElem? (i := 2) rfl)) dX12_valueOf_82 ?_
            refine lv_iload hx hb dX12_valueOf_85 (lv_at hl 4 rfl) ?_
            refine lv_iconst (v := (1 : Int32)) hx hb dX12_valueOf_87 (by decide) ?_
            refine lv_isub hx hb dX12_valueOf_88 ?_
            refine lv_iload hx hb dX12_valueOf_89 (lv_at hl 0 rfl) ?_
            refine lv_bipush (v := (12 : Int32)) hx hb dX12_valueOf_91 (by decide) ?_
            refine lv_icmp_ne (tgt := 109) hx hb dX12_valueOf_93 (by decide) (fun c_62 => ?_) (fun c_62 => ?_)
            · have hZ := jx_i_neg c_62 hZ
              refine lv_aload_n hx hb dX12_valueOf_109 rfl (lv_at hl 1 rfl) ?_
              refine gf_12_stack hx hb hts in12 hown hK hP (hts (.fieldLink RX12 71 "CoinsOfLastModel" "stack" "[I") (List.mem_of_getElem? (i := 2) rfl)) dX12_valueOf_110 ?_
              refine lv_iload hx hb dX12_valueOf_113 (lv_at hl 4 rfl) ?_
              refine lv_iconst (v := (1 : Int32)) hx hb dX12_valueOf_115 (by decide) ?_
              refine lv_isub hx hb dX12_valueOf_116 ?_
              obtain ⟨c_63, hZ⟩ := jx_a_some hZ
              refine M_iald hx hb hK hP wM_21 c_63 dX12_valueOf_117 ?_
              refine lv_if_ne (tgt := 125) hx hb dX12_valueOf_118 (by decide) (fun c_64 => ?_) (fun c_64 => ?_)
              · have hZ := jx_i_neg c_64 hZ
                refine lv_iconst (v := (0 : Int32)) hx hb dX12_valueOf_125 (by decide) ?_
                exact j126i6 x4_1 x5_2 (x4_1 - (1 : Int32)) (0 : Int32) S_3 _ hk_4 _ _ hZ hP hD hS _ (lv_sub hl [1, 2, 3, 4, 5] rfl)
              · have hZ := jx_i_pos c_64 hZ
                refine lv_iconst (v := (1 : Int32)) hx hb dX12_valueOf_121 (by decide) ?_
                refine lv_goto (tgt := 126) hx hb dX12_valueOf_122 (by decide) ?_
                exact j126i6 x4_1 x5_2 (x4_1 - (1 : Int32)) (1 : Int32) S_3 _ hk_4 _ _ hZ hP hD hS _ (lv_sub hl [1, 2, 3, 4, 5] rfl)
            · have hZ := jx_i_pos c_62 hZ
              refine lv_aload_n hx hb dX12_valueOf_96 rfl (lv_at hl 1 rfl) ?_
              refine gf_12_stack hx hb hts in12 hown hK hP (hts (.fieldLink RX12 71 "CoinsOfLastModel" "stack" "[I") (List.mem_of_getElem? (i := 2) rfl)) dX12_valueOf_97 ?_
              refine lv_iload hx hb dX12_valueOf_100 (lv_at hl 4 rfl) ?_
              refine lv_iconst (v := (1 : Int32)) hx hb dX12_valueOf_102 (by decide) ?_
              refine lv_isub hx hb dX12_valueOf_103 ?_
              obtain ⟨c_71, hZ⟩ := jx_a_some hZ
              refine M_iald hx hb hK hP wM_21 c_71 dX12_valueOf_104 ?_
              refine lv_ineg hx hb dX12_valueOf_105 ?_
              refine lv_goto (tgt := 126) hx hb dX12_valueOf_106 (by decide) ?_
              exact j126i6 x4_1 x5_2 (x4_1 - (1 : Int32)) (-(S_3.1 21 (Int32.toNatClampNeg (x4_1 - (1 : Int32))))) S_3 _ hk_4 _ _ hZ hP hD hS _ (lv_sub hl [1, 2, 3, 4, 5] rfl)
        · have hZ := jx_i_neg c_49 hZ
          refine lv_aload_n hx hb dX12_valueOf_34 rfl (lv_at hl 1 rfl) ?_
          refine gf_12_stack hx hb hts in12 hown hK hP (hts (.fieldLink RX12 71 "CoinsOfLastModel" "stack" "[I") (List.mem_of_getElem? (i := 2) rfl)) dX12_valueOf_35 ?_
          refine lv_iload hx hb dX12_valueOf_38 (lv_at hl 4 rfl) ?_
          refine lv_iload hx hb dX12_valueOf_40 (lv_at hl 0 rfl) ?_
          refine lv_sipush (v := (1000 : Int32)) hx hb dX12_valueOf_42 (by decide) ?_
          refine lv_icmp_lt (tgt := 57) hx hb dX12_valueOf_45 (by decide) (fun c_73 => ?_) (fun c_73 => ?_)
          · have hZ := jx_i_pos c_73 hZ
            refine lv_aload_n hx hb dX12_valueOf_57 rfl (lv_at hl 1 rfl) ?_
            refine gf_12_named hx hb hts in12 hown hK hP (hts (.fieldLink RX12 68 "CoinsOfLastModel" "named" "[I") (List.mem_of_getElem? (i := 3) rfl)) dX12_valueOf_58 ?_
            refine lv_iload hx hb dX12_valueOf_61 (lv_at hl 0 rfl) ?_
            refine lv_bipush (v := (100 : Int32)) hx hb dX12_valueOf_63 (by decide) ?_
            refine lv_isub hx hb dX12_valueOf_65 ?_
            obtain ⟨c_74, hZ⟩ := jx_a_some hZ
            refine M_iald hx hb hK hP wM_20 c_74 dX12_valueOf_66 ?_
            exact j67i6 x4_1 x5_2 x4_1 (S_3.1 20 (Int32.toNatClampNeg (x6_48 - (100 : Int32)))) S_3 _ hk_4 _ _ hZ hP hD hS _ (lv_sub hl [1, 2, 3, 4, 5] rfl)
          · have hZ := jx_i_neg c_73 hZ
            refine lv_iload hx hb dX12_valueOf_48 (lv_at hl 0 rfl) ?_
            refine lv_sipush (v := (1000 : Int32)) hx hb dX12_valueOf_50 (by decide) ?_
            refine lv_isub hx hb dX12_valueOf_53 ?_
            refine lv_goto (tgt := 67) hx hb dX12_valueOf_54 (by decide) ?_
            exact j67i6 x4_1 x5_2 x4_1 (x6_48 - (1000 : Int32)) S_3 _ hk_4 _ _ hZ hP hD hS _ (lv_sub hl [1, 2, 3, 4, 5] rfl)
  exact l_4 FU (0 : Int32) x2 S _ _ hw hP hD hS _ (lv_sub hl [2, 3, 5, 1, 0] rfl)
theorem hd_X12_valueOf : yX12_valueOf.cls = RX12 ∧ yX12_valueOf.cls ≠ "java/lang/invoke/MethodHandle" ∧ yX12_valueOf.cls ≠ "java/lang/invoke/VarHandle" ∧ (parseMethodDescriptor yX12_valueOf.desc).map (fun d => d.parameters.length) = some 3 := by decide +kernel
-- X12_told
def f_X12_told_89 (S_5 : St) : Option (Int32 × St) :=
  some ((0 : Int32), S_5)
def f_X12_told_65 (x1_7 : Int32) (x2_7 : Int32) (S_7 : St) : Option (Int32 × St) :=
  jx_a x2_7 192 (jx_a x2_7 192 (jx_b2 (f_X12_valueOf x1_7 (S_7.1 15 (Int32.toNatClampNeg x2_7)) (S_7.1 16 (Int32.toNatClampNeg x2_7)) S_7) (fun r_12 S_10 => some (r_12, S_10))))
def f_X12_told_40i5 (x1 : Int32) (x2_20 : Int32) (s0_20 : Int32) (S_20 : St) : Option ((Int32 × St) ⊕ ((St) ⊕ ((Int32 × St)))) :=
  (if s0_20 = 0 then jx_a x2_20 192 (jx_a x2_20 192 (jx_b2 (f_X12_valueOf x1 (S_20.1 14 (Int32.toNatClampNeg x2_20)) (S_20.1 15 (Int32.toNatClampNeg x2_20)) S_20) (fun r_27 S_25 => (if r_27 = 0 then jx_l (x2_20 + 1) (fun x2_29 => some (.inl (x2_29, S_25))) else some (.inr (.inr (x2_20, S_25))))))) else some (.inr (.inr (x2_20, S_20))))
def b_X12_told_5 (x1 : Int32) (x2 : Int32) (S : St) : Option ((Int32 × St) ⊕ ((St) ⊕ ((Int32 × St)))) :=
  jx_a x1 3 ((if (((64 : Int32) * x1) + (S.1 13 (Int32.toNatClampNeg x1))) ≤ x2 then some (.inr (.inl S)) else jx_a x2 192 (jx_a x2 192 ((if (S.1 15 (Int32.toNatClampNeg x2)) = (S.1 14 (Int32.toNatClampNeg x2)) then f_X12_told_40i5 x1 x2 (1 : Int32) S else f_X12_told_40i5 x1 x2 (0 : Int32) S)))))
def g_X12_told_5 (x1 : Int32) : (Int32 × St) → Option ((Int32 × St) ⊕ ((St) ⊕ ((Int32 × St)))) := fun z => b_X12_told_5 x1 z.1 z.2
def f_X12_told (x1 : Int32) (S : St) : Option (Int32 × St) :=
  jx_l ((64 : Int32) * x1) (fun x2_1 => jx_b (jx_w (g_X12_told_5 x1) FU (x2_1, S)) (fun z => Sum.elim (fun z => f_X12_told_89 z) (fun z => f_X12_told_65 x1 z.1 z.2) z))
set_option maxHeartbeats 4000000 in
set_option maxRecDepth 100000 in
theorem c_X12_told (l : Launch) (D : va_G) (q : Nat → Nat) (k : CI) (x1 : Int32) (S : St) (sz : Nat) (Z : Int32 × St) (hZ : f_X12_told x1 S = some Z) : MetI W_M SM l yX12_told wsX12_told { frames := 2, cells := 0, slots := 0, locals := 48 } [.ref (q 0), .int x1] D q k S sz Z := by
  refine enter (cc := cX12_told) (maxL := 4) (ret := some .int) (by decide) rfl (Nat.le_of_ble_eq_true rfl) ?_
  intro p e s m below meth c A ls hx hb hr hts hown hlocks hml hP hK hD hA hS hsp hAe hl
  have hown : s.vm.findClass RX12 = some m.cls := hown
  have hl : lv_has ls 4 [(0, .ref (q 0)), (1, .int x1)] := hl
  have in12 : ∀ w ∈ wsX120, w ∈ wsX12_told := fun _ h => (List.mem_cons_of_mem _ (List.mem_append_right _ h))
  have j89 : ∀ (S_5 : St)  (H : Heap) (locs : List Loc) (hZ : f_X12_told_89 S_5 = some Z) (hP : va_P D vwCl (W_M q k S_5) H) (hD : va_D A (W_M q k S_5)) (hS : va_S A s.heap H locs) (ls : Array Slot) (hl : lv_has ls 4 []), W p l e ({ frames := 2, cells := 0, slots := 0, locals := 48 } : Room) s m ([.ref (q 0), .int x1] : List Value).toArray below meth c H locs 0 0 (MQ below (va_Qi (fun r u => (r, u) = Z) (fun u t => va_P D vwCl (W_M q k u) t.heap) A) ([.ref (q 0), .int x1] : List Value).toArray s 0 0 A) (F0 m 89 ls []) := by
    intro S_5   H locs hZ hP hD hS ls hl
    unfold f_X12_told_89 at hZ
    refine lv_iconst (v := (0 : Int32)) hx hb dX12_told_89 (by decide) ?_
    exact leave_i hx hb hr hlocks hP hS hZ dX12_told_90
  have j65 : ∀ (x1_7 : Int32) (x2_7 : Int32) (S_7 : St)  (H : Heap) (locs : List Loc) (hZ : f_X12_told_65 x1_7 x2_7 S_7 = some Z) (hP : va_P D vwCl (W_M q k S_7) H) (hD : va_D A (W_M q k S_7)) (hS : va_S A s.heap H locs) (ls : Array Slot) (hl : lv_has ls 4 [(0, .ref (q 0)), (1, .int x1_7), (2, .int x2_7)]), W p l e ({ frames := 2, cells := 0, slots := 0, locals := 48 } : Room) s m ([.ref (q 0), .int x1] : List Value).toArray below meth c H locs 0 0 (MQ below (va_Qi (fun r u => (r, u) = Z) (fun u t => va_P D vwCl (W_M q k u) t.heap) A) ([.ref (q 0), .int x1] : List Value).toArray s 0 0 A) (F0 m 65 ls []) := by
    intro x1_7 x2_7 S_7   H locs hZ hP hD hS ls hl
    unfold f_X12_told_65 at hZ
    refine lv_aload_n hx hb dX12_told_65 rfl (lv_at hl 0 rfl) ?_
    refine lv_iload_n hx hb dX12_told_66 rfl (lv_at hl 1 rfl) ?_
    refine lv_aload_n hx hb dX12_told_67 rfl (lv_at hl 0 rfl) ?_
    refine gf_12_lineMid hx hb hts in12 hown hK hP (hts (.fieldLink RX12 52 "CoinsOfLastModel" "lineMid" "[I") (List.mem_of_getElem? (i := 2) rfl)) dX12_told_68 ?_
    refine lv_iload_n hx hb dX12_told_71 rfl (lv_at hl 2 rfl) ?_
    obtain ⟨c_8, hZ⟩ := jx_a_some hZ
    refine M_iald hx hb hK hP wM_15 c_8 dX12_told_72 ?_
    refine lv_aload_n hx hb dX12_told_73 rfl (lv_at hl 0 rfl) ?_
    refine gf_12_lineTo hx hb hts in12 hown hK hP (hts (.fieldLink RX12 55 "CoinsOfLastModel" "lineTo" "[I") (List.mem_of_getElem? (i := 4) rfl)) dX12_told_74 ?_
    refine lv_iload_n hx hb dX12_told_77 rfl (lv_at hl 2 rfl) ?_
    obtain ⟨c_9, hZ⟩ := jx_a_some hZ
    refine M_iald hx hb hK hP wM_16 c_9 dX12_told_78 ?_
    obtain ⟨r_12, S_10, hc_11, hZ⟩ := jx_b2_some hZ
    refine call_Vi SM_ok sameM ⟨hx, hb, hml, hown, hts⟩ (c_X12_valueOf l D q k x1_7 (S_7.1 15 (Int32.toNatClampNeg x2_7)) (S_7.1 16 (Int32.toNatClampNeg x2_7)) S_7 _ (r_12, S_10)  hc_11) (cwV 3 hts gX12_told_X12_valueOf rfl rfl rfl hd_X12_valueOf ⟨Nat.le_of_ble_eq_true rfl, Nat.le_of_ble_eq_true rfl⟩) hK hP hD hS hA hsp (va_recv hK hP (ci := 12) (q0 := 0) rfl wM_0) (As := [.int x1_7, .int (S_7.1 15 (Int32.toNatClampNeg x2_7)), .int (S_7.1 16 (Int32.toNatClampNeg x2_7))]) rfl hl.1 rfl (Nat.le_of_ble_eq_true rfl) dX12_told_79 ⟨Nat.zero_le _, Nat.zero_le _⟩ (fun H locs hP hD hS => ?_)
    exact leave_i hx hb hr hlocks hP hS hZ dX12_told_82
  unfold f_X12_told at hZ
  refine lv_bipush (v := (64 : Int32)) hx hb dX12_told_0 (by decide) ?_
  refine lv_iload_n hx hb dX12_told_2 rfl (lv_at hl 1 rfl) ?_
  refine lv_imul hx hb dX12_told_3 ?_
  obtain ⟨x2_1, e_x2_1, hZ⟩ := jx_l_some hZ
  refine tx_i e_x2_1 ?_
  refine lv_istore_n (lv' := [(2, .int x2_1), (0, .ref (q 0)), (1, .int x1)]) hx hb dX12_told_4 rfl hl (by decide) rfl (fun ls hl => ?_)
  obtain ⟨r_4, hw, hza_4⟩ := jx_b_some hZ
  have l_4 : ∀ (nn : Nat) (x2_2 : Int32) (S_3 : St) (H : Heap) (locs : List Loc) (hw : jx_w (g_X12_told_5 x1) nn (x2_2, S_3) = some r_4) (hP : va_P D vwCl (W_M q k S_3) H) (hD : va_D A (W_M q k S_3)) (hS : va_S A s.heap H locs) (ls : Array Slot) (hl : lv_has ls 4 [(0, .ref (q 0)), (1, .int x1), (2, .int x2_2)]), W p l e ({ frames := 2, cells := 0, slots := 0, locals := 48 } : Room) s m ([.ref (q 0), .int x1] : List Value).toArray below meth c H locs 0 0 (MQ below (va_Qi (fun r u => (r, u) = Z) (fun u t => va_P D vwCl (W_M q k u) t.heap) A) ([.ref (q 0), .int x1] : List Value).toArray s 0 0 A) (F0 m 5 ls []) := by
    intro nn
    induction nn with
    | zero =>
      intro x2_2 S_3 H locs hw hP hD hS ls hl
      exact jx_w_zero hw
    | succ n_4 ih_4 =>
      intro x2_2 S_3 H locs hw hP hD hS ls hl
      obtain ⟨o_4, hZ, hk_4⟩ := jx_w_succ hw
      have hZ : b_X12_told_5 x1 x2_2 S_3 = some o_4 := hZ
      have j40i5 : ∀ (x2_39 : Int32) (s0_39 : Int32) (S_39 : St)  (o_4 : (Int32 × St) ⊕ ((St) ⊕ ((Int32 × St)))) (hk_4 : jx_k (g_X12_told_5 x1) n_4 r_4 o_4) (H : Heap) (locs : List Loc) (hZ : f_X12_told_40i5 x1 x2_39 s0_39 S_39 = some o_4) (hP : va_P D vwCl (W_M q k S_39) H) (hD : va_D A (W_M q k S_39)) (hS : va_S A s.heap H locs) (ls : Array Slot) (hl : lv_has ls 4 [(0, .ref (q 0)), (1, .int x1), (2, .int x2_39)]), W p l e ({ frames := 2, cells := 0, slots := 0, locals := 48 } : Room) s m ([.ref (q 0), .int x1] : List Value).toArray below meth c H locs 0 0 (MQ below (va_Qi (fun r u => (r, u) = Z) (fun u t => va_P D vwCl (W_M q k u) t.heap) A) ([.ref (q 0), .int x1] : List Value).toArray s 0 0 A) (F0 m 40 ls [.int s0_39]) := by
        intro x2_39 s0_39 S_39  o_4 hk_4 H locs hZ hP hD hS ls hl
        unfold f_X12_told_40i5 at hZ
        refine lv_istore_n (lv' := [(3, .int s0_39), (0, .ref (q 0)), (1, .int x1), (2, .int x2_39)]) hx hb dX12_told_40 rfl hl (by decide) rfl (fun ls hl => ?_)
        refine lv_iload_n hx hb dX12_told_41 rfl (lv_at hl 0 rfl) ?_
        refine lv_if_ne (tgt := 65) hx hb dX12_told_42 (by decide) (fun c_40 => ?_) (fun c_40 => ?_)
        · have hZ := jx_i_neg c_40 hZ
          have ho := Option.some.inj hZ
          subst ho
          have hE := hza_4
          rw [← (show .inr (x2_39, S_39) = r_4 from hk_4)] at hE
          have hZ : f_X12_told_65 x1 x2_39 S_39 = some Z := hE
          exact j65 x1 x2_39 S_39 _ _ hZ hP hD hS _ (lv_sub hl [1, 2, 3] rfl)
        · have hZ := jx_i_pos c_40 hZ
          refine lv_aload_n hx hb dX12_told_45 rfl (lv_at hl 1 rfl) ?_
          refine lv_iload_n hx hb dX12_told_46 rfl (lv_at hl 2 rfl) ?_
          refine lv_aload_n hx hb dX12_told_47 rfl (lv_at hl 1 rfl) ?_
          refine gf_12_lineFrom hx hb hts in12 hown hK hP (hts (.fieldLink RX12 49 "CoinsOfLastModel" "lineFrom" "[I") (List.mem_of_getElem? (i := 3) rfl)) dX12_told_48 ?_
          refine lv_iload_n hx hb dX12_told_51 rfl (lv_at hl 3 rfl) ?_
          obtain ⟨c_42, hZ⟩ := jx_a_some hZ
          refine M_iald hx hb hK hP wM_14 c_42 dX12_told_52 ?_
          refine lv_aload_n hx hb dX12_told_53 rfl (lv_at hl 1 rfl) ?_
          refine gf_12_lineMid hx hb hts in12 hown hK hP (hts (.fieldLink RX12 52 "CoinsOfLastModel" "lineMid" "[I") (List.mem_of_getElem? (i := 2) rfl)) dX12_told_54 ?_
          refine lv_iload_n hx hb dX12_told_57 rfl (lv_at hl 3 rfl) ?_
          obtain ⟨c_43, hZ⟩ := jx_a_some hZ
          refine M_iald hx hb hK hP wM_15 c_43 dX12_told_58 ?_
          obtain ⟨r_46, S_44, hc_45, hZ⟩ := jx_b2_some hZ
          refine call_Vi SM_ok sameM ⟨hx, hb, hml, hown, hts⟩ (c_X12_valueOf l D q k x1 (S_39.1 14 (Int32.toNatClampNeg x2_39)) (S_39.1 15 (Int32.toNatClampNeg x2_39)) S_39 _ (r_46, S_44)  hc_45) (cwV 3 hts gX12_told_X12_valueOf rfl rfl rfl hd_X12_valueOf ⟨Nat.le_of_ble_eq_true rfl, Nat.le_of_ble_eq_true rfl⟩) hK hP hD hS hA hsp (va_recv hK hP (ci := 12) (q0 := 0) rfl wM_0) (As := [.int x1, .int (S_39.1 14 (Int32.toNatClampNeg x2_39)), .int (S_39.1 15 (Int32.toNatClampNeg x2_39))]) rfl hl.1 rfl (Nat.le_of_ble_eq_true rfl) dX12_told_59 ⟨Nat.zero_le _, Nat.zero_le _⟩ (fun H locs hP hD hS => ?_)
          refine lv_if_eq (tgt := 83) hx hb dX12_told_62 (by decide) (fun c_47 => ?_) (fun c_47 => ?_)
          · have hZ := jx_i_pos c_47 hZ
            obtain ⟨x2_48, e_x2_48, hZ⟩ := jx_l_some hZ
            refine lv_iinc (v := x2_48) (lv' := [(2, .int x2_48), (3, .int s0_39), (0, .ref (q 0)), (1, .int x1)]) hx hb dX12_told_83 hl (k := 3) rfl (by rw [e_x2_48]; rfl) (by decide) rfl (fun ls hl => ?_)
            refine lv_goto (tgt := 5) hx hb dX12_told_86 (by decide) ?_
            have ho := Option.some.inj hZ
            subst ho
            exact ih_4 x2_48 S_44 _ _ hk_4 hP hD hS _ (lv_sub hl [2, 3, 0] rfl)
          · have hZ := jx_i_neg c_47 hZ
            have ho := Option.some.inj hZ
            subst ho
            have hE := hza_4
            rw [← (show .inr (x2_39, S_44) = r_4 from hk_4)] at hE
            have hZ : f_X12_told_65 x1 x2_39 S_44 = some Z := hE
            exact j65 x1 x2_39 S_44 _ _ hZ hP hD hS _ (lv_sub hl [1, 2, 3] rfl)
      unfold b_X12_told_5 at hZ
      refine lv_iload_n hx hb dX12_told_5 rfl (lv_at hl 2 rfl) ?_
      refine lv_bipush (v := (64 : Int32)) hx hb dX12_told_6 (by decide) ?_
      refine lv_iload_n hx hb dX12_told_8 rfl (lv_at hl 1 rfl) ?_
      refine lv_imul hx hb dX12_told_9 ?_
      refine lv_aload_n hx hb dX12_told_10 rfl (lv_at hl 0 rfl) ?_
      refine gf_12_lineMany hx hb hts in12 hown hK hP (hts (.fieldLink RX12 46 "CoinsOfLastModel" "lineMany" "[I") (List.mem_of_getElem? (i := 1) rfl)) dX12_told_11 ?_
      refine lv_iload_n hx hb dX12_told_14 rfl (lv_at hl 1 rfl) ?_
      obtain ⟨c_33, hZ⟩ := jx_a_some hZ
      refine M_iald hx hb hK hP wM_13 c_33 dX12_told_15 ?_
      refine lv_iadd hx hb dX12_told_16 ?_
      refine lv_icmp_ge (tgt := 89) hx hb dX12_told_17 (by decide) (fun c_34 => ?_) (fun c_34 => ?_)
      · have hZ := jx_i_pos c_34 hZ
        have ho := Option.some.inj hZ
        subst ho
        have hE := hza_4
        rw [← (show .inl S_3 = r_4 from hk_4)] at hE
        have hZ : f_X12_told_89 S_3 = some Z := hE
        exact j89 S_3 _ _ hZ hP hD hS _ (lv_sub hl [] rfl)
      · have hZ := jx_i_neg c_34 hZ
        refine lv_aload_n hx hb dX12_told_20 rfl (lv_at hl 0 rfl) ?_
        refine gf_12_lineMid hx hb hts in12 hown hK hP (hts (.fieldLink RX12 52 "CoinsOfLastModel" "lineMid" "[I") (List.mem_of_getElem? (i := 2) rfl)) dX12_told_21 ?_
        refine lv_iload_n hx hb dX12_told_24 rfl (lv_at hl 2 rfl) ?_
        obtain ⟨c_36, hZ⟩ := jx_a_some hZ
        refine M_iald hx hb hK hP wM_15 c_36 dX12_told_25 ?_
        refine lv_aload_n hx hb dX12_told_26 rfl (lv_at hl 0 rfl) ?_
        refine gf_12_lineFrom hx hb hts in12 hown hK hP (hts (.fieldLink RX12 49 "CoinsOfLastModel" "lineFrom" "[I") (List.mem_of_getElem? (i := 3) rfl)) dX12_told_27 ?_
        refine lv_iload_n hx hb dX12_told_30 rfl (lv_at hl 2 rfl) ?_
        obtain ⟨c_37, hZ⟩ := jx_a_some hZ
        refine M_iald hx hb hK hP wM_14 c_37 dX12_told_31 ?_
        refine lv_icmp_ne (tgt := 39) hx hb dX12_told_32 (by decide) (fun c_38 => ?_) (fun c_38 => ?_)
        · have hZ := jx_i_neg c_38 hZ
          refine lv_iconst (v := (0 : Int32)) hx hb dX12_told_39 (by decide) ?_
          exact j40i5 x2_2 (0 : Int32) S_3 _ hk_4 _ _ hZ hP hD hS _ (lv_sub hl [0, 1, 2] rfl)
        · have hZ := jx_i_pos c_38 hZ
          refine lv_iconst (v := (1 : Int32)) hx hb dX12_told_35 (by decide) ?_
          refine lv_goto (tgt := 40) hx hb dX12_told_36 (by decide) ?_
          exact j40i5 x2_2 (1 : Int32) S_3 _ hk_4 _ _ hZ hP hD hS _ (lv_sub hl [0, 1, 2] rfl)
  exact l_4 FU x2_1 S _ _ hw hP hD hS _ (lv_sub hl [1, 2, 0] rfl)
-- X12_names
def f_X12_names (x1 : Int32) (x2 : Int32) (x3 : Int32) (x4 : Int32) (x5 : Int32) (x6 : Int32) (x7 : Int32) (S : St) : Option (St) :=
  jx_a (0 : Int32) 7 (jx_l (u1 S 20 (Int32.toNatClampNeg (0 : Int32)) x1) (fun S_2 => jx_a (1 : Int32) 7 (jx_l (u1 S_2 20 (Int32.toNatClampNeg (1 : Int32)) x2) (fun S_4 => jx_a (2 : Int32) 7 (jx_l (u1 S_4 20 (Int32.toNatClampNeg (2 : Int32)) x3) (fun S_6 => jx_a (3 : Int32) 7 (jx_l (u1 S_6 20 (Int32.toNatClampNeg (3 : Int32)) x4) (fun S_8 => jx_a (4 : Int32) 7 (jx_l (u1 S_8 20 (Int32.toNatClampNeg (4 : Int32)) x5) (fun S_10 => jx_a (5 : Int32) 7 (jx_l (u1 S_10 20 (Int32.toNatClampNeg (5 : Int32)) x6) (fun S_12 => jx_a (6 : Int32) 7 (jx_l (u1 S_12 20 (Int32.toNatClampNeg (6 : Int32)) x7) (fun S_14 => some S_14))))))))))))))
set_option maxHeartbeats 4000000 in
set_option maxRecDepth 100000 in
theorem c_X12_names (l : Launch) (D : va_G) (q : Nat → Nat) (k : CI) (x1 : Int32) (x2 : Int32) (x3 : Int32) (x4 : Int32) (x5 : Int32) (x6 : Int32) (x7 : Int32) (S : St) (sz : Nat) (Z : St) (hZ : f_X12_names x1 x2 x3 x4 x5 x6 x7 S = some Z) : MetV W_M SM l yX12_names wsX12_names { frames := 0, cells := 0, slots := 0, locals := 0 } [.ref (q 0), .int x1, .int x2, .int x3, .int x4, .int x5, .int x6, .int x7] D q k S sz Z := by
  refine enter (cc := cX12_names) (maxL := 8) (ret := none) (by decide) rfl (Nat.le_of_ble_eq_true rfl) ?_
  intro p e s m below meth c A ls hx hb hr hts hown hlocks hml hP hK hD hA hS hsp hAe hl
  have hown : s.vm.findClass RX12 = some m.cls := hown
  have hl : lv_has ls 8 [(0, .ref (q 0)), (1, .int x1), (2, .int x2), (3, .int x3), (4, .int x4), (5, .int x5), (6, .int x6), (7, .int x7)] := hl
  have in12 : ∀ w ∈ wsX120, w ∈ wsX12_names := fun _ h => (List.mem_cons_of_mem _ (List.mem_append_right _ h))
  unfold f_X12_names at hZ
  refine lv_aload_n hx hb dX12_names_0 rfl (lv_at hl 0 rfl) ?_
  refine gf_12_named hx hb hts in12 hown hK hP (hts (.fieldLink RX12 68 "CoinsOfLastModel" "named" "[I") (List.mem_of_getElem? (i := 1) rfl)) dX12_names_1 ?_
  refine lv_iconst (v := (0 : Int32)) hx hb dX12_names_4 (by decide) ?_
  refine lv_iload_n hx hb dX12_names_5 rfl (lv_at hl 1 rfl) ?_
  obtain ⟨c_1, hZ⟩ := jx_a_some hZ
  obtain ⟨S_2, e_S_2, hZ⟩ := jx_l_some hZ
  refine M_iast hx hb hK hP hD hS wM_20 (fun _ => wMs_20) c_1 e_S_2 dX12_names_6 (fun H locs hP hD hS => ?_)
  refine lv_aload_n hx hb dX12_names_7 rfl (lv_at hl 0 rfl) ?_
  refine gf_12_named hx hb hts in12 hown hK hP (hts (.fieldLink RX12 68 "CoinsOfLastModel" "named" "[I") (List.mem_of_getElem? (i := 1) rfl)) dX12_names_8 ?_
  refine lv_iconst (v := (1 : Int32)) hx hb dX12_names_11 (by decide) ?_
  refine lv_iload_n hx hb dX12_names_12 rfl (lv_at hl 2 rfl) ?_
  obtain ⟨c_3, hZ⟩ := jx_a_some hZ
  obtain ⟨S_4, e_S_4, hZ⟩ := jx_l_some hZ
  refine M_iast hx hb hK hP hD hS wM_20 (fun _ => wMs_20) c_3 e_S_4 dX12_names_13 (fun H locs hP hD hS => ?_)
  refine lv_aload_n hx hb dX12_names_14 rfl (lv_at hl 0 rfl) ?_
  refine gf_12_named hx hb hts in12 hown hK hP (hts (.fieldLink RX12 68 "CoinsOfLastModel" "named" "[I") (List.mem_of_getElem? (i := 1) rfl)) dX12_names_15 ?_
  refine lv_iconst (v := (2 : Int32)) hx hb dX12_names_18 (by decide) ?_
  refine lv_iload_n hx hb dX12_names_19 rfl (lv_at hl 3 rfl) ?_
  obtain ⟨c_5, hZ⟩ := jx_a_some hZ
  obtain ⟨S_6, e_S_6, hZ⟩ := jx_l_some hZ
  refine M_iast hx hb hK hP hD hS wM_20 (fun _ => wMs_20) c_5 e_S_6 dX12_names_20 (fun H locs hP hD hS => ?_)
  refine lv_aload_n hx hb dX12_names_21 rfl (lv_at hl 0 rfl) ?_
  refine gf_12_named hx hb hts in12 hown hK hP (hts (.fieldLink RX12 68 "CoinsOfLastModel" "named" "[I") (List.mem_of_getElem? (i := 1) rfl)) dX12_names_22 ?_
  refine lv_iconst (v := (3 : Int32)) hx hb dX12_names_25 (by decide) ?_
  refine lv_iload hx hb dX12_names_26 (lv_at hl 4 rfl) ?_
  obtain ⟨c_7, hZ⟩ := jx_a_some hZ
  obtain ⟨S_8, e_S_8, hZ⟩ := jx_l_some hZ
  refine M_iast hx hb hK hP hD hS wM_20 (fun _ => wMs_20) c_7 e_S_8 dX12_names_28 (fun H locs hP hD hS => ?_)
  refine lv_aload_n hx hb dX12_names_29 rfl (lv_at hl 0 rfl) ?_
  refine gf_12_named hx hb hts in12 hown hK hP (hts (.fieldLink RX12 68 "CoinsOfLastModel" "named" "[I") (List.mem_of_getElem? (i := 1) rfl)) dX12_names_30 ?_
  refine lv_iconst (v := (4 : Int32)) hx hb dX12_names_33 (by decide) ?_
  refine lv_iload hx hb dX12_names_34 (lv_at hl 5 rfl) ?_
  obtain ⟨c_9, hZ⟩ := jx_a_some hZ
  obtain ⟨S_10, e_S_10, hZ⟩ := jx_l_some hZ
  refine M_iast hx hb hK hP hD hS wM_20 (fun _ => wMs_20) c_9 e_S_10 dX12_names_36 (fun H locs hP hD hS => ?_)
  refine lv_aload_n hx hb dX12_names_37 rfl (lv_at hl 0 rfl) ?_
  refine gf_12_named hx hb hts in12 hown hK hP (hts (.fieldLink RX12 68 "CoinsOfLastModel" "named" "[I") (List.mem_of_getElem? (i := 1) rfl)) dX12_names_38 ?_
  refine lv_iconst (v := (5 : Int32)) hx hb dX12_names_41 (by decide) ?_
  refine lv_iload hx hb dX12_names_42 (lv_at hl 6 rfl) ?_
  obtain ⟨c_11, hZ⟩ := jx_a_some hZ
  obtain ⟨S_12, e_S_12, hZ⟩ := jx_l_some hZ
  refine M_iast hx hb hK hP hD hS wM_20 (fun _ => wMs_20) c_11 e_S_12 dX12_names_44 (fun H locs hP hD hS => ?_)
  refine lv_aload_n hx hb dX12_names_45 rfl (lv_at hl 0 rfl) ?_
  refine gf_12_named hx hb hts in12 hown hK hP (hts (.fieldLink RX12 68 "CoinsOfLastModel" "named" "[I") (List.mem_of_getElem? (i := 1) rfl)) dX12_names_46 ?_
  refine lv_bipush (v := (6 : Int32)) hx hb dX12_names_49 (by decide) ?_
  refine lv_iload hx hb dX12_names_51 (lv_at hl 7 rfl) ?_
  obtain ⟨c_13, hZ⟩ := jx_a_some hZ
  obtain ⟨S_14, e_S_14, hZ⟩ := jx_l_some hZ
  refine M_iast hx hb hK hP hD hS wM_20 (fun _ => wMs_20) c_13 e_S_14 dX12_names_53 (fun H locs hP hD hS => ?_)
  exact leave_v hx hb hr hlocks hP hS hZ dX12_names_54
theorem hd_X12_names : yX12_names.cls = RX12 ∧ yX12_names.cls ≠ "java/lang/invoke/MethodHandle" ∧ yX12_names.cls ≠ "java/lang/invoke/VarHandle" ∧ (parseMethodDescriptor yX12_names.desc).map (fun d => d.parameters.length) = some 7 := by decide +kernel
theorem hd_X12_told : yX12_told.cls = RX12 ∧ yX12_told.cls ≠ "java/lang/invoke/MethodHandle" ∧ yX12_told.cls ≠ "java/lang/invoke/VarHandle" ∧ (parseMethodDescriptor yX12_told.desc).map (fun d => d.parameters.length) = some 1 := by decide +kernel
theorem hd_X12_within : yX12_within.cls ≠ "java/lang/invoke/MethodHandle" ∧ yX12_within.cls ≠ "java/lang/invoke/VarHandle" ∧ (parseMethodDescriptor yX12_within.desc).map (fun d => d.parameters.length) = some 3 := by decide +kernel
-- X12_rateOf
def f_X12_rateOf (x1 : Int32) (x2 : Int32) (x3 : Int32) (S : St) : Option (Int32 × St) :=
  (if x1 = x2 then some ((1000 : Int32), S) else jx_a (0 : Int32) 3 ((if (S.1 13 (Int32.toNatClampNeg (0 : Int32))) = 0 then some ((1000 : Int32), S) else jx_b (f_X12_names x1 x2 x3 (0 : Int32) (0 : Int32) (0 : Int32) (0 : Int32) S) (fun S_4 => jx_b2 (f_X12_told (0 : Int32) S_4) (fun r_8 S_6 => jx_b2 (f_X12_within r_8 (1 : Int32) (9999 : Int32) S_6) (fun r_11 S_9 => some (r_11, S_9)))))))
set_option maxHeartbeats 4000000 in
set_option maxRecDepth 100000 in
theorem c_X12_rateOf (l : Launch) (D : va_G) (q : Nat → Nat) (k : CI) (x1 : Int32) (x2 : Int32) (x3 : Int32) (S : St) (sz : Nat) (Z : Int32 × St) (hZ : f_X12_rateOf x1 x2 x3 S = some Z) : MetI W_M SM l yX12_rateOf wsX12_rateOf { frames := 3, cells := 0, slots := 0, locals := 71 } [.ref (q 0), .int x1, .int x2, .int x3] D q k S sz Z := by
  refine enter (cc := cX12_rateOf) (maxL := 4) (ret := some .int) (by decide) rfl (Nat.le_of_ble_eq_true rfl) ?_
  intro p e s m below meth c A ls hx hb hr hts hown hlocks hml hP hK hD hA hS hsp hAe hl
  have hown : s.vm.findClass RX12 = some m.cls := hown
  have hl : lv_has ls 4 [(0, .ref (q 0)), (1, .int x1), (2, .int x2), (3, .int x3)] := hl
  have in12 : ∀ w ∈ wsX120, w ∈ wsX12_rateOf := fun _ h => (List.mem_cons_of_mem _ (List.mem_append_right _ h))
  unfold f_X12_rateOf at hZ
  refine lv_iload_n hx hb dX12_rateOf_0 rfl (lv_at hl 1 rfl) ?_
  refine lv_iload_n hx hb dX12_rateOf_1 rfl (lv_at hl 2 rfl) ?_
  refine lv_icmp_eq (tgt := 14) hx hb dX12_rateOf_2 (by decide) (fun c_1 => ?_) (fun c_1 => ?_)
  · have hZ := jx_i_pos c_1 hZ
    refine lv_sipush (v := (1000 : Int32)) hx hb dX12_rateOf_14 (by decide) ?_
    exact leave_i hx hb hr hlocks hP hS hZ dX12_rateOf_17
  · have hZ := jx_i_neg c_1 hZ
    refine lv_aload_n hx hb dX12_rateOf_5 rfl (lv_at hl 0 rfl) ?_
    refine gf_12_lineMany hx hb hts in12 hown hK hP (hts (.fieldLink RX12 46 "CoinsOfLastModel" "lineMany" "[I") (List.mem_of_getElem? (i := 1) rfl)) dX12_rateOf_6 ?_
    refine lv_iconst (v := (0 : Int32)) hx hb dX12_rateOf_9 (by decide) ?_
    obtain ⟨c_2, hZ⟩ := jx_a_some hZ
    refine M_iald hx hb hK hP wM_13 c_2 dX12_rateOf_10 ?_
    refine lv_if_ne (tgt := 18) hx hb dX12_rateOf_11 (by decide) (fun c_3 => ?_) (fun c_3 => ?_)
    · have hZ := jx_i_neg c_3 hZ
      refine lv_aload_n hx hb dX12_rateOf_18 rfl (lv_at hl 0 rfl) ?_
      refine lv_iload_n hx hb dX12_rateOf_19 rfl (lv_at hl 1 rfl) ?_
      refine lv_iload_n hx hb dX12_rateOf_20 rfl (lv_at hl 2 rfl) ?_
      refine lv_iload_n hx hb dX12_rateOf_21 rfl (lv_at hl 3 rfl) ?_
      refine lv_iconst (v := (0 : Int32)) hx hb dX12_rateOf_22 (by decide) ?_
      refine lv_iconst (v := (0 : Int32)) hx hb dX12_rateOf_23 (by decide) ?_
      refine lv_iconst (v := (0 : Int32)) hx hb dX12_rateOf_24 (by decide) ?_
      refine lv_iconst (v := (0 : Int32)) hx hb dX12_rateOf_25 (by decide) ?_
      obtain ⟨S_4, hc_5, hZ⟩ := jx_b_some hZ
      refine call_Vv SM_ok sameM ⟨hx, hb, hml, hown, hts⟩ (c_X12_names l D q k x1 x2 x3 (0 : Int32) (0 : Int32) (0 : Int32) (0 : Int32) S _ S_4  hc_5) (cwV 7 hts gX12_rateOf_X12_names rfl rfl rfl hd_X12_names ⟨Nat.le_of_ble_eq_true rfl, Nat.le_of_ble_eq_true rfl⟩) hK hP hD hS hA hsp (va_recv hK hP (ci := 12) (q0 := 0) rfl wM_0) (As := [.int x1, .int x2, .int x3, .int (0 : Int32), .int (0 : Int32), .int (0 : Int32), .int (0 : Int32)]) rfl hl.1 rfl (Nat.le_of_ble_eq_true rfl) dX12_rateOf_26 ⟨Nat.zero_le _, Nat.zero_le _⟩ (fun H locs hP hD hS => ?_)
      refine lv_aload_n hx hb dX12_rateOf_29 rfl (lv_at hl 0 rfl) ?_
      refine lv_iconst (v := (0 : Int32)) hx hb dX12_rateOf_30 (by decide) ?_
      obtain ⟨r_8, S_6, hc_7, hZ⟩ := jx_b2_some hZ
      refine call_Vi SM_ok sameM ⟨hx, hb, hml, hown, hts⟩ (c_X12_told l D q k (0 : Int32) S_4 _ (r_8, S_6)  hc_7) (cwV 1 hts gX12_rateOf_X12_told rfl rfl rfl hd_X12_told ⟨Nat.le_of_ble_eq_true rfl, Nat.le_of_ble_eq_true rfl⟩) hK hP hD hS hA hsp (va_recv hK hP (ci := 12) (q0 := 0) rfl wM_0) (As := [.int (0 : Int32)]) rfl hl.1 rfl (Nat.le_of_ble_eq_true rfl) dX12_rateOf_31 ⟨Nat.zero_le _, Nat.zero_le _⟩ (fun H locs hP hD hS => ?_)
      refine lv_iconst (v := (1 : Int32)) hx hb dX12_rateOf_34 (by decide) ?_
      refine lv_sipush (v := (9999 : Int32)) hx hb dX12_rateOf_35 (by decide) ?_
      obtain ⟨r_11, S_9, hc_10, hZ⟩ := jx_b2_some hZ
      refine call_Si SM_ok sameM ⟨hx, hb, hml, hown, hts⟩ (c_X12_within l D q k r_8 (1 : Int32) (9999 : Int32) S_6 _ (r_11, S_9)  hc_10) (va_cwS 3 hts gX12_rateOf_X12_within rfl rfl rfl hd_X12_within ⟨Nat.le_of_ble_eq_true rfl, Nat.le_of_ble_eq_true rfl⟩) hK hP hD hS hA hsp (As := [.int r_8, .int (1 : Int32), .int (9999 : Int32)]) rfl hl.1 rfl (Nat.le_of_ble_eq_true rfl) dX12_rateOf_38 ⟨Nat.zero_le _, Nat.zero_le _⟩ (fun H locs hP hD hS => ?_)
      exact leave_i hx hb hr hlocks hP hS hZ dX12_rateOf_41
    · have hZ := jx_i_pos c_3 hZ
      refine lv_sipush (v := (1000 : Int32)) hx hb dX12_rateOf_14 (by decide) ?_
      exact leave_i hx hb hr hlocks hP hS hZ dX12_rateOf_17
-- X12_isDay
def f_X12_isDay (x0 : Int32) (S : St) : Option (Int32 × St) :=
  jx_b2 (f_X12_in x0 (0 : Int32) (9999 : Int32) S) (fun r_3 S_1 => jx_z r_3 (some (r_3, S_1)))
set_option maxHeartbeats 4000000 in
set_option maxRecDepth 100000 in
theorem c_X12_isDay (l : Launch) (D : va_G) (q : Nat → Nat) (k : CI) (x0 : Int32) (S : St) (sz : Nat) (Z : Int32 × St) (hZ : f_X12_isDay x0 S = some Z) : MetI W_M SM l yX12_isDay wsX12_isDay { frames := 1, cells := 0, slots := 0, locals := 22 } [.int x0] D q k S sz Z := by
  refine enter (cc := cX12_isDay) (maxL := 1) (ret := some .boolean) (by decide) rfl (Nat.le_of_ble_eq_true rfl) ?_
  intro p e s m below meth c A ls hx hb hr hts hown hlocks hml hP hK hD hA hS hsp hAe hl
  have hown : s.vm.findClass RX12 = some m.cls := hown
  have hl : lv_has ls 1 [(0, .int x0)] := hl
  unfold f_X12_isDay at hZ
  refine lv_iload_n hx hb dX12_isDay_0 rfl (lv_at hl 0 rfl) ?_
  refine lv_iconst (v := (0 : Int32)) hx hb dX12_isDay_1 (by decide) ?_
  refine lv_sipush (v := (9999 : Int32)) hx hb dX12_isDay_2 (by decide) ?_
  obtain ⟨r_3, S_1, hc_2, hZ⟩ := jx_b2_some hZ
  refine call_Si SM_ok sameM ⟨hx, hb, hml, hown, hts⟩ (c_X12_in l D q k x0 (0 : Int32) (9999 : Int32) S _ (r_3, S_1)  hc_2) (va_cwS 3 hts gX12_isDay_X12_in rfl rfl rfl hd_X12_in ⟨Nat.le_of_ble_eq_true rfl, Nat.le_of_ble_eq_true rfl⟩) hK hP hD hS hA hsp (As := [.int x0, .int (0 : Int32), .int (9999 : Int32)]) rfl hl.1 rfl (Nat.le_of_ble_eq_true rfl) dX12_isDay_5 ⟨Nat.zero_le _, Nat.zero_le _⟩ (fun H locs hP hD hS => ?_)
  obtain ⟨hnz, hZ⟩ := jx_z_some hZ
  exact leave_z hx hb hr hlocks hnz hP hS hZ dX12_isDay_8
-- X12_isPair
def f_X12_isPair (x0 : Int32) (S : St) : Option (Int32 × St) :=
  (if x0 < 0 then some ((0 : Int32), S) else jx_d (10 : Int32) (jx_b2 (f_X12_isLand (x0 / (10 : Int32)) S) (fun r_5 S_3 => (if r_5 = 0 then some ((0 : Int32), S_3) else jx_d (10 : Int32) (jx_b2 (f_X12_isLand (x0 - x0 / (10 : Int32) * (10 : Int32)) S_3) (fun r_10 S_8 => (if r_10 = 0 then some ((0 : Int32), S_8) else some ((1 : Int32), S_8))))))))
set_option maxHeartbeats 4000000 in
set_option maxRecDepth 100000 in
theorem c_X12_isPair (l : Launch) (D : va_G) (q : Nat → Nat) (k : CI) (x0 : Int32) (S : St) (sz : Nat) (Z : Int32 × St) (hZ : f_X12_isPair x0 S = some Z) : MetI W_M SM l yX12_isPair wsX12_isPair { frames := 2, cells := 0, slots := 0, locals := 42 } [.int x0] D q k S sz Z := by
  refine enter (cc := cX12_isPair) (maxL := 1) (ret := some .boolean) (by decide) rfl (Nat.le_of_ble_eq_true rfl) ?_
  intro p e s m below meth c A ls hx hb hr hts hown hlocks hml hP hK hD hA hS hsp hAe hl
  have hown : s.vm.findClass RX12 = some m.cls := hown
  have hl : lv_has ls 1 [(0, .int x0)] := hl
  unfold f_X12_isPair at hZ
  refine lv_iload_n hx hb dX12_isPair_0 rfl (lv_at hl 0 rfl) ?_
  refine lv_if_lt (tgt := 28) hx hb dX12_isPair_1 (by decide) (fun c_1 => ?_) (fun c_1 => ?_)
  · have hZ := jx_i_pos c_1 hZ
    refine lv_iconst (v := (0 : Int32)) hx hb dX12_isPair_28 (by decide) ?_
    exact leave_z hx hb hr hlocks rfl hP hS hZ dX12_isPair_29
  · have hZ := jx_i_neg c_1 hZ
    refine lv_iload_n hx hb dX12_isPair_4 rfl (lv_at hl 0 rfl) ?_
    refine lv_bipush (v := (10 : Int32)) hx hb dX12_isPair_5 (by decide) ?_
    obtain ⟨c_2, hZ⟩ := jx_d_some hZ
    refine lv_idiv hx hb dX12_isPair_7 c_2 ?_
    obtain ⟨r_5, S_3, hc_4, hZ⟩ := jx_b2_some hZ
    refine call_Si SM_ok sameM ⟨hx, hb, hml, hown, hts⟩ (c_X12_isLand l D q k (x0 / (10 : Int32)) S _ (r_5, S_3)  hc_4) (va_cwS 1 hts gX12_isPair_X12_isLand rfl rfl rfl hd_X12_isLand ⟨Nat.le_of_ble_eq_true rfl, Nat.le_of_ble_eq_true rfl⟩) hK hP hD hS hA hsp (As := [.int (x0 / (10 : Int32))]) rfl hl.1 rfl (Nat.le_of_ble_eq_true rfl) dX12_isPair_8 ⟨Nat.zero_le _, Nat.zero_le _⟩ (fun H locs hP hD hS => ?_)
    refine lv_if_eq (tgt := 28) hx hb dX12_isPair_11 (by decide) (fun c_6 => ?_) (fun c_6 => ?_)
    · have hZ := jx_i_pos c_6 hZ
      refine lv_iconst (v := (0 : Int32)) hx hb dX12_isPair_28 (by decide) ?_
      exact leave_z hx hb hr hlocks rfl hP hS hZ dX12_isPair_29
    · have hZ := jx_i_neg c_6 hZ
      refine lv_iload_n hx hb dX12_isPair_14 rfl (lv_at hl 0 rfl) ?_
      refine lv_bipush (v := (10 : Int32)) hx hb dX12_isPair_15 (by decide) ?_
      obtain ⟨c_7, hZ⟩ := jx_d_some hZ
      refine lv_irem hx hb dX12_isPair_17 c_7 ?_
      obtain ⟨r_10, S_8, hc_9, hZ⟩ := jx_b2_some hZ
      refine call_Si SM_ok sameM ⟨hx, hb, hml, hown, hts⟩ (c_X12_isLand l D q k (x0 - x0 / (10 : Int32) * (10 : Int32)) S_3 _ (r_10, S_8)  hc_9) (va_cwS 1 hts gX12_isPair_X12_isLand rfl rfl rfl hd_X12_isLand ⟨Nat.le_of_ble_eq_true rfl, Nat.le_of_ble_eq_true rfl⟩) hK hP hD hS hA hsp (As := [.int (x0 - x0 / (10 : Int32) * (10 : Int32))]) rfl hl.1 rfl (Nat.le_of_ble_eq_true rfl) dX12_isPair_18 ⟨Nat.zero_le _, Nat.zero_le _⟩ (fun H locs hP hD hS => ?_)
      refine lv_if_eq (tgt := 28) hx hb dX12_isPair_21 (by decide) (fun c_11 => ?_) (fun c_11 => ?_)
      · have hZ := jx_i_pos c_11 hZ
        refine lv_iconst (v := (0 : Int32)) hx hb dX12_isPair_28 (by decide) ?_
        exact leave_z hx hb hr hlocks rfl hP hS hZ dX12_isPair_29
      · have hZ := jx_i_neg c_11 hZ
        refine lv_iconst (v := (1 : Int32)) hx hb dX12_isPair_24 (by decide) ?_
        refine lv_goto (tgt := 29) hx hb dX12_isPair_25 (by decide) ?_
        exact leave_z hx hb hr hlocks rfl hP hS hZ dX12_isPair_29
theorem hd_X12_isDay : yX12_isDay.cls ≠ "java/lang/invoke/MethodHandle" ∧ yX12_isDay.cls ≠ "java/lang/invoke/VarHandle" ∧ (parseMethodDescriptor yX12_isDay.desc).map (fun d => d.parameters.length) = some 1 := by decide +kernel
theorem hd_X12_isPair : yX12_isPair.cls ≠ "java/lang/invoke/MethodHandle" ∧ yX12_isPair.cls ≠ "java/lang/invoke/VarHandle" ∧ (parseMethodDescriptor yX12_isPair.desc).map (fun d => d.parameters.length) = some 1 := by decide +kernel
theorem hd_X12_rateOf : yX12_rateOf.cls = RX12 ∧ yX12_rateOf.cls ≠ "java/lang/invoke/MethodHandle" ∧ yX12_rateOf.cls ≠ "java/lang/invoke/VarHandle" ∧ (parseMethodDescriptor yX12_rateOf.desc).map (fun d => d.parameters.length) = some 3 := by decide +kernel
-- X12_rate
def f_X12_rate (x1 : Int32) (x2 : Int32) (S : St) : Option (Int32 × St) :=
  jx_b2 (f_X12_isPair x1 S) (fun r_3 S_1 => (if r_3 = 0 then some ((-1 : Int32), S_1) else jx_b2 (f_X12_isDay x2 S_1) (fun r_7 S_5 => (if r_7 = 0 then some ((-1 : Int32), S_5) else jx_d (10 : Int32) (jx_d (10 : Int32) (jx_b2 (f_X12_rateOf (x1 / (10 : Int32)) (x1 - x1 / (10 : Int32) * (10 : Int32)) x2 S_5) (fun r_13 S_11 => some (r_13, S_11))))))))
set_option maxHeartbeats 4000000 in
set_option maxRecDepth 100000 in
theorem c_X12_rate (l : Launch) (D : va_G) (q : Nat → Nat) (k : CI) (x1 : Int32) (x2 : Int32) (S : St) (sz : Nat) (Z : Int32 × St) (hZ : f_X12_rate x1 x2 S = some Z) : MetI W_M SM l yX12_rate wsX12_rate { frames := 4, cells := 0, slots := 0, locals := 94 } [.ref (q 0), .int x1, .int x2] D q k S sz Z := by
  refine enter (cc := cX12_rate) (maxL := 3) (ret := some .int) (by decide) rfl (Nat.le_of_ble_eq_true rfl) ?_
  intro p e s m below meth c A ls hx hb hr hts hown hlocks hml hP hK hD hA hS hsp hAe hl
  have hown : s.vm.findClass RX12 = some m.cls := hown
  have hl : lv_has ls 3 [(0, .ref (q 0)), (1, .int x1), (2, .int x2)] := hl
  unfold f_X12_rate at hZ
  refine lv_iload_n hx hb dX12_rate_0 rfl (lv_at hl 1 rfl) ?_
  obtain ⟨r_3, S_1, hc_2, hZ⟩ := jx_b2_some hZ
  refine call_Si SM_ok sameM ⟨hx, hb, hml, hown, hts⟩ (c_X12_isPair l D q k x1 S _ (r_3, S_1)  hc_2) (va_cwS 1 hts gX12_rate_X12_isPair rfl rfl rfl hd_X12_isPair ⟨Nat.le_of_ble_eq_true rfl, Nat.le_of_ble_eq_true rfl⟩) hK hP hD hS hA hsp (As := [.int x1]) rfl hl.1 rfl (Nat.le_of_ble_eq_true rfl) dX12_rate_1 ⟨Nat.zero_le _, Nat.zero_le _⟩ (fun H locs hP hD hS => ?_)
  refine lv_if_eq (tgt := 30) hx hb dX12_rate_4 (by decide) (fun c_4 => ?_) (fun c_4 => ?_)
  · have hZ := jx_i_pos c_4 hZ
    refine lv_iconst (v := (-1 : Int32)) hx hb dX12_rate_30 (by decide) ?_
    exact leave_i hx hb hr hlocks hP hS hZ dX12_rate_31
  · have hZ := jx_i_neg c_4 hZ
    refine lv_iload_n hx hb dX12_rate_7 rfl (lv_at hl 2 rfl) ?_
    obtain ⟨r_7, S_5, hc_6, hZ⟩ := jx_b2_some hZ
    refine call_Si SM_ok sameM ⟨hx, hb, hml, hown, hts⟩ (c_X12_isDay l D q k x2 S_1 _ (r_7, S_5)  hc_6) (va_cwS 1 hts gX12_rate_X12_isDay rfl rfl rfl hd_X12_isDay ⟨Nat.le_of_ble_eq_true rfl, Nat.le_of_ble_eq_true rfl⟩) hK hP hD hS hA hsp (As := [.int x2]) rfl hl.1 rfl (Nat.le_of_ble_eq_true rfl) dX12_rate_8 ⟨Nat.zero_le _, Nat.zero_le _⟩ (fun H locs hP hD hS => ?_)
    refine lv_if_eq (tgt := 30) hx hb dX12_rate_11 (by decide) (fun c_8 => ?_) (fun c_8 => ?_)
    · have hZ := jx_i_pos c_8 hZ
      refine lv_iconst (v := (-1 : Int32)) hx hb dX12_rate_30 (by decide) ?_
      exact leave_i hx hb hr hlocks hP hS hZ dX12_rate_31
    · have hZ := jx_i_neg c_8 hZ
      refine lv_aload_n hx hb dX12_rate_14 rfl (lv_at hl 0 rfl) ?_
      refine lv_iload_n hx hb dX12_rate_15 rfl (lv_at hl 1 rfl) ?_
      refine lv_bipush (v := (10 : Int32)) hx hb dX12_rate_16 (by decide) ?_
      obtain ⟨c_9, hZ⟩ := jx_d_some hZ
      refine lv_idiv hx hb dX12_rate_18 c_9 ?_
      refine lv_iload_n hx hb dX12_rate_19 rfl (lv_at hl 1 rfl) ?_
      refine lv_bipush (v := (10 : Int32)) hx hb dX12_rate_20 (by decide) ?_
      obtain ⟨c_10, hZ⟩ := jx_d_some hZ
      refine lv_irem hx hb dX12_rate_22 c_10 ?_
      refine lv_iload_n hx hb dX12_rate_23 rfl (lv_at hl 2 rfl) ?_
      obtain ⟨r_13, S_11, hc_12, hZ⟩ := jx_b2_some hZ
      refine call_Vi SM_ok sameM ⟨hx, hb, hml, hown, hts⟩ (c_X12_rateOf l D q k (x1 / (10 : Int32)) (x1 - x1 / (10 : Int32) * (10 : Int32)) x2 S_5 _ (r_13, S_11)  hc_12) (cwV 3 hts gX12_rate_X12_rateOf rfl rfl rfl hd_X12_rateOf ⟨Nat.le_of_ble_eq_true rfl, Nat.le_of_ble_eq_true rfl⟩) hK hP hD hS hA hsp (va_recv hK hP (ci := 12) (q0 := 0) rfl wM_0) (As := [.int (x1 / (10 : Int32)), .int (x1 - x1 / (10 : Int32) * (10 : Int32)), .int x2]) rfl hl.1 rfl (Nat.le_of_ble_eq_true rfl) dX12_rate_24 ⟨Nat.zero_le _, Nat.zero_le _⟩ (fun H locs hP hD hS => ?_)
      refine lv_goto (tgt := 31) hx hb dX12_rate_27 (by decide) ?_
      exact leave_i hx hb hr hlocks hP hS hZ dX12_rate_31
-- X12_shifts
def f_X12_shifts_54 (S_4 : St) : Option (St) :=
  some S_4
def f_X12_shifts_28i3 (x1 : Int32) (x2_9 : Int32) (s0_9 : Int64) (S_9 : St) : Option ((Int32 × St) ⊕ (St)) :=
  jx_a x2_9 31 (jx_a x2_9 31 (jx_a x2_9 31 (jx_l (u2 S_9 22 (Int32.toNatClampNeg x2_9) ((S_9.2 22 (Int32.toNatClampNeg x2_9)) ||| (((S_9.2 22 (Int32.toNatClampNeg x2_9)) <<< (Int32.toInt64 x1 &&& 63)) ||| s0_9))) (fun S_13 => jx_l (x2_9 + (-1)) (fun x2_14 => some (.inl (x2_14, S_13)))))))
def b_X12_shifts_3 (x1 : Int32) (x2 : Int32) (S : St) : Option ((Int32 × St) ⊕ (St)) :=
  (if x2 < 0 then some (.inr S) else (if x2 ≤ 0 then f_X12_shifts_28i3 x1 x2 (0 : Int64) S else jx_a (x2 - (1 : Int32)) 31 (f_X12_shifts_28i3 x1 x2 ((Int64.toUInt64 (S.2 22 (Int32.toNatClampNeg (x2 - (1 : Int32)))) >>> ((Int32.toInt64 ((64 : Int32) - x1)).toUInt64 &&& Int64.toUInt64 63)).toInt64) S)))
def g_X12_shifts_3 (x1 : Int32) : (Int32 × St) → Option ((Int32 × St) ⊕ (St)) := fun z => b_X12_shifts_3 x1 z.1 z.2
def f_X12_shifts (x1 : Int32) (S : St) : Option (St) :=
  jx_b (jx_w (g_X12_shifts_3 x1) FU ((30 : Int32), S)) (fun z => f_X12_shifts_54 z)
set_option maxHeartbeats 4000000 in
set_option maxRecDepth 100000 in
theorem c_X12_shifts (l : Launch) (D : va_G) (q : Nat → Nat) (k : CI) (x1 : Int32) (S : St) (sz : Nat) (Z : St) (hZ : f_X12_shifts x1 S = some Z) : MetV W_M SM l yX12_shifts wsX12_shifts { frames := 0, cells := 0, slots := 0, locals := 0 } [.ref (q 0), .int x1] D q k S sz Z := by
  refine enter (cc := cX12_shifts) (maxL := 5) (ret := none) (by decide) rfl (Nat.le_of_ble_eq_true rfl) ?_
  intro p e s m below meth c A ls hx hb hr hts hown hlocks hml hP hK hD hA hS hsp hAe hl
  have hown : s.vm.findClass RX12 = some m.cls := hown
  have hl : lv_has ls 5 [(0, .ref (q 0)), (1, .int x1)] := hl
  have in12 : ∀ w ∈ wsX120, w ∈ wsX12_shifts := fun _ h => (List.mem_cons_of_mem _ (List.mem_append_right _ h))
  have j54 : ∀ (S_4 : St)  (H : Heap) (locs : List Loc) (hZ : f_X12_shifts_54 S_4 = some Z) (hP : va_P D vwCl (W_M q k S_4) H) (hD : va_D A (W_M q k S_4)) (hS : va_S A s.heap H locs) (ls : Array Slot) (hl : lv_has ls 5 []), W p l e ({ frames := 0, cells := 0, slots := 0, locals := 0 } : Room) s m ([.ref (q 0), .int x1] : List Value).toArray below meth c H locs 0 0 (MQ below (va_Qv (fun u => u = Z) (fun u t => va_P D vwCl (W_M q k u) t.heap) A) ([.ref (q 0), .int x1] : List Value).toArray s 0 0 A) (F0 m 54 ls []) := by
    intro S_4   H locs hZ hP hD hS ls hl
    unfold f_X12_shifts_54 at hZ
    exact leave_v hx hb hr hlocks hP hS hZ dX12_shifts_54
  unfold f_X12_shifts at hZ
  refine lv_bipush (v := (30 : Int32)) hx hb dX12_shifts_0 (by decide) ?_
  refine lv_istore_n (lv' := [(2, .int (30 : Int32)), (0, .ref (q 0)), (1, .int x1)]) hx hb dX12_shifts_2 rfl hl (by decide) rfl (fun ls hl => ?_)
  obtain ⟨r_3, hw, hza_3⟩ := jx_b_some hZ
  have l_3 : ∀ (nn : Nat) (x2_1 : Int32) (S_2 : St) (H : Heap) (locs : List Loc) (hw : jx_w (g_X12_shifts_3 x1) nn (x2_1, S_2) = some r_3) (hP : va_P D vwCl (W_M q k S_2) H) (hD : va_D A (W_M q k S_2)) (hS : va_S A s.heap H locs) (ls : Array Slot) (hl : lv_has ls 5 [(0, .ref (q 0)), (1, .int x1), (2, .int x2_1)]), W p l e ({ frames := 0, cells := 0, slots := 0, locals := 0 } : Room) s m ([.ref (q 0), .int x1] : List Value).toArray below meth c H locs 0 0 (MQ below (va_Qv (fun u => u = Z) (fun u t => va_P D vwCl (W_M q k u) t.heap) A) ([.ref (q 0), .int x1] : List Value).toArray s 0 0 A) (F0 m 3 ls []) := by
    intro nn
    induction nn with
    | zero =>
      intro x2_1 S_2 H locs hw hP hD hS ls hl
      exact jx_w_zero hw
    | succ n_3 ih_3 =>
      intro x2_1 S_2 H locs hw hP hD hS ls hl
      obtain ⟨o_3, hZ, hk_3⟩ := jx_w_succ hw
      have hZ : b_X12_shifts_3 x1 x2_1 S_2 = some o_3 := hZ
      have j28i3 : ∀ (x2_21 : Int32) (s0_21 : Int64) (S_21 : St)  (o_3 : (Int32 × St) ⊕ (St)) (hk_3 : jx_k (g_X12_shifts_3 x1) n_3 r_3 o_3) (H : Heap) (locs : List Loc) (hZ : f_X12_shifts_28i3 x1 x2_21 s0_21 S_21 = some o_3) (hP : va_P D vwCl (W_M q k S_21) H) (hD : va_D A (W_M q k S_21)) (hS : va_S A s.heap H locs) (ls : Array Slot) (hl : lv_has ls 5 [(0, .ref (q 0)), (1, .int x1), (2, .int x2_21)]), W p l e ({ frames := 0, cells := 0, slots := 0, locals := 0 } : Room) s m ([.ref (q 0), .int x1] : List Value).toArray below meth c H locs 0 0 (MQ below (va_Qv (fun u => u = Z) (fun u t => va_P D vwCl (W_M q k u) t.heap) A) ([.ref (q 0), .int x1] : List Value).toArray s 0 0 A) (F0 m 28 ls [.long s0_21]) := by
        intro x2_21 s0_21 S_21  o_3 hk_3 H locs hZ hP hD hS ls hl
        unfold f_X12_shifts_28i3 at hZ
        refine lv_lstore_n (lv' := [(3, .long s0_21), (0, .ref (q 0)), (1, .int x1), (2, .int x2_21)]) hx hb dX12_shifts_28 rfl hl (by decide) rfl (fun ls hl => ?_)
        refine lv_aload_n hx hb dX12_shifts_29 rfl (lv_at hl 1 rfl) ?_
        refine gf_12_bits hx hb hts in12 hown hK hP (hts (.fieldLink RX12 74 "CoinsOfLastModel" "bits" "[J") (List.mem_of_getElem? (i := 1) rfl)) dX12_shifts_30 ?_
        refine lv_iload_n hx hb dX12_shifts_33 rfl (lv_at hl 3 rfl) ?_
        refine lv_dup2_11 hx hb dX12_shifts_34 rfl rfl ?_
        obtain ⟨c_22, hZ⟩ := jx_a_some hZ
        refine M_lald hx hb hK hP wM_22 c_22 dX12_shifts_35 ?_
        refine lv_aload_n hx hb dX12_shifts_36 rfl (lv_at hl 1 rfl) ?_
        refine gf_12_bits hx hb hts in12 hown hK hP (hts (.fieldLink RX12 74 "CoinsOfLastModel" "bits" "[J") (List.mem_of_getElem? (i := 1) rfl)) dX12_shifts_37 ?_
        refine lv_iload_n hx hb dX12_shifts_40 rfl (lv_at hl 3 rfl) ?_
        obtain ⟨c_23, hZ⟩ := jx_a_some hZ
        refine M_lald hx hb hK hP wM_22 c_23 dX12_shifts_41 ?_
        refine lv_iload_n hx hb dX12_shifts_42 rfl (lv_at hl 2 rfl) ?_
        refine lv_lshl (v := ((S_21.2 22 (Int32.toNatClampNeg x2_21)) <<< (Int32.toInt64 x1 &&& 63))) hx hb dX12_shifts_43 rfl ?_
        refine lv_lload_n hx hb dX12_shifts_44 rfl (lv_at hl 0 rfl) ?_
        refine lv_lor hx hb dX12_shifts_45 ?_
        refine lv_lor hx hb dX12_shifts_46 ?_
        obtain ⟨c_24, hZ⟩ := jx_a_some hZ
        obtain ⟨S_25, e_S_25, hZ⟩ := jx_l_some hZ
        refine M_last hx hb hK hP hD hS wM_22 (fun _ => wMs_22) c_24 e_S_25 dX12_shifts_47 (fun H locs hP hD hS => ?_)
        obtain ⟨x2_26, e_x2_26, hZ⟩ := jx_l_some hZ
        refine lv_iinc (v := x2_26) (lv' := [(2, .int x2_26), (3, .long s0_21), (0, .ref (q 0)), (1, .int x1)]) hx hb dX12_shifts_48 hl (k := 3) rfl (by rw [e_x2_26]; rfl) (by decide) rfl (fun ls hl => ?_)
        refine lv_goto (tgt := 3) hx hb dX12_shifts_51 (by decide) ?_
        have ho := Option.some.inj hZ
        subst ho
        exact ih_3 x2_26 S_25 _ _ hk_3 hP hD hS _ (lv_sub hl [2, 3, 0] rfl)
      unfold b_X12_shifts_3 at hZ
      refine lv_iload_n hx hb dX12_shifts_3 rfl (lv_at hl 2 rfl) ?_
      refine lv_if_lt (tgt := 54) hx hb dX12_shifts_4 (by decide) (fun c_18 => ?_) (fun c_18 => ?_)
      · have hZ := jx_i_pos c_18 hZ
        have ho := Option.some.inj hZ
        subst ho
        have hE := hza_3
        rw [← (show S_2 = r_3 from hk_3)] at hE
        have hZ : f_X12_shifts_54 S_2 = some Z := hE
        exact j54 S_2 _ _ hZ hP hD hS _ (lv_sub hl [] rfl)
      · have hZ := jx_i_neg c_18 hZ
        refine lv_iload_n hx hb dX12_shifts_7 rfl (lv_at hl 2 rfl) ?_
        refine lv_if_le (tgt := 27) hx hb dX12_shifts_8 (by decide) (fun c_20 => ?_) (fun c_20 => ?_)
        · have hZ := jx_i_pos c_20 hZ
          refine lv_lconst (v := (0 : Int64)) hx hb dX12_shifts_27 (by decide) ?_
          exact j28i3 x2_1 (0 : Int64) S_2 _ hk_3 _ _ hZ hP hD hS _ (lv_sub hl [0, 1, 2] rfl)
        · have hZ := jx_i_neg c_20 hZ
          refine lv_aload_n hx hb dX12_shifts_11 rfl (lv_at hl 0 rfl) ?_
          refine gf_12_bits hx hb hts in12 hown hK hP (hts (.fieldLink RX12 74 "CoinsOfLastModel" "bits" "[J") (List.mem_of_getElem? (i := 1) rfl)) dX12_shifts_12 ?_
          refine lv_iload_n hx hb dX12_shifts_15 rfl (lv_at hl 2 rfl) ?_
          refine lv_iconst (v := (1 : Int32)) hx hb dX12_shifts_16 (by decide) ?_
          refine lv_isub hx hb dX12_shifts_17 ?_
          obtain ⟨c_28, hZ⟩ := jx_a_some hZ
          refine M_lald hx hb hK hP wM_22 c_28 dX12_shifts_18 ?_
          refine lv_bipush (v := (64 : Int32)) hx hb dX12_shifts_19 (by decide) ?_
          refine lv_iload_n hx hb dX12_shifts_21 rfl (lv_at hl 1 rfl) ?_
          refine lv_isub hx hb dX12_shifts_22 ?_
          refine lv_lushr (v := (Int64.toUInt64 (S_2.2 22 (Int32.toNatClampNeg (x2_1 - (1 : Int32)))) >>> ((Int32.toInt64 ((64 : Int32) - x1)).toUInt64 &&& Int64.toUInt64 63)).toInt64) hx hb dX12_shifts_23 rfl ?_
          refine lv_goto (tgt := 28) hx hb dX12_shifts_24 (by decide) ?_
          exact j28i3 x2_1 ((Int64.toUInt64 (S_2.2 22 (Int32.toNatClampNeg (x2_1 - (1 : Int32)))) >>> ((Int32.toInt64 ((64 : Int32) - x1)).toUInt64 &&& Int64.toUInt64 63)).toInt64) S_2 _ hk_3 _ _ hZ hP hD hS _ (lv_sub hl [0, 1, 2] rfl)
  exact l_3 FU (30 : Int32) S _ _ hw hP hD hS _ (lv_sub hl [1, 2, 0] rfl)
theorem hd_X12_shifts : yX12_shifts.cls = RX12 ∧ yX12_shifts.cls ≠ "java/lang/invoke/MethodHandle" ∧ yX12_shifts.cls ≠ "java/lang/invoke/VarHandle" ∧ (parseMethodDescriptor yX12_shifts.desc).map (fun d => d.parameters.length) = some 1 := by decide +kernel
-- X12_pays
def f_X12_pays_83 (S_8 : St) : Option (St) :=
  some S_8
def f_X12_pays_77i31 (x1 : Int32) (x2_15 : Int32) (S_15 : St) : Option ((Int32 × St) ⊕ (St)) :=
  jx_l (x2_15 + 1) (fun x2_16 => some (.inl (x2_16, S_15)))
def b_X12_pays_41 (x1 : Int32) (x2 : Int32) (x3 : Int32) (S : St) : Option ((Int32 × St) ⊕ (St)) :=
  jx_a x2 8 ((if (S.1 5 (Int32.toNatClampNeg x2)) ≤ x3 then some (.inr S) else jx_a x2 8 ((if (S.1 1 (Int32.toNatClampNeg x2)) = x1 then jx_a x2 8 (jx_b (f_X12_shifts (S.1 2 (Int32.toNatClampNeg x2)) S) (fun S_25 => jx_l (x3 + 1) (fun x3_27 => some (.inl (x3_27, S_25))))) else some (.inr S)))))
def g_X12_pays_41 (x1 : Int32) (x2 : Int32) : (Int32 × St) → Option ((Int32 × St) ⊕ (St)) := fun z => b_X12_pays_41 x1 x2 z.1 z.2
def b_X12_pays_31 (x1 : Int32) (x2 : Int32) (S : St) : Option ((Int32 × St) ⊕ (St)) :=
  (if (S.1 0 0) ≤ x2 then some (.inr S) else jx_b (jx_w (g_X12_pays_41 x1 x2) FU ((0 : Int32), S)) (fun z => f_X12_pays_77i31 x1 x2 z))
def g_X12_pays_31 (x1 : Int32) : (Int32 × St) → Option ((Int32 × St) ⊕ (St)) := fun z => b_X12_pays_31 x1 z.1 z.2
def f_X12_pays_29 (x1_4 : Int32) (S_4 : St) : Option (St) :=
  jx_b (jx_w (g_X12_pays_31 x1_4) FU ((0 : Int32), S_4)) (fun z => f_X12_pays_83 z)
def f_X12_pays_22i2 (x1 : Int32) (x2_70 : Int32) (s1_70 : Int32) (s2_70 : Int64) (S_70 : St) : Option ((Int32 × St) ⊕ (St)) :=
  jx_a s1_70 31 (jx_l (u2 S_70 22 (Int32.toNatClampNeg s1_70) s2_70) (fun S_72 => jx_l (x2_70 + 1) (fun x2_73 => some (.inl (x2_73, S_72)))))
def b_X12_pays_2 (x1 : Int32) (x2 : Int32) (S : St) : Option ((Int32 × St) ⊕ (St)) :=
  (if (31 : Int32) ≤ x2 then some (.inr S) else (if x2 = 0 then f_X12_pays_22i2 x1 x2 x2 (1 : Int64) S else f_X12_pays_22i2 x1 x2 x2 (0 : Int64) S))
def g_X12_pays_2 (x1 : Int32) : (Int32 × St) → Option ((Int32 × St) ⊕ (St)) := fun z => b_X12_pays_2 x1 z.1 z.2
def f_X12_pays (x1 : Int32) (S : St) : Option (St) :=
  jx_b (jx_w (g_X12_pays_2 x1) FU ((0 : Int32), S)) (fun z => f_X12_pays_29 x1 z)
set_option maxHeartbeats 4000000 in
set_option maxRecDepth 100000 in
theorem c_X12_pays (l : Launch) (D : va_G) (q : Nat → Nat) (k : CI) (x1 : Int32) (S : St) (sz : Nat) (Z : St) (hZ : f_X12_pays x1 S = some Z) : MetV W_M SM l yX12_pays wsX12_pays { frames := 1, cells := 0, slots := 0, locals := 24 } [.ref (q 0), .int x1] D q k S sz Z := by
  refine enter (cc := cX12_pays) (maxL := 4) (ret := none) (by decide) rfl (Nat.le_of_ble_eq_true rfl) ?_
  intro p e s m below meth c A ls hx hb hr hts hown hlocks hml hP hK hD hA hS hsp hAe hl
  have hown : s.vm.findClass RX12 = some m.cls := hown
  have hl : lv_has ls 4 [(0, .ref (q 0)), (1, .int x1)] := hl
  have in12 : ∀ w ∈ wsX120, w ∈ wsX12_pays := fun _ h => (List.mem_cons_of_mem _ (List.mem_append_right _ h))
  have j83 : ∀ (S_8 : St)  (H : Heap) (locs : List Loc) (hZ : f_X12_pays_83 S_8 = some Z) (hP : va_P D vwCl (W_M q k S_8) H) (hD : va_D A (W_M q k S_8)) (hS : va_S A s.heap H locs) (ls : Array Slot) (hl : lv_has ls 4 []), W p l e ({ frames := 1, cells := 0, slots := 0, locals := 24 } : Room) s m ([.ref (q 0), .int x1] : List Value).toArray below meth c H locs 0 0 (MQ below (va_Qv (fun u => u = Z) (fun u t => va_P D vwCl (W_M q k u) t.heap) A) ([.ref (q 0), .int x1] : List Value).toArray s 0 0 A) (F0 m 83 ls []) := by
    intro S_8   H locs hZ hP hD hS ls hl
    unfold f_X12_pays_83 at hZ
    exact leave_v hx hb hr hlocks hP hS hZ dX12_pays_83
  have j29 : ∀ (x1_4 : Int32) (S_4 : St)  (H : Heap) (locs : List Loc) (hZ : f_X12_pays_29 x1_4 S_4 = some Z) (hP : va_P D vwCl (W_M q k S_4) H) (hD : va_D A (W_M q k S_4)) (hS : va_S A s.heap H locs) (ls : Array Slot) (hl : lv_has ls 4 [(0, .ref (q 0)), (1, .int x1_4)]), W p l e ({ frames := 1, cells := 0, slots := 0, locals := 24 } : Room) s m ([.ref (q 0), .int x1] : List Value).toArray below meth c H locs 0 0 (MQ below (va_Qv (fun u => u = Z) (fun u t => va_P D vwCl (W_M q k u) t.heap) A) ([.ref (q 0), .int x1] : List Value).toArray s 0 0 A) (F0 m 29 ls []) := by
    intro x1_4 S_4   H locs hZ hP hD hS ls hl
    unfold f_X12_pays_29 at hZ
    refine lv_iconst (v := (0 : Int32)) hx hb dX12_pays_29 (by decide) ?_
    refine lv_istore_n (lv' := [(2, .int (0 : Int32)), (0, .ref (q 0)), (1, .int x1_4)]) hx hb dX12_pays_30 rfl hl (by decide) rfl (fun ls hl => ?_)
    obtain ⟨r_7, hw, hza_7⟩ := jx_b_some hZ
    have l_7 : ∀ (nn : Nat) (x2_5 : Int32) (S_6 : St) (H : Heap) (locs : List Loc) (hw : jx_w (g_X12_pays_31 x1_4) nn (x2_5, S_6) = some r_7) (hP : va_P D vwCl (W_M q k S_6) H) (hD : va_D A (W_M q k S_6)) (hS : va_S A s.heap H locs) (ls : Array Slot) (hl : lv_has ls 4 [(0, .ref (q 0)), (1, .int x1_4), (2, .int x2_5)]), W p l e ({ frames := 1, cells := 0, slots := 0, locals := 24 } : Room) s m ([.ref (q 0), .int x1] : List Value).toArray below meth c H locs 0 0 (MQ below (va_Qv (fun u => u = Z) (fun u t => va_P D vwCl (W_M q k u) t.heap) A) ([.ref (q 0), .int x1] : List Value).toArray s 0 0 A) (F0 m 31 ls []) := by
      intro nn
      induction nn with
      | zero =>
        intro x2_5 S_6 H locs hw hP hD hS ls hl
        exact jx_w_zero hw
      | succ n_7 ih_7 =>
        intro x2_5 S_6 H locs hw hP hD hS ls hl
        obtain ⟨o_7, hZ, hk_7⟩ := jx_w_succ hw
        have hZ : b_X12_pays_31 x1_4 x2_5 S_6 = some o_7 := hZ
        have j77i31 : ∀ (x2_43 : Int32) (S_43 : St)  (o_7 : (Int32 × St) ⊕ (St)) (hk_7 : jx_k (g_X12_pays_31 x1_4) n_7 r_7 o_7) (H : Heap) (locs : List Loc) (hZ : f_X12_pays_77i31 x1_4 x2_43 S_43 = some o_7) (hP : va_P D vwCl (W_M q k S_43) H) (hD : va_D A (W_M q k S_43)) (hS : va_S A s.heap H locs) (ls : Array Slot) (hl : lv_has ls 4 [(0, .ref (q 0)), (1, .int x1_4), (2, .int x2_43)]), W p l e ({ frames := 1, cells := 0, slots := 0, locals := 24 } : Room) s m ([.ref (q 0), .int x1] : List Value).toArray below meth c H locs 0 0 (MQ below (va_Qv (fun u => u = Z) (fun u t => va_P D vwCl (W_M q k u) t.heap) A) ([.ref (q 0), .int x1] : List Value).toArray s 0 0 A) (F0 m 77 ls []) := by
          intro x2_43 S_43  o_7 hk_7 H locs hZ hP hD hS ls hl
          unfold f_X12_pays_77i31 at hZ
          obtain ⟨x2_44, e_x2_44, hZ⟩ := jx_l_some hZ
          refine lv_iinc (v := x2_44) (lv' := [(2, .int x2_44), (0, .ref (q 0)), (1, .int x1_4)]) hx hb dX12_pays_77 hl (k := 2) rfl (by rw [e_x2_44]; rfl) (by decide) rfl (fun ls hl => ?_)
          refine lv_goto (tgt := 31) hx hb dX12_pays_80 (by decide) ?_
          have ho := Option.some.inj hZ
          subst ho
          exact ih_7 x2_44 S_43 _ _ hk_7 hP hD hS _ (lv_sub hl [1, 2, 0] rfl)
        unfold b_X12_pays_31 at hZ
        refine lv_iload_n hx hb dX12_pays_31 rfl (lv_at hl 2 rfl) ?_
        refine lv_aload_n hx hb dX12_pays_32 rfl (lv_at hl 0 rfl) ?_
        refine gf_12_sorts hx hb hts in12 hown hK hP (hts (.fieldLink RX12 114 "CoinsOfLastModel" "sorts" "I") (List.mem_of_getElem? (i := 2) rfl)) dX12_pays_33 ?_
        refine lv_icmp_ge (tgt := 83) hx hb dX12_pays_36 (by decide) (fun c_38 => ?_) (fun c_38 => ?_)
        · have hZ := jx_i_pos c_38 hZ
          have ho := Option.some.inj hZ
          subst ho
          have hE := hza_7
          rw [← (show S_6 = r_7 from hk_7)] at hE
          have hZ : f_X12_pays_83 S_6 = some Z := hE
          exact j83 S_6 _ _ hZ hP hD hS _ (lv_sub hl [] rfl)
        · have hZ := jx_i_neg c_38 hZ
          refine lv_iconst (v := (0 : Int32)) hx hb dX12_pays_39 (by decide) ?_
          refine lv_istore_n (lv' := [(3, .int (0 : Int32)), (0, .ref (q 0)), (1, .int x1_4), (2, .int x2_5)]) hx hb dX12_pays_40 rfl hl (by decide) rfl (fun ls hl => ?_)
          obtain ⟨r_42, hw, hza_42⟩ := jx_b_some hZ
          have l_42 : ∀ (nn : Nat) (x3_40 : Int32) (S_41 : St) (H : Heap) (locs : List Loc) (hw : jx_w (g_X12_pays_41 x1_4 x2_5) nn (x3_40, S_41) = some r_42) (hP : va_P D vwCl (W_M q k S_41) H) (hD : va_D A (W_M q k S_41)) (hS : va_S A s.heap H locs) (ls : Array Slot) (hl : lv_has ls 4 [(0, .ref (q 0)), (1, .int x1_4), (2, .int x2_5), (3, .int x3_40)]), W p l e ({ frames := 1, cells := 0, slots := 0, locals := 24 } : Room) s m ([.ref (q 0), .int x1] : List Value).toArray below meth c H locs 0 0 (MQ below (va_Qv (fun u => u = Z) (fun u t => va_P D vwCl (W_M q k u) t.heap) A) ([.ref (q 0), .int x1] : List Value).toArray s 0 0 A) (F0 m 41 ls []) := by
            intro nn
            induction nn with
            | zero =>
              intro x3_40 S_41 H locs hw hP hD hS ls hl
              exact jx_w_zero hw
            | succ n_42 ih_42 =>
              intro x3_40 S_41 H locs hw hP hD hS ls hl
              obtain ⟨o_42, hZ, hk_42⟩ := jx_w_succ hw
              have hZ : b_X12_pays_41 x1_4 x2_5 x3_40 S_41 = some o_42 := hZ
              unfold b_X12_pays_41 at hZ
              refine lv_iload_n hx hb dX12_pays_41 rfl (lv_at hl 3 rfl) ?_
              refine lv_aload_n hx hb dX12_pays_42 rfl (lv_at hl 0 rfl) ?_
              refine gf_12_purse hx hb hts in12 hown hK hP (hts (.fieldLink RX12 22 "CoinsOfLastModel" "purse" "[I") (List.mem_of_getElem? (i := 3) rfl)) dX12_pays_43 ?_
              refine lv_iload_n hx hb dX12_pays_46 rfl (lv_at hl 2 rfl) ?_
              obtain ⟨c_56, hZ⟩ := jx_a_some hZ
              refine M_iald hx hb hK hP wM_5 c_56 dX12_pays_47 ?_
              refine lv_icmp_ge (tgt := 77) hx hb dX12_pays_48 (by decide) (fun c_57 => ?_) (fun c_57 => ?_)
              · have hZ := jx_i_pos c_57 hZ
                have ho := Option.some.inj hZ
                subst ho
                have hE := hza_42
                rw [← (show S_41 = r_42 from hk_42)] at hE
                have hZ : f_X12_pays_77i31 x1_4 x2_5 S_41 = some o_7 := hE
                exact j77i31 x2_5 S_41 _ hk_7 _ _ hZ hP hD hS _ (lv_sub hl [0, 1, 2] rfl)
              · have hZ := jx_i_neg c_57 hZ
                refine lv_aload_n hx hb dX12_pays_51 rfl (lv_at hl 0 rfl) ?_
                refine gf_12_landOf hx hb hts in12 hown hK hP (hts (.fieldLink RX12 7 "CoinsOfLastModel" "landOf" "[I") (List.mem_of_getElem? (i := 4) rfl)) dX12_pays_52 ?_
                refine lv_iload_n hx hb dX12_pays_55 rfl (lv_at hl 2 rfl) ?_
                obtain ⟨c_59, hZ⟩ := jx_a_some hZ
                refine M_iald hx hb hK hP wM_1 c_59 dX12_pays_56 ?_
                refine lv_iload_n hx hb dX12_pays_57 rfl (lv_at hl 1 rfl) ?_
                refine lv_icmp_ne (tgt := 77) hx hb dX12_pays_58 (by decide) (fun c_60 => ?_) (fun c_60 => ?_)
                · have hZ := jx_i_neg c_60 hZ
                  have ho := Option.some.inj hZ
                  subst ho
                  have hE := hza_42
                  rw [← (show S_41 = r_42 from hk_42)] at hE
                  have hZ : f_X12_pays_77i31 x1_4 x2_5 S_41 = some o_7 := hE
                  exact j77i31 x2_5 S_41 _ hk_7 _ _ hZ hP hD hS _ (lv_sub hl [0, 1, 2] rfl)
                · have hZ := jx_i_pos c_60 hZ
                  refine lv_aload_n hx hb dX12_pays_61 rfl (lv_at hl 0 rfl) ?_
                  refine lv_aload_n hx hb dX12_pays_62 rfl (lv_at hl 0 rfl) ?_
                  refine gf_12_worth hx hb hts in12 hown hK hP (hts (.fieldLink RX12 13 "CoinsOfLastModel" "worth" "[I") (List.mem_of_getElem? (i := 5) rfl)) dX12_pays_63 ?_
                  refine lv_iload_n hx hb dX12_pays_66 rfl (lv_at hl 2 rfl) ?_
                  obtain ⟨c_62, hZ⟩ := jx_a_some hZ
                  refine M_iald hx hb hK hP wM_2 c_62 dX12_pays_67 ?_
                  obtain ⟨S_63, hc_64, hZ⟩ := jx_b_some hZ
                  refine call_Vv SM_ok sameM ⟨hx, hb, hml, hown, hts⟩ (c_X12_shifts l D q k (S_41.1 2 (Int32.toNatClampNeg x2_5)) S_41 _ S_63  hc_64) (cwV 1 hts gX12_pays_X12_shifts rfl rfl rfl hd_X12_shifts ⟨Nat.le_of_ble_eq_true rfl, Nat.le_of_ble_eq_true rfl⟩) hK hP hD hS hA hsp (va_recv hK hP (ci := 12) (q0 := 0) rfl wM_0) (As := [.int (S_41.1 2 (Int32.toNatClampNeg x2_5))]) rfl hl.1 rfl (Nat.le_of_ble_eq_true rfl) dX12_pays_68 ⟨Nat.zero_le _, Nat.zero_le _⟩ (fun H locs hP hD hS => ?_)
                  obtain ⟨x3_65, e_x3_65, hZ⟩ := jx_l_some hZ
                  refine lv_iinc (v := x3_65) (lv' := [(3, .int x3_65), (0, .ref (q 0)), (1, .int x1_4), (2, .int x2_5)]) hx hb dX12_pays_71 hl (k := 3) rfl (by rw [e_x3_65]; rfl) (by decide) rfl (fun ls hl => ?_)
                  refine lv_goto (tgt := 41) hx hb dX12_pays_74 (by decide) ?_
                  have ho := Option.some.inj hZ
                  subst ho
                  exact ih_42 x3_65 S_63 _ _ hk_42 hP hD hS _ (lv_sub hl [1, 2, 3, 0] rfl)
          exact l_42 FU (0 : Int32) S_6 _ _ hw hP hD hS _ (lv_sub hl [1, 2, 3, 0] rfl)
    exact l_7 FU (0 : Int32) S_4 _ _ hw hP hD hS _ (lv_sub hl [1, 2, 0] rfl)
  unfold f_X12_pays at hZ
  refine lv_iconst (v := (0 : Int32)) hx hb dX12_pays_0 (by decide) ?_
  refine lv_istore_n (lv' := [(2, .int (0 : Int32)), (0, .ref (q 0)), (1, .int x1)]) hx hb dX12_pays_1 rfl hl (by decide) rfl (fun ls hl => ?_)
  obtain ⟨r_3, hw, hza_3⟩ := jx_b_some hZ
  have l_3 : ∀ (nn : Nat) (x2_1 : Int32) (S_2 : St) (H : Heap) (locs : List Loc) (hw : jx_w (g_X12_pays_2 x1) nn (x2_1, S_2) = some r_3) (hP : va_P D vwCl (W_M q k S_2) H) (hD : va_D A (W_M q k S_2)) (hS : va_S A s.heap H locs) (ls : Array Slot) (hl : lv_has ls 4 [(0, .ref (q 0)), (1, .int x1), (2, .int x2_1)]), W p l e ({ frames := 1, cells := 0, slots := 0, locals := 24 } : Room) s m ([.ref (q 0), .int x1] : List Value).toArray below meth c H locs 0 0 (MQ below (va_Qv (fun u => u = Z) (fun u t => va_P D vwCl (W_M q k u) t.heap) A) ([.ref (q 0), .int x1] : List Value).toArray s 0 0 A) (F0 m 2 ls []) := by
    intro nn
    induction nn with
    | zero =>
      intro x2_1 S_2 H locs hw hP hD hS ls hl
      exact jx_w_zero hw
    | succ n_3 ih_3 =>
      intro x2_1 S_2 H locs hw hP hD hS ls hl
      obtain ⟨o_3, hZ, hk_3⟩ := jx_w_succ hw
      have hZ : b_X12_pays_2 x1 x2_1 S_2 = some o_3 := hZ
      have j22i2 : ∀ (x2_79 : Int32) (s1_79 : Int32) (s2_79 : Int64) (S_79 : St)  (o_3 : (Int32 × St) ⊕ (St)) (hk_3 : jx_k (g_X12_pays_2 x1) n_3 r_3 o_3) (H : Heap) (locs : List Loc) (hZ : f_X12_pays_22i2 x1 x2_79 s1_79 s2_79 S_79 = some o_3) (hP : va_P D vwCl (W_M q k S_79) H) (hD : va_D A (W_M q k S_79)) (hS : va_S A s.heap H locs) (ls : Array Slot) (hl : lv_has ls 4 [(0, .ref (q 0)), (1, .int x1), (2, .int x2_79)]), W p l e ({ frames := 1, cells := 0, slots := 0, locals := 24 } : Room) s m ([.ref (q 0), .int x1] : List Value).toArray below meth c H locs 0 0 (MQ below (va_Qv (fun u => u = Z) (fun u t => va_P D vwCl (W_M q k u) t.heap) A) ([.ref (q 0), .int x1] : List Value).toArray s 0 0 A) (F0 m 22 ls [.long s2_79, .int s1_79, .ref (q 22)]) := by
        intro x2_79 s1_79 s2_79 S_79  o_3 hk_3 H locs hZ hP hD hS ls hl
        unfold f_X12_pays_22i2 at hZ
        obtain ⟨c_80, hZ⟩ := jx_a_some hZ
        obtain ⟨S_81, e_S_81, hZ⟩ := jx_l_some hZ
        refine M_last hx hb hK hP hD hS wM_22 (fun _ => wMs_22) c_80 e_S_81 dX12_pays_22 (fun H locs hP hD hS => ?_)
        obtain ⟨x2_82, e_x2_82, hZ⟩ := jx_l_some hZ
        refine lv_iinc (v := x2_82) (lv' := [(2, .int x2_82), (0, .ref (q 0)), (1, .int x1)]) hx hb dX12_pays_23 hl (k := 2) rfl (by rw [e_x2_82]; rfl) (by decide) rfl (fun ls hl => ?_)
        refine lv_goto (tgt := 2) hx hb dX12_pays_26 (by decide) ?_
        have ho := Option.some.inj hZ
        subst ho
        exact ih_3 x2_82 S_81 _ _ hk_3 hP hD hS _ (lv_sub hl [1, 2, 0] rfl)
      unfold b_X12_pays_2 at hZ
      refine lv_iload_n hx hb dX12_pays_2 rfl (lv_at hl 2 rfl) ?_
      refine lv_bipush (v := (31 : Int32)) hx hb dX12_pays_3 (by decide) ?_
      refine lv_icmp_ge (tgt := 29) hx hb dX12_pays_5 (by decide) (fun c_76 => ?_) (fun c_76 => ?_)
      · have hZ := jx_i_pos c_76 hZ
        have ho := Option.some.inj hZ
        subst ho
        have hE := hza_3
        rw [← (show S_2 = r_3 from hk_3)] at hE
        have hZ : f_X12_pays_29 x1 S_2 = some Z := hE
        exact j29 x1 S_2 _ _ hZ hP hD hS _ (lv_sub hl [0, 1] rfl)
      · have hZ := jx_i_neg c_76 hZ
        refine lv_aload_n hx hb dX12_pays_8 rfl (lv_at hl 0 rfl) ?_
        refine gf_12_bits hx hb hts in12 hown hK hP (hts (.fieldLink RX12 74 "CoinsOfLastModel" "bits" "[J") (List.mem_of_getElem? (i := 1) rfl)) dX12_pays_9 ?_
        refine lv_iload_n hx hb dX12_pays_12 rfl (lv_at hl 2 rfl) ?_
        refine lv_iload_n hx hb dX12_pays_13 rfl (lv_at hl 2 rfl) ?_
        refine lv_if_ne (tgt := 21) hx hb dX12_pays_14 (by decide) (fun c_78 => ?_) (fun c_78 => ?_)
        · have hZ := jx_i_neg c_78 hZ
          refine lv_lconst (v := (0 : Int64)) hx hb dX12_pays_21 (by decide) ?_
          exact j22i2 x2_1 x2_1 (0 : Int64) S_2 _ hk_3 _ _ hZ hP hD hS _ (lv_sub hl [0, 1, 2] rfl)
        · have hZ := jx_i_pos c_78 hZ
          refine lv_lconst (v := (1 : Int64)) hx hb dX12_pays_17 (by decide) ?_
          refine lv_goto (tgt := 22) hx hb dX12_pays_18 (by decide) ?_
          exact j22i2 x2_1 x2_1 (1 : Int64) S_2 _ hk_3 _ _ hZ hP hD hS _ (lv_sub hl [0, 1, 2] rfl)
  exact l_3 FU (0 : Int32) S _ _ hw hP hD hS _ (lv_sub hl [1, 2, 0] rfl)
