-- X5_can
def f_X5_can (x1 : Int32) (S : St) : Option (Int32 × St) :=
  (if x1 < 0 then some ((0 : Int32), S) else (if (1920 : Int32) < x1 then some ((0 : Int32), S) else jx_d (64 : Int32) (jx_a (x1 / (64 : Int32)) 31 (jx_d (64 : Int32) ((if (lg_cmp (((Int64.toUInt64 (S.2 13 (Int32.toNatClampNeg (x1 / (64 : Int32)))) >>> ((Int32.toInt64 (x1 - x1 / (64 : Int32) * (64 : Int32))).toUInt64 &&& Int64.toUInt64 63)).toInt64) &&& (1 : Int64)) (0 : Int64)) = 0 then some ((0 : Int32), S) else some ((1 : Int32), S)))))))
set_option maxHeartbeats 4000000 in
set_option maxRecDepth 100000 in
theorem c_X5_can (l : Launch) (D : va_G) (q : Nat → Nat) (k : CI) (x1 : Int32) (S : St) (sz : Nat) (Z : Int32 × St) (hZ : f_X5_can x1 S = some Z) : MetI W_X SX l yX5_can wsX5_can { frames := 0, cells := 0, slots := 0, locals := 0 } [.ref (q 12), .int x1] D q k S sz Z := by
  refine enter (cc := cX5_can) (maxL := 2) (ret := some .boolean) (by decide) rfl (Nat.le_of_ble_eq_true rfl) ?_
  intro p e s m below meth c A ls hx hb hr hts hown hlocks hml hP hK hD hA hS hsp hAe hl
  have hown : s.vm.findClass RX5 = some m.cls := hown
  have hl : lv_has ls 2 [(0, .ref (q 12)), (1, .int x1)] := hl
  have in5 : ∀ w ∈ wsX50, w ∈ wsX5_can := fun _ h => (List.mem_cons_of_mem _ (List.mem_append_right _ h))
  unfold f_X5_can at hZ
  refine lv_iload_n hx hb dX5_can_0 rfl (lv_at hl 1 rfl) ?_
  refine lv_if_lt (tgt := 36) hx hb dX5_can_1 (by decide) (fun c_1 => ?_) (fun c_1 => ?_)
  · have hZ := jx_i_pos c_1 hZ
    refine lv_iconst (v := (0 : Int32)) hx hb dX5_can_36 (by decide) ?_
    exact leave_z hx hb hr hlocks rfl hP hS hZ dX5_can_37
  · have hZ := jx_i_neg c_1 hZ
    refine lv_iload_n hx hb dX5_can_4 rfl (lv_at hl 1 rfl) ?_
    refine lv_sipush (v := (1920 : Int32)) hx hb dX5_can_5 (by decide) ?_
    refine lv_icmp_gt (tgt := 36) hx hb dX5_can_8 (by decide) (fun c_2 => ?_) (fun c_2 => ?_)
    · have hZ := jx_i_pos c_2 hZ
      refine lv_iconst (v := (0 : Int32)) hx hb dX5_can_36 (by decide) ?_
      exact leave_z hx hb hr hlocks rfl hP hS hZ dX5_can_37
    · have hZ := jx_i_neg c_2 hZ
      refine lv_aload_n hx hb dX5_can_11 rfl (lv_at hl 0 rfl) ?_
      refine gf_5_sums hx hb hts in5 hown hK hP (hts (.fieldLink RX5 11 "CoinsOfLast$Payer" "sums" "[J") (List.mem_of_getElem? (i := 1) rfl)) dX5_can_12 ?_
      refine lv_iload_n hx hb dX5_can_15 rfl (lv_at hl 1 rfl) ?_
      refine lv_bipush (v := (64 : Int32)) hx hb dX5_can_16 (by decide) ?_
      obtain ⟨c_3, hZ⟩ := jx_d_some hZ
      refine lv_idiv hx hb dX5_can_18 c_3 ?_
      obtain ⟨c_4, hZ⟩ := jx_a_some hZ
      refine X_lald hx hb hK hP wX_13 c_4 dX5_can_19 ?_
      refine lv_iload_n hx hb dX5_can_20 rfl (lv_at hl 1 rfl) ?_
      refine lv_bipush (v := (64 : Int32)) hx hb dX5_can_21 (by decide) ?_
      obtain ⟨c_5, hZ⟩ := jx_d_some hZ
      refine lv_irem hx hb dX5_can_23 c_5 ?_
      refine lv_lushr (v := (Int64.toUInt64 (S.2 13 (Int32.toNatClampNeg (x1 / (64 : Int32)))) >>> ((Int32.toInt64 (x1 - x1 / (64 : Int32) * (64 : Int32))).toUInt64 &&& Int64.toUInt64 63)).toInt64) hx hb dX5_can_24 rfl ?_
      refine lv_lconst (v := (1 : Int64)) hx hb dX5_can_25 (by decide) ?_
      refine lv_land hx hb dX5_can_26 ?_
      refine lv_lconst (v := (0 : Int64)) hx hb dX5_can_27 (by decide) ?_
      refine W.lcmp hx hb dX5_can_28 ?_
      refine lv_if_eq (tgt := 36) hx hb dX5_can_29 (by decide) (fun c_6 => ?_) (fun c_6 => ?_)
      · have hZ := jx_i_pos c_6 hZ
        refine lv_iconst (v := (0 : Int32)) hx hb dX5_can_36 (by decide) ?_
        exact leave_z hx hb hr hlocks rfl hP hS hZ dX5_can_37
      · have hZ := jx_i_neg c_6 hZ
        refine lv_iconst (v := (1 : Int32)) hx hb dX5_can_32 (by decide) ?_
        refine lv_goto (tgt := 37) hx hb dX5_can_33 (by decide) ?_
        exact leave_z hx hb hr hlocks rfl hP hS hZ dX5_can_37
-- J13_bitCount_95d88
def f_J13_bitCount_95d88 (x0 : Int64) (S : St) : Option (Int32 × St) :=
  jx_l (x0 - (((Int64.toUInt64 x0 >>> ((Int32.toInt64 (1 : Int32)).toUInt64 &&& Int64.toUInt64 63)).toInt64) &&& (6148914691236517205 : Int64))) (fun x0_1 => jx_l ((x0_1 &&& (3689348814741910323 : Int64)) + (((Int64.toUInt64 x0_1 >>> ((Int32.toInt64 (2 : Int32)).toUInt64 &&& Int64.toUInt64 63)).toInt64) &&& (3689348814741910323 : Int64))) (fun x0_2 => jx_l ((x0_2 + ((Int64.toUInt64 x0_2 >>> ((Int32.toInt64 (4 : Int32)).toUInt64 &&& Int64.toUInt64 63)).toInt64)) &&& (1085102592571150095 : Int64)) (fun x0_3 => jx_l (x0_3 + ((Int64.toUInt64 x0_3 >>> ((Int32.toInt64 (8 : Int32)).toUInt64 &&& Int64.toUInt64 63)).toInt64)) (fun x0_4 => jx_l (x0_4 + ((Int64.toUInt64 x0_4 >>> ((Int32.toInt64 (16 : Int32)).toUInt64 &&& Int64.toUInt64 63)).toInt64)) (fun x0_5 => jx_l (x0_5 + ((Int64.toUInt64 x0_5 >>> ((Int32.toInt64 (32 : Int32)).toUInt64 &&& Int64.toUInt64 63)).toInt64)) (fun x0_6 => some (((Int64.toInt32 x0_6) &&& (127 : Int32)), S)))))))
set_option maxHeartbeats 4000000 in
set_option maxRecDepth 100000 in
theorem c_J13_bitCount_95d88 (l : Launch) (D : va_G) (q : Nat → Nat) (k : CI) (x0 : Int64) (S : St) (sz : Nat) (Z : Int32 × St) (hZ : f_J13_bitCount_95d88 x0 S = some Z) : MetI W_X SX l yJ13_bitCount_95d88 wsJ13_bitCount_95d88 { frames := 0, cells := 0, slots := 0, locals := 0 } [.long x0] D q k S sz Z := by
  refine enter (cc := cJ13_bitCount_95d88) (maxL := 2) (ret := some .int) (by decide) rfl (Nat.le_of_ble_eq_true rfl) ?_
  intro p e s m below meth c A ls hx hb hr hts hown hlocks hml hP hK hD hA hS hsp hAe hl
  have hown : s.vm.findClass RJ13 = some m.cls := hown
  have hl : lv_has ls 2 [(0, .long x0)] := hl
  unfold f_J13_bitCount_95d88 at hZ
  refine lv_lload_n hx hb dJ13_bitCount_95d88_0 rfl (lv_at hl 0 rfl) ?_
  refine lv_lload_n hx hb dJ13_bitCount_95d88_1 rfl (lv_at hl 0 rfl) ?_
  refine lv_iconst (v := (1 : Int32)) hx hb dJ13_bitCount_95d88_2 (by decide) ?_
  refine lv_lushr (v := (Int64.toUInt64 x0 >>> ((Int32.toInt64 (1 : Int32)).toUInt64 &&& Int64.toUInt64 63)).toInt64) hx hb dJ13_bitCount_95d88_3 rfl ?_
  refine lv_ldc2 (v := (6148914691236517205 : Int64)) hx hb hown (hts (.constantLong RJ13 314 (6148914691236517205)) (List.mem_of_getElem? (i := 1) rfl)) dJ13_bitCount_95d88_4 ?_
  refine lv_land hx hb dJ13_bitCount_95d88_7 ?_
  refine lv_lsub hx hb dJ13_bitCount_95d88_8 ?_
  obtain ⟨x0_1, e_x0_1, hZ⟩ := jx_l_some hZ
  refine tx_l e_x0_1 ?_
  refine lv_lstore_n (lv' := [(0, .long x0_1)]) hx hb dJ13_bitCount_95d88_9 rfl hl (by decide) rfl (fun ls hl => ?_)
  refine lv_lload_n hx hb dJ13_bitCount_95d88_10 rfl (lv_at hl 0 rfl) ?_
  refine lv_ldc2 (v := (3689348814741910323 : Int64)) hx hb hown (hts (.constantLong RJ13 316 (3689348814741910323)) (List.mem_of_getElem? (i := 2) rfl)) dJ13_bitCount_95d88_11 ?_
  refine lv_land hx hb dJ13_bitCount_95d88_14 ?_
  refine lv_lload_n hx hb dJ13_bitCount_95d88_15 rfl (lv_at hl 0 rfl) ?_
  refine lv_iconst (v := (2 : Int32)) hx hb dJ13_bitCount_95d88_16 (by decide) ?_
  refine lv_lushr (v := (Int64.toUInt64 x0_1 >>> ((Int32.toInt64 (2 : Int32)).toUInt64 &&& Int64.toUInt64 63)).toInt64) hx hb dJ13_bitCount_95d88_17 rfl ?_
  refine lv_ldc2 (v := (3689348814741910323 : Int64)) hx hb hown (hts (.constantLong RJ13 316 (3689348814741910323)) (List.mem_of_getElem? (i := 2) rfl)) dJ13_bitCount_95d88_18 ?_
  refine lv_land hx hb dJ13_bitCount_95d88_21 ?_
  refine lv_ladd hx hb dJ13_bitCount_95d88_22 ?_
  obtain ⟨x0_2, e_x0_2, hZ⟩ := jx_l_some hZ
  refine tx_l e_x0_2 ?_
  refine lv_lstore_n (lv' := [(0, .long x0_2)]) hx hb dJ13_bitCount_95d88_23 rfl hl (by decide) rfl (fun ls hl => ?_)
  refine lv_lload_n hx hb dJ13_bitCount_95d88_24 rfl (lv_at hl 0 rfl) ?_
  refine lv_lload_n hx hb dJ13_bitCount_95d88_25 rfl (lv_at hl 0 rfl) ?_
  refine lv_iconst (v := (4 : Int32)) hx hb dJ13_bitCount_95d88_26 (by decide) ?_
  refine lv_lushr (v := (Int64.toUInt64 x0_2 >>> ((Int32.toInt64 (4 : Int32)).toUInt64 &&& Int64.toUInt64 63)).toInt64) hx hb dJ13_bitCount_95d88_27 rfl ?_
  refine lv_ladd hx hb dJ13_bitCount_95d88_28 ?_
  refine lv_ldc2 (v := (1085102592571150095 : Int64)) hx hb hown (hts (.constantLong RJ13 318 (1085102592571150095)) (List.mem_of_getElem? (i := 3) rfl)) dJ13_bitCount_95d88_29 ?_
  refine lv_land hx hb dJ13_bitCount_95d88_32 ?_
  obtain ⟨x0_3, e_x0_3, hZ⟩ := jx_l_some hZ
  refine tx_l e_x0_3 ?_
  refine lv_lstore_n (lv' := [(0, .long x0_3)]) hx hb dJ13_bitCount_95d88_33 rfl hl (by decide) rfl (fun ls hl => ?_)
  refine lv_lload_n hx hb dJ13_bitCount_95d88_34 rfl (lv_at hl 0 rfl) ?_
  refine lv_lload_n hx hb dJ13_bitCount_95d88_35 rfl (lv_at hl 0 rfl) ?_
  refine lv_bipush (v := (8 : Int32)) hx hb dJ13_bitCount_95d88_36 (by decide) ?_
  refine lv_lushr (v := (Int64.toUInt64 x0_3 >>> ((Int32.toInt64 (8 : Int32)).toUInt64 &&& Int64.toUInt64 63)).toInt64) hx hb dJ13_bitCount_95d88_38 rfl ?_
  refine lv_ladd hx hb dJ13_bitCount_95d88_39 ?_
  obtain ⟨x0_4, e_x0_4, hZ⟩ := jx_l_some hZ
  refine tx_l e_x0_4 ?_
  refine lv_lstore_n (lv' := [(0, .long x0_4)]) hx hb dJ13_bitCount_95d88_40 rfl hl (by decide) rfl (fun ls hl => ?_)
  refine lv_lload_n hx hb dJ13_bitCount_95d88_41 rfl (lv_at hl 0 rfl) ?_
  refine lv_lload_n hx hb dJ13_bitCount_95d88_42 rfl (lv_at hl 0 rfl) ?_
  refine lv_bipush (v := (16 : Int32)) hx hb dJ13_bitCount_95d88_43 (by decide) ?_
  refine lv_lushr (v := (Int64.toUInt64 x0_4 >>> ((Int32.toInt64 (16 : Int32)).toUInt64 &&& Int64.toUInt64 63)).toInt64) hx hb dJ13_bitCount_95d88_45 rfl ?_
  refine lv_ladd hx hb dJ13_bitCount_95d88_46 ?_
  obtain ⟨x0_5, e_x0_5, hZ⟩ := jx_l_some hZ
  refine tx_l e_x0_5 ?_
  refine lv_lstore_n (lv' := [(0, .long x0_5)]) hx hb dJ13_bitCount_95d88_47 rfl hl (by decide) rfl (fun ls hl => ?_)
  refine lv_lload_n hx hb dJ13_bitCount_95d88_48 rfl (lv_at hl 0 rfl) ?_
  refine lv_lload_n hx hb dJ13_bitCount_95d88_49 rfl (lv_at hl 0 rfl) ?_
  refine lv_bipush (v := (32 : Int32)) hx hb dJ13_bitCount_95d88_50 (by decide) ?_
  refine lv_lushr (v := (Int64.toUInt64 x0_5 >>> ((Int32.toInt64 (32 : Int32)).toUInt64 &&& Int64.toUInt64 63)).toInt64) hx hb dJ13_bitCount_95d88_52 rfl ?_
  refine lv_ladd hx hb dJ13_bitCount_95d88_53 ?_
  obtain ⟨x0_6, e_x0_6, hZ⟩ := jx_l_some hZ
  refine tx_l e_x0_6 ?_
  refine lv_lstore_n (lv' := [(0, .long x0_6)]) hx hb dJ13_bitCount_95d88_54 rfl hl (by decide) rfl (fun ls hl => ?_)
  refine lv_lload_n hx hb dJ13_bitCount_95d88_55 rfl (lv_at hl 0 rfl) ?_
  refine lv_l2i (v := (Int64.toInt32 x0_6)) hx hb dJ13_bitCount_95d88_56 rfl ?_
  refine lv_bipush (v := (127 : Int32)) hx hb dJ13_bitCount_95d88_57 (by decide) ?_
  refine lv_iand hx hb dJ13_bitCount_95d88_59 ?_
  exact leave_i hx hb hr hlocks hP hS hZ dJ13_bitCount_95d88_60
theorem hd_J13_bitCount_95d88 : yJ13_bitCount_95d88.cls ≠ "java/lang/invoke/MethodHandle" ∧ yJ13_bitCount_95d88.cls ≠ "java/lang/invoke/VarHandle" ∧ (parseMethodDescriptor yJ13_bitCount_95d88.desc).map (fun d => d.parameters.length) = some 1 := by decide +kernel
-- X5_sumsAboveZero
def f_X5_sumsAboveZero_28 (x1_5 : Int32) (S_5 : St) : Option (Int32 × St) :=
  some ((x1_5 - (1 : Int32)), S_5)
def b_X5_sumsAboveZero_4 (x1 : Int32) (x2 : Int32) (S : St) : Option ((Int32 × Int32 × St) ⊕ ((Int32 × St))) :=
  (if (31 : Int32) ≤ x2 then some (.inr (x1, S)) else jx_a x2 31 (jx_b2 (f_J13_bitCount_95d88 (S.2 13 (Int32.toNatClampNeg x2)) S) (fun r_12 S_10 => jx_l (x1 + r_12) (fun x1_13 => jx_l (x2 + 1) (fun x2_14 => some (.inl (x1_13, x2_14, S_10)))))))
def g_X5_sumsAboveZero_4 : (Int32 × Int32 × St) → Option ((Int32 × Int32 × St) ⊕ ((Int32 × St))) := fun z => b_X5_sumsAboveZero_4 z.1 z.2.1 z.2.2
def f_X5_sumsAboveZero (S : St) : Option (Int32 × St) :=
  jx_b (jx_w (g_X5_sumsAboveZero_4) FU ((0 : Int32), (0 : Int32), S)) (fun z => f_X5_sumsAboveZero_28 z.1 z.2)
set_option maxHeartbeats 4000000 in
set_option maxRecDepth 100000 in
theorem c_X5_sumsAboveZero (l : Launch) (D : va_G) (q : Nat → Nat) (k : CI) (S : St) (sz : Nat) (Z : Int32 × St) (hZ : f_X5_sumsAboveZero S = some Z) : MetI W_X SX l yX5_sumsAboveZero wsX5_sumsAboveZero { frames := 1, cells := 0, slots := 0, locals := 21 } [.ref (q 12)] D q k S sz Z := by
  refine enter (cc := cX5_sumsAboveZero) (maxL := 3) (ret := some .int) (by decide) rfl (Nat.le_of_ble_eq_true rfl) ?_
  intro p e s m below meth c A ls hx hb hr hts hown hlocks hml hP hK hD hA hS hsp hAe hl
  have hown : s.vm.findClass RX5 = some m.cls := hown
  have hl : lv_has ls 3 [(0, .ref (q 12))] := hl
  have in5 : ∀ w ∈ wsX50, w ∈ wsX5_sumsAboveZero := fun _ h => (List.mem_cons_of_mem _ (List.mem_append_right _ h))
  have j28 : ∀ (x1_5 : Int32) (S_5 : St)  (H : Heap) (locs : List Loc) (hZ : f_X5_sumsAboveZero_28 x1_5 S_5 = some Z) (hP : va_P D vwCl (W_X q k S_5) H) (hD : va_D A (W_X q k S_5)) (hS : va_S A s.heap H locs) (ls : Array Slot) (hl : lv_has ls 3 [(1, .int x1_5)]), W p l e ({ frames := 1, cells := 0, slots := 0, locals := 21 } : Room) s m ([.ref (q 12)] : List Value).toArray below meth c H locs 0 0 (MQ below (va_Qi (fun r u => (r, u) = Z) (fun u t => va_P D vwCl (W_X q k u) t.heap) A) ([.ref (q 12)] : List Value).toArray s 0 0 A) (F0 m 28 ls []) := by
    intro x1_5 S_5   H locs hZ hP hD hS ls hl
    unfold f_X5_sumsAboveZero_28 at hZ
    refine lv_iload_n hx hb dX5_sumsAboveZero_28 rfl (lv_at hl 0 rfl) ?_
    refine lv_iconst (v := (1 : Int32)) hx hb dX5_sumsAboveZero_29 (by decide) ?_
    refine lv_isub hx hb dX5_sumsAboveZero_30 ?_
    exact leave_i hx hb hr hlocks hP hS hZ dX5_sumsAboveZero_31
  unfold f_X5_sumsAboveZero at hZ
  refine lv_iconst (v := (0 : Int32)) hx hb dX5_sumsAboveZero_0 (by decide) ?_
  refine lv_istore_n (lv' := [(1, .int (0 : Int32)), (0, .ref (q 12))]) hx hb dX5_sumsAboveZero_1 rfl hl (by decide) rfl (fun ls hl => ?_)
  refine lv_iconst (v := (0 : Int32)) hx hb dX5_sumsAboveZero_2 (by decide) ?_
  refine lv_istore_n (lv' := [(2, .int (0 : Int32)), (1, .int (0 : Int32)), (0, .ref (q 12))]) hx hb dX5_sumsAboveZero_3 rfl hl (by decide) rfl (fun ls hl => ?_)
  obtain ⟨r_4, hw, hza_4⟩ := jx_b_some hZ
  have l_4 : ∀ (nn : Nat) (x1_1 : Int32) (x2_2 : Int32) (S_3 : St) (H : Heap) (locs : List Loc) (hw : jx_w (g_X5_sumsAboveZero_4) nn (x1_1, x2_2, S_3) = some r_4) (hP : va_P D vwCl (W_X q k S_3) H) (hD : va_D A (W_X q k S_3)) (hS : va_S A s.heap H locs) (ls : Array Slot) (hl : lv_has ls 3 [(0, .ref (q 12)), (1, .int x1_1), (2, .int x2_2)]), W p l e ({ frames := 1, cells := 0, slots := 0, locals := 21 } : Room) s m ([.ref (q 12)] : List Value).toArray below meth c H locs 0 0 (MQ below (va_Qi (fun r u => (r, u) = Z) (fun u t => va_P D vwCl (W_X q k u) t.heap) A) ([.ref (q 12)] : List Value).toArray s 0 0 A) (F0 m 4 ls []) := by
    intro nn
    induction nn with
    | zero =>
      intro x1_1 x2_2 S_3 H locs hw hP hD hS ls hl
      exact jx_w_zero hw
    | succ n_4 ih_4 =>
      intro x1_1 x2_2 S_3 H locs hw hP hD hS ls hl
      obtain ⟨o_4, hZ, hk_4⟩ := jx_w_succ hw
      have hZ : b_X5_sumsAboveZero_4 x1_1 x2_2 S_3 = some o_4 := hZ
      unfold b_X5_sumsAboveZero_4 at hZ
      refine lv_iload_n hx hb dX5_sumsAboveZero_4 rfl (lv_at hl 2 rfl) ?_
      refine lv_bipush (v := (31 : Int32)) hx hb dX5_sumsAboveZero_5 (by decide) ?_
      refine lv_icmp_ge (tgt := 28) hx hb dX5_sumsAboveZero_7 (by decide) (fun c_15 => ?_) (fun c_15 => ?_)
      · have hZ := jx_i_pos c_15 hZ
        have ho := Option.some.inj hZ
        subst ho
        have hE := hza_4
        rw [← (show (x1_1, S_3) = r_4 from hk_4)] at hE
        have hZ : f_X5_sumsAboveZero_28 x1_1 S_3 = some Z := hE
        exact j28 x1_1 S_3 _ _ hZ hP hD hS _ (lv_sub hl [1] rfl)
      · have hZ := jx_i_neg c_15 hZ
        refine lv_iload_n hx hb dX5_sumsAboveZero_10 rfl (lv_at hl 1 rfl) ?_
        refine lv_aload_n hx hb dX5_sumsAboveZero_11 rfl (lv_at hl 0 rfl) ?_
        refine gf_5_sums hx hb hts in5 hown hK hP (hts (.fieldLink RX5 11 "CoinsOfLast$Payer" "sums" "[J") (List.mem_of_getElem? (i := 1) rfl)) dX5_sumsAboveZero_12 ?_
        refine lv_iload_n hx hb dX5_sumsAboveZero_15 rfl (lv_at hl 2 rfl) ?_
        obtain ⟨c_17, hZ⟩ := jx_a_some hZ
        refine X_lald hx hb hK hP wX_13 c_17 dX5_sumsAboveZero_16 ?_
        obtain ⟨r_20, S_18, hc_19, hZ⟩ := jx_b2_some hZ
        refine call_Si SX_ok sameX ⟨hx, hb, hml, hown, hts⟩ (c_J13_bitCount_95d88 l D q k (S_3.2 13 (Int32.toNatClampNeg x2_2)) S_3 _ (r_20, S_18)  hc_19) (va_cwS 1 hts gX5_sumsAboveZero_J13_bitCount_95d88 rfl rfl rfl hd_J13_bitCount_95d88 ⟨Nat.le_of_ble_eq_true rfl, Nat.le_of_ble_eq_true rfl⟩) hK hP hD hS hA hsp (As := [.long (S_3.2 13 (Int32.toNatClampNeg x2_2))]) rfl hl.1 rfl (Nat.le_of_ble_eq_true rfl) dX5_sumsAboveZero_17 ⟨Nat.zero_le _, Nat.zero_le _⟩ (fun H locs hP hD hS => ?_)
        refine lv_iadd hx hb dX5_sumsAboveZero_20 ?_
        obtain ⟨x1_21, e_x1_21, hZ⟩ := jx_l_some hZ
        refine tx_i e_x1_21 ?_
        refine lv_istore_n (lv' := [(1, .int x1_21), (0, .ref (q 12)), (2, .int x2_2)]) hx hb dX5_sumsAboveZero_21 rfl hl (by decide) rfl (fun ls hl => ?_)
        obtain ⟨x2_22, e_x2_22, hZ⟩ := jx_l_some hZ
        refine lv_iinc (v := x2_22) (lv' := [(2, .int x2_22), (1, .int x1_21), (0, .ref (q 12))]) hx hb dX5_sumsAboveZero_22 hl (k := 2) rfl (by rw [e_x2_22]; rfl) (by decide) rfl (fun ls hl => ?_)
        refine lv_goto (tgt := 4) hx hb dX5_sumsAboveZero_25 (by decide) ?_
        have ho := Option.some.inj hZ
        subst ho
        exact ih_4 x1_21 x2_22 S_18 _ _ hk_4 hP hD hS _ (lv_sub hl [2, 1, 0] rfl)
  exact l_4 FU (0 : Int32) (0 : Int32) S _ _ hw hP hD hS _ (lv_sub hl [2, 1, 0] rfl)
theorem hd_X5_can : yX5_can.cls = RX5 ∧ yX5_can.cls ≠ "java/lang/invoke/MethodHandle" ∧ yX5_can.cls ≠ "java/lang/invoke/VarHandle" ∧ (parseMethodDescriptor yX5_can.desc).map (fun d => d.parameters.length) = some 1 := by decide +kernel
-- X5_leastGap
def f_X5_leastGap_23 (x1_4 : Int32) (S_4 : St) : Option (Int32 × St) :=
  some (x1_4, S_4)
def b_X5_leastGap_2 (x1 : Int32) (S : St) : Option ((Int32 × St) ⊕ ((Int32 × St))) :=
  (if (1920 : Int32) < x1 then some (.inr (x1, S)) else jx_b2 (f_X5_can x1 S) (fun r_10 S_8 => (if r_10 = 0 then some (.inr (x1, S_8)) else jx_l (x1 + 1) (fun x1_13 => some (.inl (x1_13, S_8))))))
def g_X5_leastGap_2 : (Int32 × St) → Option ((Int32 × St) ⊕ ((Int32 × St))) := fun z => b_X5_leastGap_2 z.1 z.2
def f_X5_leastGap (S : St) : Option (Int32 × St) :=
  jx_b (jx_w (g_X5_leastGap_2) FU ((1 : Int32), S)) (fun z => f_X5_leastGap_23 z.1 z.2)
set_option maxHeartbeats 4000000 in
set_option maxRecDepth 100000 in
theorem c_X5_leastGap (l : Launch) (D : va_G) (q : Nat → Nat) (k : CI) (S : St) (sz : Nat) (Z : Int32 × St) (hZ : f_X5_leastGap S = some Z) : MetI W_X SX l yX5_leastGap wsX5_leastGap { frames := 1, cells := 0, slots := 0, locals := 21 } [.ref (q 12)] D q k S sz Z := by
  refine enter (cc := cX5_leastGap) (maxL := 2) (ret := some .int) (by decide) rfl (Nat.le_of_ble_eq_true rfl) ?_
  intro p e s m below meth c A ls hx hb hr hts hown hlocks hml hP hK hD hA hS hsp hAe hl
  have hown : s.vm.findClass RX5 = some m.cls := hown
  have hl : lv_has ls 2 [(0, .ref (q 12))] := hl
  have j23 : ∀ (x1_4 : Int32) (S_4 : St)  (H : Heap) (locs : List Loc) (hZ : f_X5_leastGap_23 x1_4 S_4 = some Z) (hP : va_P D vwCl (W_X q k S_4) H) (hD : va_D A (W_X q k S_4)) (hS : va_S A s.heap H locs) (ls : Array Slot) (hl : lv_has ls 2 [(1, .int x1_4)]), W p l e ({ frames := 1, cells := 0, slots := 0, locals := 21 } : Room) s m ([.ref (q 12)] : List Value).toArray below meth c H locs 0 0 (MQ below (va_Qi (fun r u => (r, u) = Z) (fun u t => va_P D vwCl (W_X q k u) t.heap) A) ([.ref (q 12)] : List Value).toArray s 0 0 A) (F0 m 23 ls []) := by
    intro x1_4 S_4   H locs hZ hP hD hS ls hl
    unfold f_X5_leastGap_23 at hZ
    refine lv_iload_n hx hb dX5_leastGap_23 rfl (lv_at hl 0 rfl) ?_
    exact leave_i hx hb hr hlocks hP hS hZ dX5_leastGap_24
  unfold f_X5_leastGap at hZ
  refine lv_iconst (v := (1 : Int32)) hx hb dX5_leastGap_0 (by decide) ?_
  refine lv_istore_n (lv' := [(1, .int (1 : Int32)), (0, .ref (q 12))]) hx hb dX5_leastGap_1 rfl hl (by decide) rfl (fun ls hl => ?_)
  obtain ⟨r_3, hw, hza_3⟩ := jx_b_some hZ
  have l_3 : ∀ (nn : Nat) (x1_1 : Int32) (S_2 : St) (H : Heap) (locs : List Loc) (hw : jx_w (g_X5_leastGap_2) nn (x1_1, S_2) = some r_3) (hP : va_P D vwCl (W_X q k S_2) H) (hD : va_D A (W_X q k S_2)) (hS : va_S A s.heap H locs) (ls : Array Slot) (hl : lv_has ls 2 [(0, .ref (q 12)), (1, .int x1_1)]), W p l e ({ frames := 1, cells := 0, slots := 0, locals := 21 } : Room) s m ([.ref (q 12)] : List Value).toArray below meth c H locs 0 0 (MQ below (va_Qi (fun r u => (r, u) = Z) (fun u t => va_P D vwCl (W_X q k u) t.heap) A) ([.ref (q 12)] : List Value).toArray s 0 0 A) (F0 m 2 ls []) := by
    intro nn
    induction nn with
    | zero =>
      intro x1_1 S_2 H locs hw hP hD hS ls hl
      exact jx_w_zero hw
    | succ n_3 ih_3 =>
      intro x1_1 S_2 H locs hw hP hD hS ls hl
      obtain ⟨o_3, hZ, hk_3⟩ := jx_w_succ hw
      have hZ : b_X5_leastGap_2 x1_1 S_2 = some o_3 := hZ
      unfold b_X5_leastGap_2 at hZ
      refine lv_iload_n hx hb dX5_leastGap_2 rfl (lv_at hl 1 rfl) ?_
      refine lv_sipush (v := (1920 : Int32)) hx hb dX5_leastGap_3 (by decide) ?_
      refine lv_icmp_gt (tgt := 23) hx hb dX5_leastGap_6 (by decide) (fun c_14 => ?_) (fun c_14 => ?_)
      · have hZ := jx_i_pos c_14 hZ
        have ho := Option.some.inj hZ
        subst ho
        have hE := hza_3
        rw [← (show (x1_1, S_2) = r_3 from hk_3)] at hE
        have hZ : f_X5_leastGap_23 x1_1 S_2 = some Z := hE
        exact j23 x1_1 S_2 _ _ hZ hP hD hS _ (lv_sub hl [1] rfl)
      · have hZ := jx_i_neg c_14 hZ
        refine lv_aload_n hx hb dX5_leastGap_9 rfl (lv_at hl 0 rfl) ?_
        refine lv_iload_n hx hb dX5_leastGap_10 rfl (lv_at hl 1 rfl) ?_
        obtain ⟨r_18, S_16, hc_17, hZ⟩ := jx_b2_some hZ
        refine call_Vi SX_ok sameX ⟨hx, hb, hml, hown, hts⟩ (c_X5_can l D q k x1_1 S_2 _ (r_18, S_16)  hc_17) (cwV 1 hts gX5_leastGap_X5_can rfl rfl rfl hd_X5_can ⟨Nat.le_of_ble_eq_true rfl, Nat.le_of_ble_eq_true rfl⟩) hK hP hD hS hA hsp (va_recv hK hP (ci := 5) (q0 := 12) rfl wX_12) (As := [.int x1_1]) rfl hl.1 rfl (Nat.le_of_ble_eq_true rfl) dX5_leastGap_11 ⟨Nat.zero_le _, Nat.zero_le _⟩ (fun H locs hP hD hS => ?_)
        refine lv_if_eq (tgt := 23) hx hb dX5_leastGap_14 (by decide) (fun c_19 => ?_) (fun c_19 => ?_)
        · have hZ := jx_i_pos c_19 hZ
          have ho := Option.some.inj hZ
          subst ho
          have hE := hza_3
          rw [← (show (x1_1, S_16) = r_3 from hk_3)] at hE
          have hZ : f_X5_leastGap_23 x1_1 S_16 = some Z := hE
          exact j23 x1_1 S_16 _ _ hZ hP hD hS _ (lv_sub hl [1] rfl)
        · have hZ := jx_i_neg c_19 hZ
          obtain ⟨x1_21, e_x1_21, hZ⟩ := jx_l_some hZ
          refine lv_iinc (v := x1_21) (lv' := [(1, .int x1_21), (0, .ref (q 12))]) hx hb dX5_leastGap_17 hl (k := 1) rfl (by rw [e_x1_21]; rfl) (by decide) rfl (fun ls hl => ?_)
          refine lv_goto (tgt := 2) hx hb dX5_leastGap_20 (by decide) ?_
          have ho := Option.some.inj hZ
          subst ho
          exact ih_3 x1_21 S_16 _ _ hk_3 hP hD hS _ (lv_sub hl [1, 0] rfl)
  exact l_3 FU (1 : Int32) S _ _ hw hP hD hS _ (lv_sub hl [1, 0] rfl)
-- X5_leastFrom
def f_X5_leastFrom_25 (S_4 : St) : Option (Int32 × St) :=
  some ((-2 : Int32), S_4)
def f_X5_leastFrom_17 (x2_6 : Int32) (S_6 : St) : Option (Int32 × St) :=
  some (x2_6, S_6)
def b_X5_leastFrom_2 (x2 : Int32) (S : St) : Option ((Int32 × St) ⊕ ((St) ⊕ ((Int32 × St)))) :=
  (if (1920 : Int32) < x2 then some (.inr (.inl S)) else jx_b2 (f_X5_can x2 S) (fun r_12 S_10 => (if r_12 = 0 then jx_l (x2 + 1) (fun x2_14 => some (.inl (x2_14, S_10))) else some (.inr (.inr (x2, S_10))))))
def g_X5_leastFrom_2 : (Int32 × St) → Option ((Int32 × St) ⊕ ((St) ⊕ ((Int32 × St)))) := fun z => b_X5_leastFrom_2 z.1 z.2
def f_X5_leastFrom (x1 : Int32) (S : St) : Option (Int32 × St) :=
  jx_b (jx_w (g_X5_leastFrom_2) FU (x1, S)) (fun z => Sum.elim (fun z => f_X5_leastFrom_25 z) (fun z => f_X5_leastFrom_17 z.1 z.2) z)
set_option maxHeartbeats 4000000 in
set_option maxRecDepth 100000 in
theorem c_X5_leastFrom (l : Launch) (D : va_G) (q : Nat → Nat) (k : CI) (x1 : Int32) (S : St) (sz : Nat) (Z : Int32 × St) (hZ : f_X5_leastFrom x1 S = some Z) : MetI W_X SX l yX5_leastFrom wsX5_leastFrom { frames := 1, cells := 0, slots := 0, locals := 21 } [.ref (q 12), .int x1] D q k S sz Z := by
  refine enter (cc := cX5_leastFrom) (maxL := 3) (ret := some .int) (by decide) rfl (Nat.le_of_ble_eq_true rfl) ?_
  intro p e s m below meth c A ls hx hb hr hts hown hlocks hml hP hK hD hA hS hsp hAe hl
  have hown : s.vm.findClass RX5 = some m.cls := hown
  have hl : lv_has ls 3 [(0, .ref (q 12)), (1, .int x1)] := hl
  have j25 : ∀ (S_4 : St)  (H : Heap) (locs : List Loc) (hZ : f_X5_leastFrom_25 S_4 = some Z) (hP : va_P D vwCl (W_X q k S_4) H) (hD : va_D A (W_X q k S_4)) (hS : va_S A s.heap H locs) (ls : Array Slot) (hl : lv_has ls 3 []), W p l e ({ frames := 1, cells := 0, slots := 0, locals := 21 } : Room) s m ([.ref (q 12), .int x1] : List Value).toArray below meth c H locs 0 0 (MQ below (va_Qi (fun r u => (r, u) = Z) (fun u t => va_P D vwCl (W_X q k u) t.heap) A) ([.ref (q 12), .int x1] : List Value).toArray s 0 0 A) (F0 m 25 ls []) := by
    intro S_4   H locs hZ hP hD hS ls hl
    unfold f_X5_leastFrom_25 at hZ
    refine lv_bipush (v := (-2 : Int32)) hx hb dX5_leastFrom_25 (by decide) ?_
    exact leave_i hx hb hr hlocks hP hS hZ dX5_leastFrom_27
  have j17 : ∀ (x2_6 : Int32) (S_6 : St)  (H : Heap) (locs : List Loc) (hZ : f_X5_leastFrom_17 x2_6 S_6 = some Z) (hP : va_P D vwCl (W_X q k S_6) H) (hD : va_D A (W_X q k S_6)) (hS : va_S A s.heap H locs) (ls : Array Slot) (hl : lv_has ls 3 [(2, .int x2_6)]), W p l e ({ frames := 1, cells := 0, slots := 0, locals := 21 } : Room) s m ([.ref (q 12), .int x1] : List Value).toArray below meth c H locs 0 0 (MQ below (va_Qi (fun r u => (r, u) = Z) (fun u t => va_P D vwCl (W_X q k u) t.heap) A) ([.ref (q 12), .int x1] : List Value).toArray s 0 0 A) (F0 m 17 ls []) := by
    intro x2_6 S_6   H locs hZ hP hD hS ls hl
    unfold f_X5_leastFrom_17 at hZ
    refine lv_iload_n hx hb dX5_leastFrom_17 rfl (lv_at hl 0 rfl) ?_
    exact leave_i hx hb hr hlocks hP hS hZ dX5_leastFrom_18
  unfold f_X5_leastFrom at hZ
  refine lv_iload_n hx hb dX5_leastFrom_0 rfl (lv_at hl 1 rfl) ?_
  refine lv_istore_n (lv' := [(2, .int x1), (0, .ref (q 12)), (1, .int x1)]) hx hb dX5_leastFrom_1 rfl hl (by decide) rfl (fun ls hl => ?_)
  obtain ⟨r_3, hw, hza_3⟩ := jx_b_some hZ
  have l_3 : ∀ (nn : Nat) (x2_1 : Int32) (S_2 : St) (H : Heap) (locs : List Loc) (hw : jx_w (g_X5_leastFrom_2) nn (x2_1, S_2) = some r_3) (hP : va_P D vwCl (W_X q k S_2) H) (hD : va_D A (W_X q k S_2)) (hS : va_S A s.heap H locs) (ls : Array Slot) (hl : lv_has ls 3 [(0, .ref (q 12)), (2, .int x2_1)]), W p l e ({ frames := 1, cells := 0, slots := 0, locals := 21 } : Room) s m ([.ref (q 12), .int x1] : List Value).toArray below meth c H locs 0 0 (MQ below (va_Qi (fun r u => (r, u) = Z) (fun u t => va_P D vwCl (W_X q k u) t.heap) A) ([.ref (q 12), .int x1] : List Value).toArray s 0 0 A) (F0 m 2 ls []) := by
    intro nn
    induction nn with
    | zero =>
      intro x2_1 S_2 H locs hw hP hD hS ls hl
      exact jx_w_zero hw
    | succ n_3 ih_3 =>
      intro x2_1 S_2 H locs hw hP hD hS ls hl
      obtain ⟨o_3, hZ, hk_3⟩ := jx_w_succ hw
      have hZ : b_X5_leastFrom_2 x2_1 S_2 = some o_3 := hZ
      unfold b_X5_leastFrom_2 at hZ
      refine lv_iload_n hx hb dX5_leastFrom_2 rfl (lv_at hl 1 rfl) ?_
      refine lv_sipush (v := (1920 : Int32)) hx hb dX5_leastFrom_3 (by decide) ?_
      refine lv_icmp_gt (tgt := 25) hx hb dX5_leastFrom_6 (by decide) (fun c_16 => ?_) (fun c_16 => ?_)
      · have hZ := jx_i_pos c_16 hZ
        have ho := Option.some.inj hZ
        subst ho
        have hE := hza_3
        rw [← (show .inl S_2 = r_3 from hk_3)] at hE
        have hZ : f_X5_leastFrom_25 S_2 = some Z := hE
        exact j25 S_2 _ _ hZ hP hD hS _ (lv_sub hl [] rfl)
      · have hZ := jx_i_neg c_16 hZ
        refine lv_aload_n hx hb dX5_leastFrom_9 rfl (lv_at hl 0 rfl) ?_
        refine lv_iload_n hx hb dX5_leastFrom_10 rfl (lv_at hl 1 rfl) ?_
        obtain ⟨r_20, S_18, hc_19, hZ⟩ := jx_b2_some hZ
        refine call_Vi SX_ok sameX ⟨hx, hb, hml, hown, hts⟩ (c_X5_can l D q k x2_1 S_2 _ (r_20, S_18)  hc_19) (cwV 1 hts gX5_leastFrom_X5_can rfl rfl rfl hd_X5_can ⟨Nat.le_of_ble_eq_true rfl, Nat.le_of_ble_eq_true rfl⟩) hK hP hD hS hA hsp (va_recv hK hP (ci := 5) (q0 := 12) rfl wX_12) (As := [.int x2_1]) rfl hl.1 rfl (Nat.le_of_ble_eq_true rfl) dX5_leastFrom_11 ⟨Nat.zero_le _, Nat.zero_le _⟩ (fun H locs hP hD hS => ?_)
        refine lv_if_eq (tgt := 19) hx hb dX5_leastFrom_14 (by decide) (fun c_21 => ?_) (fun c_21 => ?_)
        · have hZ := jx_i_pos c_21 hZ
          obtain ⟨x2_22, e_x2_22, hZ⟩ := jx_l_some hZ
          refine lv_iinc (v := x2_22) (lv' := [(2, .int x2_22), (0, .ref (q 12))]) hx hb dX5_leastFrom_19 hl (k := 1) rfl (by rw [e_x2_22]; rfl) (by decide) rfl (fun ls hl => ?_)
          refine lv_goto (tgt := 2) hx hb dX5_leastFrom_22 (by decide) ?_
          have ho := Option.some.inj hZ
          subst ho
          exact ih_3 x2_22 S_18 _ _ hk_3 hP hD hS _ (lv_sub hl [1, 0] rfl)
        · have hZ := jx_i_neg c_21 hZ
          have ho := Option.some.inj hZ
          subst ho
          have hE := hza_3
          rw [← (show .inr (x2_1, S_18) = r_3 from hk_3)] at hE
          have hZ : f_X5_leastFrom_17 x2_1 S_18 = some Z := hE
          exact j17 x2_1 S_18 _ _ hZ hP hD hS _ (lv_sub hl [1] rfl)
  exact l_3 FU x1 S _ _ hw hP hD hS _ (lv_sub hl [1, 0] rfl)
-- J7_rangeCheck_23922
def f_J7_rangeCheck_23922 (x0 : Int32) (x1 : Int32) (x2 : Int32) (S : St) : Option (St) :=
  (if x1 ≤ x2 then (if 0 ≤ x1 then (if x2 ≤ x0 then some S else none) else none) else none)
set_option maxHeartbeats 4000000 in
set_option maxRecDepth 100000 in
theorem c_J7_rangeCheck_23922 (l : Launch) (D : va_G) (q : Nat → Nat) (k : CI) (x0 : Int32) (x1 : Int32) (x2 : Int32) (S : St) (sz : Nat) (Z : St) (hZ : f_J7_rangeCheck_23922 x0 x1 x2 S = some Z) : MetV W_X SX l yJ7_rangeCheck_23922 wsJ7_rangeCheck_23922 { frames := 0, cells := 0, slots := 0, locals := 0 } [.int x0, .int x1, .int x2] D q k S sz Z := by
  refine enter (cc := cJ7_rangeCheck_23922) (maxL := 3) (ret := none) (by decide) rfl (Nat.le_of_ble_eq_true rfl) ?_
  intro p e s m below meth c A ls hx hb hr hts hown hlocks hml hP hK hD hA hS hsp hAe hl
  have hown : s.vm.findClass RJ7 = some m.cls := hown
  have hl : lv_has ls 3 [(0, .int x0), (1, .int x1), (2, .int x2)] := hl
  unfold f_J7_rangeCheck_23922 at hZ
  refine lv_iload_n hx hb dJ7_rangeCheck_23922_0 rfl (lv_at hl 1 rfl) ?_
  refine lv_iload_n hx hb dJ7_rangeCheck_23922_1 rfl (lv_at hl 2 rfl) ?_
  refine lv_icmp_le (tgt := 46) hx hb dJ7_rangeCheck_23922_2 (by decide) (fun c_1 => ?_) (fun c_1 => ?_)
  · have hZ := jx_i_pos c_1 hZ
    refine lv_iload_n hx hb dJ7_rangeCheck_23922_46 rfl (lv_at hl 1 rfl) ?_
    refine lv_if_ge (tgt := 59) hx hb dJ7_rangeCheck_23922_47 (by decide) (fun c_2 => ?_) (fun c_2 => ?_)
    · have hZ := jx_i_pos c_2 hZ
      refine lv_iload_n hx hb dJ7_rangeCheck_23922_59 rfl (lv_at hl 2 rfl) ?_
      refine lv_iload_n hx hb dJ7_rangeCheck_23922_60 rfl (lv_at hl 0 rfl) ?_
      refine lv_icmp_le (tgt := 73) hx hb dJ7_rangeCheck_23922_61 (by decide) (fun c_3 => ?_) (fun c_3 => ?_)
      · have hZ := jx_i_pos c_3 hZ
        exact leave_v hx hb hr hlocks hP hS hZ dJ7_rangeCheck_23922_73
      · have hZ := jx_i_neg c_3 hZ
        cases hZ
    · have hZ := jx_i_neg c_2 hZ
      cases hZ
  · have hZ := jx_i_neg c_1 hZ
    cases hZ
theorem hd_J7_rangeCheck_23922 : yJ7_rangeCheck_23922.cls ≠ "java/lang/invoke/MethodHandle" ∧ yJ7_rangeCheck_23922.cls ≠ "java/lang/invoke/VarHandle" ∧ (parseMethodDescriptor yJ7_rangeCheck_23922.desc).map (fun d => d.parameters.length) = some 3 := by decide +kernel
-- J7_fill_fda19
def f_J7_fill_fda19_27 (S_6 : St) : Option (St) :=
  some S_6
def b_J7_fill_fda19_10 (x2 : Int32) (x3 : Int32) (x4 : Int32) (S : St) : Option ((Int32 × St) ⊕ (St)) :=
  (if x2 ≤ x4 then some (.inr S) else jx_a x4 1921 (jx_l (u1 S 14 (Int32.toNatClampNeg x4) x3) (fun S_11 => jx_l (x4 + 1) (fun x4_12 => some (.inl (x4_12, S_11))))))
def g_J7_fill_fda19_10 (x2 : Int32) (x3 : Int32) : (Int32 × St) → Option ((Int32 × St) ⊕ (St)) := fun z => b_J7_fill_fda19_10 x2 x3 z.1 z.2
def f_J7_fill_fda19 (x1 : Int32) (x2 : Int32) (x3 : Int32) (S : St) : Option (St) :=
  jx_b (f_J7_rangeCheck_23922 (1921 : Int32) x1 x2 S) (fun S_1 => jx_b (jx_w (g_J7_fill_fda19_10 x2 x3) FU (x1, S_1)) (fun z => f_J7_fill_fda19_27 z))
set_option maxHeartbeats 4000000 in
set_option maxRecDepth 100000 in
theorem c_J7_fill_fda19 (l : Launch) (D : va_G) (q : Nat → Nat) (k : CI) (x1 : Int32) (x2 : Int32) (x3 : Int32) (S : St) (sz : Nat) (Z : St) (hZ : f_J7_fill_fda19 x1 x2 x3 S = some Z) : MetV W_X SX l yJ7_fill_fda19 wsJ7_fill_fda19 { frames := 1, cells := 0, slots := 0, locals := 22 } [.ref (q 14), .int x1, .int x2, .int x3] D q k S sz Z := by
  refine enter (cc := cJ7_fill_fda19) (maxL := 5) (ret := none) (by decide) rfl (Nat.le_of_ble_eq_true rfl) ?_
  intro p e s m below meth c A ls hx hb hr hts hown hlocks hml hP hK hD hA hS hsp hAe hl
  have hown : s.vm.findClass RJ7 = some m.cls := hown
  have hl : lv_has ls 5 [(0, .ref (q 14)), (1, .int x1), (2, .int x2), (3, .int x3)] := hl
  have j27 : ∀ (S_6 : St)  (H : Heap) (locs : List Loc) (hZ : f_J7_fill_fda19_27 S_6 = some Z) (hP : va_P D vwCl (W_X q k S_6) H) (hD : va_D A (W_X q k S_6)) (hS : va_S A s.heap H locs) (ls : Array Slot) (hl : lv_has ls 5 []), W p l e ({ frames := 1, cells := 0, slots := 0, locals := 22 } : Room) s m ([.ref (q 14), .int x1, .int x2, .int x3] : List Value).toArray below meth c H locs 0 0 (MQ below (va_Qv (fun u => u = Z) (fun u t => va_P D vwCl (W_X q k u) t.heap) A) ([.ref (q 14), .int x1, .int x2, .int x3] : List Value).toArray s 0 0 A) (F0 m 27 ls []) := by
    intro S_6   H locs hZ hP hD hS ls hl
    unfold f_J7_fill_fda19_27 at hZ
    exact leave_v hx hb hr hlocks hP hS hZ dJ7_fill_fda19_27
  unfold f_J7_fill_fda19 at hZ
  refine lv_aload_n hx hb dJ7_fill_fda19_0 rfl (lv_at hl 0 rfl) ?_
  refine X_alen (v := (1921 : Int32)) (t0 := 0) hx hb hK hP wX_14 rfl rfl dJ7_fill_fda19_1 ?_
  refine lv_iload_n hx hb dJ7_fill_fda19_2 rfl (lv_at hl 1 rfl) ?_
  refine lv_iload_n hx hb dJ7_fill_fda19_3 rfl (lv_at hl 2 rfl) ?_
  obtain ⟨S_1, hc_2, hZ⟩ := jx_b_some hZ
  refine call_Sv SX_ok sameX ⟨hx, hb, hml, hown, hts⟩ (c_J7_rangeCheck_23922 l D q k (1921 : Int32) x1 x2 S _ S_1  hc_2) (va_cwS 3 hts gJ7_fill_fda19_J7_rangeCheck_23922 rfl rfl rfl hd_J7_rangeCheck_23922 ⟨Nat.le_of_ble_eq_true rfl, Nat.le_of_ble_eq_true rfl⟩) hK hP hD hS hA hsp (As := [.int (1921 : Int32), .int x1, .int x2]) rfl hl.1 rfl (Nat.le_of_ble_eq_true rfl) dJ7_fill_fda19_4 ⟨Nat.zero_le _, Nat.zero_le _⟩ (fun H locs hP hD hS => ?_)
  refine lv_iload_n hx hb dJ7_fill_fda19_7 rfl (lv_at hl 1 rfl) ?_
  refine lv_istore (lv' := [(4, .int x1), (0, .ref (q 14)), (1, .int x1), (2, .int x2), (3, .int x3)]) hx hb dJ7_fill_fda19_8 hl (by decide) rfl (fun ls hl => ?_)
  obtain ⟨r_5, hw, hza_5⟩ := jx_b_some hZ
  have l_5 : ∀ (nn : Nat) (x4_3 : Int32) (S_4 : St) (H : Heap) (locs : List Loc) (hw : jx_w (g_J7_fill_fda19_10 x2 x3) nn (x4_3, S_4) = some r_5) (hP : va_P D vwCl (W_X q k S_4) H) (hD : va_D A (W_X q k S_4)) (hS : va_S A s.heap H locs) (ls : Array Slot) (hl : lv_has ls 5 [(0, .ref (q 14)), (2, .int x2), (3, .int x3), (4, .int x4_3)]), W p l e ({ frames := 1, cells := 0, slots := 0, locals := 22 } : Room) s m ([.ref (q 14), .int x1, .int x2, .int x3] : List Value).toArray below meth c H locs 0 0 (MQ below (va_Qv (fun u => u = Z) (fun u t => va_P D vwCl (W_X q k u) t.heap) A) ([.ref (q 14), .int x1, .int x2, .int x3] : List Value).toArray s 0 0 A) (F0 m 10 ls []) := by
    intro nn
    induction nn with
    | zero =>
      intro x4_3 S_4 H locs hw hP hD hS ls hl
      exact jx_w_zero hw
    | succ n_5 ih_5 =>
      intro x4_3 S_4 H locs hw hP hD hS ls hl
      obtain ⟨o_5, hZ, hk_5⟩ := jx_w_succ hw
      have hZ : b_J7_fill_fda19_10 x2 x3 x4_3 S_4 = some o_5 := hZ
      unfold b_J7_fill_fda19_10 at hZ
      refine lv_iload hx hb dJ7_fill_fda19_10 (lv_at hl 3 rfl) ?_
      refine lv_iload_n hx hb dJ7_fill_fda19_12 rfl (lv_at hl 1 rfl) ?_
      refine lv_icmp_ge (tgt := 27) hx hb dJ7_fill_fda19_13 (by decide) (fun c_13 => ?_) (fun c_13 => ?_)
      · have hZ := jx_i_pos c_13 hZ
        have ho := Option.some.inj hZ
        subst ho
        have hE := hza_5
        rw [← (show S_4 = r_5 from hk_5)] at hE
        have hZ : f_J7_fill_fda19_27 S_4 = some Z := hE
        exact j27 S_4 _ _ hZ hP hD hS _ (lv_sub hl [] rfl)
      · have hZ := jx_i_neg c_13 hZ
        refine lv_aload_n hx hb dJ7_fill_fda19_16 rfl (lv_at hl 0 rfl) ?_
        refine lv_iload hx hb dJ7_fill_fda19_17 (lv_at hl 3 rfl) ?_
        refine lv_iload_n hx hb dJ7_fill_fda19_19 rfl (lv_at hl 2 rfl) ?_
        obtain ⟨c_15, hZ⟩ := jx_a_some hZ
        obtain ⟨S_16, e_S_16, hZ⟩ := jx_l_some hZ
        refine X_iast hx hb hK hP hD hS wX_14 (fun _ => wXs_14) c_15 e_S_16 dJ7_fill_fda19_20 (fun H locs hP hD hS => ?_)
        obtain ⟨x4_17, e_x4_17, hZ⟩ := jx_l_some hZ
        refine lv_iinc (v := x4_17) (lv' := [(4, .int x4_17), (0, .ref (q 14)), (2, .int x2), (3, .int x3)]) hx hb dJ7_fill_fda19_21 hl (k := 3) rfl (by rw [e_x4_17]; rfl) (by decide) rfl (fun ls hl => ?_)
        refine lv_goto (tgt := 10) hx hb dJ7_fill_fda19_24 (by decide) ?_
        have ho := Option.some.inj hZ
        subst ho
        exact ih_5 x4_17 S_16 _ _ hk_5 hP hD hS _ (lv_sub hl [1, 2, 3, 0] rfl)
  exact l_5 FU x1 S_1 _ _ hw hP hD hS _ (lv_sub hl [1, 3, 4, 0] rfl)
-- X5_placeOf
def f_X5_placeOf (x0 : Int32) (S : St) : Option (Int32 × St) :=
  some ((((7 : Int32) - x0) * (3 : Int32)), S)
set_option maxHeartbeats 4000000 in
set_option maxRecDepth 100000 in
theorem c_X5_placeOf (l : Launch) (D : va_G) (q : Nat → Nat) (k : CI) (x0 : Int32) (S : St) (sz : Nat) (Z : Int32 × St) (hZ : f_X5_placeOf x0 S = some Z) : MetI W_X SX l yX5_placeOf wsX5_placeOf { frames := 0, cells := 0, slots := 0, locals := 0 } [.int x0] D q k S sz Z := by
  refine enter (cc := cX5_placeOf) (maxL := 1) (ret := some .int) (by decide) rfl (Nat.le_of_ble_eq_true rfl) ?_
  intro p e s m below meth c A ls hx hb hr hts hown hlocks hml hP hK hD hA hS hsp hAe hl
  have hown : s.vm.findClass RX5 = some m.cls := hown
  have hl : lv_has ls 1 [(0, .int x0)] := hl
  unfold f_X5_placeOf at hZ
  refine lv_bipush (v := (7 : Int32)) hx hb dX5_placeOf_0 (by decide) ?_
  refine lv_iload_n hx hb dX5_placeOf_2 rfl (lv_at hl 0 rfl) ?_
  refine lv_isub hx hb dX5_placeOf_3 ?_
  refine lv_iconst (v := (3 : Int32)) hx hb dX5_placeOf_4 (by decide) ?_
  refine lv_imul hx hb dX5_placeOf_5 ?_
  exact leave_i hx hb hr hlocks hP hS hZ dX5_placeOf_6
-- X5_payWithOneMore
def f_X5_payWithOneMore_54 (S_4 : St) : Option (St) :=
  some S_4
def f_X5_payWithOneMore_48i3 (x1 : Int32) (x2 : Int32) (x4_11 : Int32) (S_11 : St) : Option ((Int32 × St) ⊕ (St)) :=
  jx_l (x4_11 + (-1)) (fun x4_12 => some (.inl (x4_12, S_11)))
def b_X5_payWithOneMore_3 (x1 : Int32) (x2 : Int32) (x4 : Int32) (S : St) : Option ((Int32 × St) ⊕ (St)) :=
  (if x4 < x1 then some (.inr S) else jx_a (x4 - x1) 1921 (jx_l (S.1 14 (Int32.toNatClampNeg (x4 - x1))) (fun x5_9 => (if x5_9 = (-2147483648 : Int32) then f_X5_payWithOneMore_48i3 x1 x2 x4 S else jx_a x4 1921 (jx_a x4 1921 (jx_l (u1 S 14 (Int32.toNatClampNeg x4) (if (S.1 14 (Int32.toNatClampNeg x4)) < (x5_9 + x2) then (x5_9 + x2) else (S.1 14 (Int32.toNatClampNeg x4)))) (fun S_16 => f_X5_payWithOneMore_48i3 x1 x2 x4 S_16)))))))
def g_X5_payWithOneMore_3 (x1 : Int32) (x2 : Int32) : (Int32 × St) → Option ((Int32 × St) ⊕ (St)) := fun z => b_X5_payWithOneMore_3 x1 x2 z.1 z.2
def f_X5_payWithOneMore (x1 : Int32) (x2 : Int32) (x3 : Int32) (S : St) : Option (St) :=
  jx_b (jx_w (g_X5_payWithOneMore_3 x1 x2) FU (x3, S)) (fun z => f_X5_payWithOneMore_54 z)
set_option maxHeartbeats 4000000 in
set_option maxRecDepth 100000 in
theorem c_X5_payWithOneMore (l : Launch) (D : va_G) (q : Nat → Nat) (k : CI) (x1 : Int32) (x2 : Int32) (x3 : Int32) (S : St) (sz : Nat) (Z : St) (hZ : f_X5_payWithOneMore x1 x2 x3 S = some Z) : MetV W_X SX l yX5_payWithOneMore wsX5_payWithOneMore { frames := 1, cells := 0, slots := 0, locals := 21 } [.ref (q 12), .int x1, .int x2, .int x3] D q k S sz Z := by
  refine enter (cc := cX5_payWithOneMore) (maxL := 6) (ret := none) (by decide) rfl (Nat.le_of_ble_eq_true rfl) ?_
  intro p e s m below meth c A ls hx hb hr hts hown hlocks hml hP hK hD hA hS hsp hAe hl
  have hown : s.vm.findClass RX5 = some m.cls := hown
  have hl : lv_has ls 6 [(0, .ref (q 12)), (1, .int x1), (2, .int x2), (3, .int x3)] := hl
  have in5 : ∀ w ∈ wsX50, w ∈ wsX5_payWithOneMore := fun _ h => (List.mem_cons_of_mem _ (List.mem_append_right _ h))
  have j54 : ∀ (S_4 : St)  (H : Heap) (locs : List Loc) (hZ : f_X5_payWithOneMore_54 S_4 = some Z) (hP : va_P D vwCl (W_X q k S_4) H) (hD : va_D A (W_X q k S_4)) (hS : va_S A s.heap H locs) (ls : Array Slot) (hl : lv_has ls 6 []), W p l e ({ frames := 1, cells := 0, slots := 0, locals := 21 } : Room) s m ([.ref (q 12), .int x1, .int x2, .int x3] : List Value).toArray below meth c H locs 0 0 (MQ below (va_Qv (fun u => u = Z) (fun u t => va_P D vwCl (W_X q k u) t.heap) A) ([.ref (q 12), .int x1, .int x2, .int x3] : List Value).toArray s 0 0 A) (F0 m 54 ls []) := by
    intro S_4   H locs hZ hP hD hS ls hl
    unfold f_X5_payWithOneMore_54 at hZ
    exact leave_v hx hb hr hlocks hP hS hZ dX5_payWithOneMore_54
  unfold f_X5_payWithOneMore at hZ
  refine lv_iload_n hx hb dX5_payWithOneMore_0 rfl (lv_at hl 3 rfl) ?_
  refine lv_istore (lv' := [(4, .int x3), (0, .ref (q 12)), (1, .int x1), (2, .int x2), (3, .int x3)]) hx hb dX5_payWithOneMore_1 hl (by decide) rfl (fun ls hl => ?_)
  obtain ⟨r_3, hw, hza_3⟩ := jx_b_some hZ
  have l_3 : ∀ (nn : Nat) (x4_1 : Int32) (S_2 : St) (H : Heap) (locs : List Loc) (hw : jx_w (g_X5_payWithOneMore_3 x1 x2) nn (x4_1, S_2) = some r_3) (hP : va_P D vwCl (W_X q k S_2) H) (hD : va_D A (W_X q k S_2)) (hS : va_S A s.heap H locs) (ls : Array Slot) (hl : lv_has ls 6 [(0, .ref (q 12)), (1, .int x1), (2, .int x2), (4, .int x4_1)]), W p l e ({ frames := 1, cells := 0, slots := 0, locals := 21 } : Room) s m ([.ref (q 12), .int x1, .int x2, .int x3] : List Value).toArray below meth c H locs 0 0 (MQ below (va_Qv (fun u => u = Z) (fun u t => va_P D vwCl (W_X q k u) t.heap) A) ([.ref (q 12), .int x1, .int x2, .int x3] : List Value).toArray s 0 0 A) (F0 m 3 ls []) := by
    intro nn
    induction nn with
    | zero =>
      intro x4_1 S_2 H locs hw hP hD hS ls hl
      exact jx_w_zero hw
    | succ n_3 ih_3 =>
      intro x4_1 S_2 H locs hw hP hD hS ls hl
      obtain ⟨o_3, hZ, hk_3⟩ := jx_w_succ hw
      have hZ : b_X5_payWithOneMore_3 x1 x2 x4_1 S_2 = some o_3 := hZ
      have j48i3 : ∀ (x4_23 : Int32) (S_23 : St)  (o_3 : (Int32 × St) ⊕ (St)) (hk_3 : jx_k (g_X5_payWithOneMore_3 x1 x2) n_3 r_3 o_3) (H : Heap) (locs : List Loc) (hZ : f_X5_payWithOneMore_48i3 x1 x2 x4_23 S_23 = some o_3) (hP : va_P D vwCl (W_X q k S_23) H) (hD : va_D A (W_X q k S_23)) (hS : va_S A s.heap H locs) (ls : Array Slot) (hl : lv_has ls 6 [(0, .ref (q 12)), (1, .int x1), (2, .int x2), (4, .int x4_23)]), W p l e ({ frames := 1, cells := 0, slots := 0, locals := 21 } : Room) s m ([.ref (q 12), .int x1, .int x2, .int x3] : List Value).toArray below meth c H locs 0 0 (MQ below (va_Qv (fun u => u = Z) (fun u t => va_P D vwCl (W_X q k u) t.heap) A) ([.ref (q 12), .int x1, .int x2, .int x3] : List Value).toArray s 0 0 A) (F0 m 48 ls []) := by
        intro x4_23 S_23  o_3 hk_3 H locs hZ hP hD hS ls hl
        unfold f_X5_payWithOneMore_48i3 at hZ
        obtain ⟨x4_24, e_x4_24, hZ⟩ := jx_l_some hZ
        refine lv_iinc (v := x4_24) (lv' := [(4, .int x4_24), (0, .ref (q 12)), (1, .int x1), (2, .int x2)]) hx hb dX5_payWithOneMore_48 hl (k := 3) rfl (by rw [e_x4_24]; rfl) (by decide) rfl (fun ls hl => ?_)
        refine lv_goto (tgt := 3) hx hb dX5_payWithOneMore_51 (by decide) ?_
        have ho := Option.some.inj hZ
        subst ho
        exact ih_3 x4_24 S_23 _ _ hk_3 hP hD hS _ (lv_sub hl [1, 2, 3, 0] rfl)
      unfold b_X5_payWithOneMore_3 at hZ
      refine lv_iload hx hb dX5_payWithOneMore_3 (lv_at hl 3 rfl) ?_
      refine lv_iload_n hx hb dX5_payWithOneMore_5 rfl (lv_at hl 1 rfl) ?_
      refine lv_icmp_lt (tgt := 54) hx hb dX5_payWithOneMore_6 (by decide) (fun c_18 => ?_) (fun c_18 => ?_)
      · have hZ := jx_i_pos c_18 hZ
        have ho := Option.some.inj hZ
        subst ho
        have hE := hza_3
        rw [← (show S_2 = r_3 from hk_3)] at hE
        have hZ : f_X5_payWithOneMore_54 S_2 = some Z := hE
        exact j54 S_2 _ _ hZ hP hD hS _ (lv_sub hl [] rfl)
      · have hZ := jx_i_neg c_18 hZ
        refine lv_aload_n hx hb dX5_payWithOneMore_9 rfl (lv_at hl 0 rfl) ?_
        refine gf_5_best hx hb hts in5 hown hK hP (hts (.fieldLink RX5 15 "CoinsOfLast$Payer" "best" "[I") (List.mem_of_getElem? (i := 1) rfl)) dX5_payWithOneMore_10 ?_
        refine lv_iload hx hb dX5_payWithOneMore_13 (lv_at hl 3 rfl) ?_
        refine lv_iload_n hx hb dX5_payWithOneMore_15 rfl (lv_at hl 1 rfl) ?_
        refine lv_isub hx hb dX5_payWithOneMore_16 ?_
        obtain ⟨c_20, hZ⟩ := jx_a_some hZ
        refine X_iald hx hb hK hP wX_14 c_20 dX5_payWithOneMore_17 ?_
        obtain ⟨x5_21, e_x5_21, hZ⟩ := jx_l_some hZ
        refine tx_i e_x5_21 ?_
        refine lv_istore (lv' := [(5, .int x5_21), (0, .ref (q 12)), (1, .int x1), (2, .int x2), (4, .int x4_1)]) hx hb dX5_payWithOneMore_18 hl (by decide) rfl (fun ls hl => ?_)
        refine lv_iload hx hb dX5_payWithOneMore_20 (lv_at hl 0 rfl) ?_
        refine lv_ldc (v := (-2147483648 : Int32)) hx hb hown (hts (.constant RX5 64 (-2147483648)) (List.mem_of_getElem? (i := 2) rfl)) dX5_payWithOneMore_22 ?_
        refine lv_icmp_eq (tgt := 48) hx hb dX5_payWithOneMore_24 (by decide) (fun c_22 => ?_) (fun c_22 => ?_)
        · have hZ := jx_i_pos c_22 hZ
          exact j48i3 x4_1 S_2 _ hk_3 _ _ hZ hP hD hS _ (lv_sub hl [1, 2, 3, 4] rfl)
        · have hZ := jx_i_neg c_22 hZ
          refine lv_aload_n hx hb dX5_payWithOneMore_27 rfl (lv_at hl 1 rfl) ?_
          refine gf_5_best hx hb hts in5 hown hK hP (hts (.fieldLink RX5 15 "CoinsOfLast$Payer" "best" "[I") (List.mem_of_getElem? (i := 1) rfl)) dX5_payWithOneMore_28 ?_
          refine lv_iload hx hb dX5_payWithOneMore_31 (lv_at hl 4 rfl) ?_
          refine lv_aload_n hx hb dX5_payWithOneMore_33 rfl (lv_at hl 1 rfl) ?_
          refine gf_5_best hx hb hts in5 hown hK hP (hts (.fieldLink RX5 15 "CoinsOfLast$Payer" "best" "[I") (List.mem_of_getElem? (i := 1) rfl)) dX5_payWithOneMore_34 ?_
          refine lv_iload hx hb dX5_payWithOneMore_37 (lv_at hl 4 rfl) ?_
          obtain ⟨c_26, hZ⟩ := jx_a_some hZ
          refine X_iald hx hb hK hP wX_14 c_26 dX5_payWithOneMore_39 ?_
          refine lv_iload hx hb dX5_payWithOneMore_40 (lv_at hl 0 rfl) ?_
          refine lv_iload_n hx hb dX5_payWithOneMore_42 rfl (lv_at hl 3 rfl) ?_
          refine lv_iadd hx hb dX5_payWithOneMore_43 ?_
          refine va_mmax hx hb (hml.trans hl.1.symm) hown (hts _ (List.mem_of_getElem? (i := 3) rfl)) (hts _ (List.mem_of_getElem? (i := 4) rfl)) (hts _ (List.mem_of_getElem? (i := 5) rfl)) (hts _ (List.mem_of_getElem? (i := 6) rfl)) (Nat.le_of_ble_eq_true rfl) (Nat.le_of_ble_eq_true rfl) (Nat.zero_le _) (Nat.zero_le _) dX5_payWithOneMore_44 ?_
          obtain ⟨c_27, hZ⟩ := jx_a_some hZ
          obtain ⟨S_28, e_S_28, hZ⟩ := jx_l_some hZ
          refine X_iast hx hb hK hP hD hS wX_14 (fun _ => wXs_14) c_27 e_S_28 dX5_payWithOneMore_47 (fun H locs hP hD hS => ?_)
          exact j48i3 x4_1 S_28 _ hk_3 _ _ hZ hP hD hS _ (lv_sub hl [1, 2, 3, 4] rfl)
  exact l_3 FU x3 S _ _ hw hP hD hS _ (lv_sub hl [1, 2, 3, 0] rfl)
theorem hd_X5_placeOf : yX5_placeOf.cls ≠ "java/lang/invoke/MethodHandle" ∧ yX5_placeOf.cls ≠ "java/lang/invoke/VarHandle" ∧ (parseMethodDescriptor yX5_placeOf.desc).map (fun d => d.parameters.length) = some 1 := by decide +kernel
-- X5_coinsOf
def f_X5_coinsOf_55 (x3_5 : Int32) (S_5 : St) : Option (Int32 × St) :=
  some (x3_5, S_5)
def f_X5_coinsOf_38i5 (x1 : Int32) (x2 : Int32) (x3_10 : Int32) (x4_10 : Int32) (s1_10 : Int32) (s2_10 : Int32) (S_10 : St) : Option ((Int32 × Int32 × St) ⊕ ((Int32 × St))) :=
  jx_a s1_10 8 (jx_l (u1 S_10 16 (Int32.toNatClampNeg s1_10) s2_10) (fun S_12 => jx_a x4_10 8 (jx_l (x3_10 + (S_12.1 16 (Int32.toNatClampNeg x4_10))) (fun x3_14 => jx_l (x4_10 + 1) (fun x4_15 => some (.inl (x3_14, x4_15, S_12)))))))
def b_X5_coinsOf_5 (x1 : Int32) (x2 : Int32) (x3 : Int32) (x4 : Int32) (S : St) : Option ((Int32 × Int32 × St) ⊕ ((Int32 × St))) :=
  (if (8 : Int32) ≤ x4 then some (.inr (x3, S)) else (if x2 ≤ x4 then f_X5_coinsOf_38i5 x1 x2 x3 x4 x4 (0 : Int32) S else jx_b2 (f_X5_placeOf x4 S) (fun r_19 S_17 => f_X5_coinsOf_38i5 x1 x2 x3 x4 x4 ((x1 >>> (r_19 &&& 31)) &&& (7 : Int32)) S_17)))
def g_X5_coinsOf_5 (x1 : Int32) (x2 : Int32) : (Int32 × Int32 × St) → Option ((Int32 × Int32 × St) ⊕ ((Int32 × St))) := fun z => b_X5_coinsOf_5 x1 x2 z.1 z.2.1 z.2.2
def f_X5_coinsOf (x1 : Int32) (x2 : Int32) (S : St) : Option (Int32 × St) :=
  jx_b (jx_w (g_X5_coinsOf_5 x1 x2) FU ((0 : Int32), (0 : Int32), S)) (fun z => f_X5_coinsOf_55 z.1 z.2)
set_option maxHeartbeats 4000000 in
set_option maxRecDepth 100000 in
theorem c_X5_coinsOf (l : Launch) (D : va_G) (q : Nat → Nat) (k : CI) (x1 : Int32) (x2 : Int32) (S : St) (sz : Nat) (Z : Int32 × St) (hZ : f_X5_coinsOf x1 x2 S = some Z) : MetI W_X SX l yX5_coinsOf wsX5_coinsOf { frames := 1, cells := 0, slots := 0, locals := 20 } [.ref (q 12), .int x1, .int x2] D q k S sz Z := by
  refine enter (cc := cX5_coinsOf) (maxL := 5) (ret := some .int) (by decide) rfl (Nat.le_of_ble_eq_true rfl) ?_
  intro p e s m below meth c A ls hx hb hr hts hown hlocks hml hP hK hD hA hS hsp hAe hl
  have hown : s.vm.findClass RX5 = some m.cls := hown
  have hl : lv_has ls 5 [(0, .ref (q 12)), (1, .int x1), (2, .int x2)] := hl
  have in5 : ∀ w ∈ wsX50, w ∈ wsX5_coinsOf := fun _ h => (List.mem_cons_of_mem _ (List.mem_append_right _ h))
  have j55 : ∀ (x3_5 : Int32) (S_5 : St)  (H : Heap) (locs : List Loc) (hZ : f_X5_coinsOf_55 x3_5 S_5 = some Z) (hP : va_P D vwCl (W_X q k S_5) H) (hD : va_D A (W_X q k S_5)) (hS : va_S A s.heap H locs) (ls : Array Slot) (hl : lv_has ls 5 [(3, .int x3_5)]), W p l e ({ frames := 1, cells := 0, slots := 0, locals := 20 } : Room) s m ([.ref (q 12), .int x1, .int x2] : List Value).toArray below meth c H locs 0 0 (MQ below (va_Qi (fun r u => (r, u) = Z) (fun u t => va_P D vwCl (W_X q k u) t.heap) A) ([.ref (q 12), .int x1, .int x2] : List Value).toArray s 0 0 A) (F0 m 55 ls []) := by
    intro x3_5 S_5   H locs hZ hP hD hS ls hl
    unfold f_X5_coinsOf_55 at hZ
    refine lv_iload_n hx hb dX5_coinsOf_55 rfl (lv_at hl 0 rfl) ?_
    exact leave_i hx hb hr hlocks hP hS hZ dX5_coinsOf_56
  unfold f_X5_coinsOf at hZ
  refine lv_iconst (v := (0 : Int32)) hx hb dX5_coinsOf_0 (by decide) ?_
  refine lv_istore_n (lv' := [(3, .int (0 : Int32)), (0, .ref (q 12)), (1, .int x1), (2, .int x2)]) hx hb dX5_coinsOf_1 rfl hl (by decide) rfl (fun ls hl => ?_)
  refine lv_iconst (v := (0 : Int32)) hx hb dX5_coinsOf_2 (by decide) ?_
  refine lv_istore (lv' := [(4, .int (0 : Int32)), (3, .int (0 : Int32)), (0, .ref (q 12)), (1, .int x1), (2, .int x2)]) hx hb dX5_coinsOf_3 hl (by decide) rfl (fun ls hl => ?_)
  obtain ⟨r_4, hw, hza_4⟩ := jx_b_some hZ
  have l_4 : ∀ (nn : Nat) (x3_1 : Int32) (x4_2 : Int32) (S_3 : St) (H : Heap) (locs : List Loc) (hw : jx_w (g_X5_coinsOf_5 x1 x2) nn (x3_1, x4_2, S_3) = some r_4) (hP : va_P D vwCl (W_X q k S_3) H) (hD : va_D A (W_X q k S_3)) (hS : va_S A s.heap H locs) (ls : Array Slot) (hl : lv_has ls 5 [(0, .ref (q 12)), (1, .int x1), (2, .int x2), (3, .int x3_1), (4, .int x4_2)]), W p l e ({ frames := 1, cells := 0, slots := 0, locals := 20 } : Room) s m ([.ref (q 12), .int x1, .int x2] : List Value).toArray below meth c H locs 0 0 (MQ below (va_Qi (fun r u => (r, u) = Z) (fun u t => va_P D vwCl (W_X q k u) t.heap) A) ([.ref (q 12), .int x1, .int x2] : List Value).toArray s 0 0 A) (F0 m 5 ls []) := by
    intro nn
    induction nn with
    | zero =>
      intro x3_1 x4_2 S_3 H locs hw hP hD hS ls hl
      exact jx_w_zero hw
    | succ n_4 ih_4 =>
      intro x3_1 x4_2 S_3 H locs hw hP hD hS ls hl
      obtain ⟨o_4, hZ, hk_4⟩ := jx_w_succ hw
      have hZ : b_X5_coinsOf_5 x1 x2 x3_1 x4_2 S_3 = some o_4 := hZ
      have j38i5 : ∀ (x3_24 : Int32) (x4_24 : Int32) (s1_24 : Int32) (s2_24 : Int32) (S_24 : St)  (o_4 : (Int32 × Int32 × St) ⊕ ((Int32 × St))) (hk_4 : jx_k (g_X5_coinsOf_5 x1 x2) n_4 r_4 o_4) (H : Heap) (locs : List Loc) (hZ : f_X5_coinsOf_38i5 x1 x2 x3_24 x4_24 s1_24 s2_24 S_24 = some o_4) (hP : va_P D vwCl (W_X q k S_24) H) (hD : va_D A (W_X q k S_24)) (hS : va_S A s.heap H locs) (ls : Array Slot) (hl : lv_has ls 5 [(0, .ref (q 12)), (1, .int x1), (2, .int x2), (3, .int x3_24), (4, .int x4_24)]), W p l e ({ frames := 1, cells := 0, slots := 0, locals := 20 } : Room) s m ([.ref (q 12), .int x1, .int x2] : List Value).toArray below meth c H locs 0 0 (MQ below (va_Qi (fun r u => (r, u) = Z) (fun u t => va_P D vwCl (W_X q k u) t.heap) A) ([.ref (q 12), .int x1, .int x2] : List Value).toArray s 0 0 A) (F0 m 38 ls [.int s2_24, .int s1_24, .ref (q 16)]) := by
        intro x3_24 x4_24 s1_24 s2_24 S_24  o_4 hk_4 H locs hZ hP hD hS ls hl
        unfold f_X5_coinsOf_38i5 at hZ
        obtain ⟨c_25, hZ⟩ := jx_a_some hZ
        obtain ⟨S_26, e_S_26, hZ⟩ := jx_l_some hZ
        refine X_iast hx hb hK hP hD hS wX_16 (fun _ => wXs_16) c_25 e_S_26 dX5_coinsOf_38 (fun H locs hP hD hS => ?_)
        refine lv_iload_n hx hb dX5_coinsOf_39 rfl (lv_at hl 3 rfl) ?_
        refine lv_aload_n hx hb dX5_coinsOf_40 rfl (lv_at hl 0 rfl) ?_
        refine gf_5_used hx hb hts in5 hown hK hP (hts (.fieldLink RX5 22 "CoinsOfLast$Payer" "used" "[I") (List.mem_of_getElem? (i := 1) rfl)) dX5_coinsOf_41 ?_
        refine lv_iload hx hb dX5_coinsOf_44 (lv_at hl 4 rfl) ?_
        obtain ⟨c_27, hZ⟩ := jx_a_some hZ
        refine X_iald hx hb hK hP wX_16 c_27 dX5_coinsOf_46 ?_
        refine lv_iadd hx hb dX5_coinsOf_47 ?_
        obtain ⟨x3_28, e_x3_28, hZ⟩ := jx_l_some hZ
        refine tx_i e_x3_28 ?_
        refine lv_istore_n (lv' := [(3, .int x3_28), (0, .ref (q 12)), (1, .int x1), (2, .int x2), (4, .int x4_24)]) hx hb dX5_coinsOf_48 rfl hl (by decide) rfl (fun ls hl => ?_)
        obtain ⟨x4_29, e_x4_29, hZ⟩ := jx_l_some hZ
        refine lv_iinc (v := x4_29) (lv' := [(4, .int x4_29), (3, .int x3_28), (0, .ref (q 12)), (1, .int x1), (2, .int x2)]) hx hb dX5_coinsOf_49 hl (k := 4) rfl (by rw [e_x4_29]; rfl) (by decide) rfl (fun ls hl => ?_)
        refine lv_goto (tgt := 5) hx hb dX5_coinsOf_52 (by decide) ?_
        have ho := Option.some.inj hZ
        subst ho
        exact ih_4 x3_28 x4_29 S_26 _ _ hk_4 hP hD hS _ (lv_sub hl [2, 3, 4, 1, 0] rfl)
      unfold b_X5_coinsOf_5 at hZ
      refine lv_iload hx hb dX5_coinsOf_5 (lv_at hl 4 rfl) ?_
      refine lv_bipush (v := (8 : Int32)) hx hb dX5_coinsOf_7 (by decide) ?_
      refine lv_icmp_ge (tgt := 55) hx hb dX5_coinsOf_9 (by decide) (fun c_21 => ?_) (fun c_21 => ?_)
      · have hZ := jx_i_pos c_21 hZ
        have ho := Option.some.inj hZ
        subst ho
        have hE := hza_4
        rw [← (show (x3_1, S_3) = r_4 from hk_4)] at hE
        have hZ : f_X5_coinsOf_55 x3_1 S_3 = some Z := hE
        exact j55 x3_1 S_3 _ _ hZ hP hD hS _ (lv_sub hl [3] rfl)
      · have hZ := jx_i_neg c_21 hZ
        refine lv_aload_n hx hb dX5_coinsOf_12 rfl (lv_at hl 0 rfl) ?_
        refine gf_5_used hx hb hts in5 hown hK hP (hts (.fieldLink RX5 22 "CoinsOfLast$Payer" "used" "[I") (List.mem_of_getElem? (i := 1) rfl)) dX5_coinsOf_13 ?_
        refine lv_iload hx hb dX5_coinsOf_16 (lv_at hl 4 rfl) ?_
        refine lv_iload hx hb dX5_coinsOf_18 (lv_at hl 4 rfl) ?_
        refine lv_iload_n hx hb dX5_coinsOf_20 rfl (lv_at hl 2 rfl) ?_
        refine lv_icmp_ge (tgt := 37) hx hb dX5_coinsOf_21 (by decide) (fun c_23 => ?_) (fun c_23 => ?_)
        · have hZ := jx_i_pos c_23 hZ
          refine lv_iconst (v := (0 : Int32)) hx hb dX5_coinsOf_37 (by decide) ?_
          exact j38i5 x3_1 x4_2 x4_2 (0 : Int32) S_3 _ hk_4 _ _ hZ hP hD hS _ (lv_sub hl [0, 1, 2, 3, 4] rfl)
        · have hZ := jx_i_neg c_23 hZ
          refine lv_iload_n hx hb dX5_coinsOf_24 rfl (lv_at hl 1 rfl) ?_
          refine lv_iload hx hb dX5_coinsOf_25 (lv_at hl 4 rfl) ?_
          obtain ⟨r_33, S_31, hc_32, hZ⟩ := jx_b2_some hZ
          refine call_Si SX_ok sameX ⟨hx, hb, hml, hown, hts⟩ (c_X5_placeOf l D q k x4_2 S_3 _ (r_33, S_31)  hc_32) (va_cwS 1 hts gX5_coinsOf_X5_placeOf rfl rfl rfl hd_X5_placeOf ⟨Nat.le_of_ble_eq_true rfl, Nat.le_of_ble_eq_true rfl⟩) hK hP hD hS hA hsp (As := [.int x4_2]) rfl hl.1 rfl (Nat.le_of_ble_eq_true rfl) dX5_coinsOf_27 ⟨Nat.zero_le _, Nat.zero_le _⟩ (fun H locs hP hD hS => ?_)
          refine lv_ishr hx hb dX5_coinsOf_30 ?_
          refine lv_bipush (v := (7 : Int32)) hx hb dX5_coinsOf_31 (by decide) ?_
          refine lv_iand hx hb dX5_coinsOf_33 ?_
          refine lv_goto (tgt := 38) hx hb dX5_coinsOf_34 (by decide) ?_
          exact j38i5 x3_1 x4_2 x4_2 ((x1 >>> (r_33 &&& 31)) &&& (7 : Int32)) S_31 _ hk_4 _ _ hZ hP hD hS _ (lv_sub hl [0, 1, 2, 3, 4] rfl)
  exact l_4 FU (0 : Int32) (0 : Int32) S _ _ hw hP hD hS _ (lv_sub hl [2, 3, 4, 1, 0] rfl)
theorem hd_J7_fill_fda19 : yJ7_fill_fda19.cls ≠ "java/lang/invoke/MethodHandle" ∧ yJ7_fill_fda19.cls ≠ "java/lang/invoke/VarHandle" ∧ (parseMethodDescriptor yJ7_fill_fda19.desc).map (fun d => d.parameters.length) = some 4 := by decide +kernel
theorem hd_X5_coinsOf : yX5_coinsOf.cls = RX5 ∧ yX5_coinsOf.cls ≠ "java/lang/invoke/MethodHandle" ∧ yX5_coinsOf.cls ≠ "java/lang/invoke/VarHandle" ∧ (parseMethodDescriptor yX5_coinsOf.desc).map (fun d => d.parameters.length) = some 2 := by decide +kernel
theorem hd_X5_payWithOneMore : yX5_payWithOneMore.cls = RX5 ∧ yX5_payWithOneMore.cls ≠ "java/lang/invoke/MethodHandle" ∧ yX5_payWithOneMore.cls ≠ "java/lang/invoke/VarHandle" ∧ (parseMethodDescriptor yX5_payWithOneMore.desc).map (fun d => d.parameters.length) = some 3 := by decide +kernel
-- X5_pay
def f_X5_pay_128 (x3_12 : Int32) (S_12 : St) : Option (Int32 × St) :=
  jx_a x3_12 1921 ((if (S_12.1 14 (Int32.toNatClampNeg x3_12)) = (-2147483648 : Int32) then some ((-2 : Int32), S_12) else jx_a x3_12 1921 (jx_b2 (f_X5_coinsOf (S_12.1 14 (Int32.toNatClampNeg x3_12)) (S_12.1 1 5) S_12) (fun r_18 S_16 => some (r_18, S_16)))))
def f_X5_pay_122i37 (x2 : Int32) (x3 : Int32) (x4 : Int32) (x5_34 : Int32) (S_34 : St) : Option ((Int32 × St) ⊕ (St)) :=
  jx_l (x5_34 + 1) (fun x5_35 => some (.inl (x5_35, S_34)))
def b_X5_pay_95 (x2 : Int32) (x3 : Int32) (x4 : Int32) (x5 : Int32) (x6 : Int32) (x7 : Int32) (x8 : Int32) (S : St) : Option ((Int32 × St) ⊕ (St)) :=
  (if x6 ≤ x8 then some (.inr S) else jx_a x5 8 (jx_b (f_X5_payWithOneMore (S.1 3 (Int32.toNatClampNeg x5)) x7 x3 S) (fun S_40 => jx_l (x8 + 1) (fun x8_42 => some (.inl (x8_42, S_40))))))
def g_X5_pay_95 (x2 : Int32) (x3 : Int32) (x4 : Int32) (x5 : Int32) (x6 : Int32) (x7 : Int32) : (Int32 × St) → Option ((Int32 × St) ⊕ (St)) := fun z => b_X5_pay_95 x2 x3 x4 x5 x6 x7 z.1 z.2
def f_X5_pay_82i37 (x2 : Int32) (x3 : Int32) (x4 : Int32) (x5_26 : Int32) (x6_26 : Int32) (s0_26 : Int32) (S_26 : St) : Option ((Int32 × St) ⊕ (St)) :=
  jx_b2 (f_X5_placeOf x5_26 S_26) (fun r_29 S_27 => jx_l (s0_26 + ((1 : Int32) <<< (r_29 &&& 31))) (fun x7_30 => jx_b (jx_w (g_X5_pay_95 x2 x3 x4 x5_26 x6_26 x7_30) FU ((0 : Int32), S_27)) (fun z => f_X5_pay_122i37 x2 x3 x4 x5_26 z)))
def f_X5_pay_68i37 (x2 : Int32) (x3 : Int32) (x4 : Int32) (x5_24 : Int32) (s0_24 : Int32) (S_24 : St) : Option ((Int32 × St) ⊕ (St)) :=
  (if x4 = 0 then f_X5_pay_82i37 x2 x3 x4 x5_24 s0_24 (-16777216 : Int32) S_24 else f_X5_pay_82i37 x2 x3 x4 x5_24 s0_24 (16777216 : Int32) S_24)
def b_X5_pay_37 (x2 : Int32) (x3 : Int32) (x4 : Int32) (x5 : Int32) (S : St) : Option ((Int32 × St) ⊕ (St)) :=
  (if (S.1 1 5) ≤ x5 then some (.inr S) else jx_a x5 8 ((if (S.1 2 (Int32.toNatClampNeg x5)) = x2 then jx_a x5 8 (f_X5_pay_68i37 x2 x3 x4 x5 (S.1 6 (Int32.toNatClampNeg x5)) S) else f_X5_pay_68i37 x2 x3 x4 x5 (0 : Int32) S)))
def g_X5_pay_37 (x2 : Int32) (x3 : Int32) (x4 : Int32) : (Int32 × St) → Option ((Int32 × St) ⊕ (St)) := fun z => b_X5_pay_37 x2 x3 x4 z.1 z.2
def f_X5_pay (x2 : Int32) (x3 : Int32) (x4 : Int32) (S : St) : Option (Int32 × St) :=
  jx_b2 (f_X11_within x3 (0 : Int32) (1920 : Int32) S) (fun r_3 S_1 => (if r_3 = 0 then some ((-2 : Int32), S_1) else jx_b (f_J7_fill_fda19 (0 : Int32) (x3 + (1 : Int32)) (-2147483648 : Int32) S_1) (fun S_5 => jx_a (0 : Int32) 1921 (jx_l (u1 S_5 14 (Int32.toNatClampNeg (0 : Int32)) (0 : Int32)) (fun S_8 => jx_b (jx_w (g_X5_pay_37 x2 x3 x4) FU ((0 : Int32), S_8)) (fun z => f_X5_pay_128 x3 z))))))
theorem gX5_pay_X11_within : GoodIn wsX5_pay wsX11_within := goodIn_r _ [7] rfl (by decide +kernel)
set_option maxHeartbeats 4000000 in
set_option maxRecDepth 100000 in
theorem c_X5_pay (l : Launch) (D : va_G) (q : Nat → Nat) (k : CI) (x2 : Int32) (x3 : Int32) (x4 : Int32) (S : St) (sz : Nat) (Z : Int32 × St) (hZ : f_X5_pay x2 x3 x4 S = some Z) : MetI W_X SX l yX5_pay wsX5_pay { frames := 2, cells := 0, slots := 0, locals := 46 } [.ref (q 12), .ref (q 1), .int x2, .int x3, .int x4] D q k S sz Z := by
  refine enter (cc := cX5_pay) (maxL := 9) (ret := some .int) (by decide) rfl (Nat.le_of_ble_eq_true rfl) ?_
  intro p e s m below meth c A ls hx hb hr hts hown hlocks hml hP hK hD hA hS hsp hAe hl
  have hown : s.vm.findClass RX5 = some m.cls := hown
  have hl : lv_has ls 9 [(0, .ref (q 12)), (1, .ref (q 1)), (2, .int x2), (3, .int x3), (4, .int x4)] := hl
  have in1 : ∀ w ∈ wsX10, w ∈ wsX5_pay := fun _ h => (List.mem_cons_of_mem _ (List.mem_append_right _ h))
  have in5 : ∀ w ∈ wsX50, w ∈ wsX5_pay := fun _ h => (List.mem_cons_of_mem _ (List.mem_append_left _ (List.mem_append_right _ h)))
  have j128 : ∀ (x3_12 : Int32) (S_12 : St)  (H : Heap) (locs : List Loc) (hZ : f_X5_pay_128 x3_12 S_12 = some Z) (hP : va_P D vwCl (W_X q k S_12) H) (hD : va_D A (W_X q k S_12)) (hS : va_S A s.heap H locs) (ls : Array Slot) (hl : lv_has ls 9 [(0, .ref (q 12)), (1, .ref (q 1)), (3, .int x3_12)]), W p l e ({ frames := 2, cells := 0, slots := 0, locals := 46 } : Room) s m ([.ref (q 12), .ref (q 1), .int x2, .int x3, .int x4] : List Value).toArray below meth c H locs 0 0 (MQ below (va_Qi (fun r u => (r, u) = Z) (fun u t => va_P D vwCl (W_X q k u) t.heap) A) ([.ref (q 12), .ref (q 1), .int x2, .int x3, .int x4] : List Value).toArray s 0 0 A) (F0 m 128 ls []) := by
    intro x3_12 S_12   H locs hZ hP hD hS ls hl
    unfold f_X5_pay_128 at hZ
    refine lv_aload_n hx hb dX5_pay_128 rfl (lv_at hl 0 rfl) ?_
    refine gf_5_best hx hb hts in5 hown hK hP (hts (.fieldLink RX5 15 "CoinsOfLast$Payer" "best" "[I") (List.mem_of_getElem? (i := 1) rfl)) dX5_pay_129 ?_
    refine lv_iload_n hx hb dX5_pay_132 rfl (lv_at hl 2 rfl) ?_
    obtain ⟨c_13, hZ⟩ := jx_a_some hZ
    refine X_iald hx hb hK hP wX_14 c_13 dX5_pay_133 ?_
    refine lv_ldc (v := (-2147483648 : Int32)) hx hb hown (hts (.constant RX5 64 (-2147483648)) (List.mem_of_getElem? (i := 2) rfl)) dX5_pay_134 ?_
    refine lv_icmp_ne (tgt := 144) hx hb dX5_pay_136 (by decide) (fun c_14 => ?_) (fun c_14 => ?_)
    · have hZ := jx_i_neg c_14 hZ
      refine lv_aload_n hx hb dX5_pay_144 rfl (lv_at hl 0 rfl) ?_
      refine lv_aload_n hx hb dX5_pay_145 rfl (lv_at hl 0 rfl) ?_
      refine gf_5_best hx hb hts in5 hown hK hP (hts (.fieldLink RX5 15 "CoinsOfLast$Payer" "best" "[I") (List.mem_of_getElem? (i := 1) rfl)) dX5_pay_146 ?_
      refine lv_iload_n hx hb dX5_pay_149 rfl (lv_at hl 2 rfl) ?_
      obtain ⟨c_15, hZ⟩ := jx_a_some hZ
      refine X_iald hx hb hK hP wX_14 c_15 dX5_pay_150 ?_
      refine lv_aload_n hx hb dX5_pay_151 rfl (lv_at hl 1 rfl) ?_
      refine gn_1_known hx hb hts in1 hown hK hP (hsp.1 _ (List.mem_of_getElem? (i := 13) rfl)) dX5_pay_152 ?_
      obtain ⟨r_18, S_16, hc_17, hZ⟩ := jx_b2_some hZ
      refine call_Vi SX_ok sameX ⟨hx, hb, hml, hown, hts⟩ (c_X5_coinsOf l D q k (S_12.1 14 (Int32.toNatClampNeg x3_12)) (S_12.1 1 5) S_12 _ (r_18, S_16)  hc_17) (cwV 2 hts gX5_pay_X5_coinsOf rfl rfl rfl hd_X5_coinsOf ⟨Nat.le_of_ble_eq_true rfl, Nat.le_of_ble_eq_true rfl⟩) hK hP hD hS hA hsp (va_recv hK hP (ci := 5) (q0 := 12) rfl wX_12) (As := [.int (S_12.1 14 (Int32.toNatClampNeg x3_12)), .int (S_12.1 1 5)]) rfl hl.1 rfl (Nat.le_of_ble_eq_true rfl) dX5_pay_155 ⟨Nat.zero_le _, Nat.zero_le _⟩ (fun H locs hP hD hS => ?_)
      exact leave_i hx hb hr hlocks hP hS hZ dX5_pay_158
    · have hZ := jx_i_pos c_14 hZ
      refine lv_bipush (v := (-2 : Int32)) hx hb dX5_pay_139 (by decide) ?_
      refine lv_goto (tgt := 158) hx hb dX5_pay_141 (by decide) ?_
      exact leave_i hx hb hr hlocks hP hS hZ dX5_pay_158
  unfold f_X5_pay at hZ
  refine lv_iload_n hx hb dX5_pay_0 rfl (lv_at hl 3 rfl) ?_
  refine lv_iconst (v := (0 : Int32)) hx hb dX5_pay_1 (by decide) ?_
  refine lv_sipush (v := (1920 : Int32)) hx hb dX5_pay_2 (by decide) ?_
  obtain ⟨r_3, S_1, hc_2, hZ⟩ := jx_b2_some hZ
  refine call_Ni SX_ok sameX ⟨hx, hb, hml, hown, hts⟩ (c_X11_within l D q k x3 (0 : Int32) (1920 : Int32) S _ (r_3, S_1)  hc_2) (va_cnB 3 hts gX5_pay_X11_within rfl rfl rfl (hsp.1 _ (List.mem_of_getElem? (i := 73) rfl)) (hts _ (List.mem_of_getElem? (i := 6) rfl)) hd_X11_within ⟨Nat.le_of_ble_eq_true rfl, Nat.le_of_ble_eq_true rfl⟩) (hts _ (List.mem_of_getElem? (i := 5) rfl)) hK hP hD hS hA hsp (As := [.int x3, .int (0 : Int32), .int (1920 : Int32)]) rfl hl.1 rfl (Nat.le_of_ble_eq_true rfl) dX5_pay_5 ⟨Nat.zero_le _, Nat.zero_le _⟩ (fun H locs hP hD hS => ?_)
  refine lv_if_ne (tgt := 14) hx hb dX5_pay_8 (by decide) (fun c_4 => ?_) (fun c_4 => ?_)
  · have hZ := jx_i_neg c_4 hZ
    refine lv_aload_n hx hb dX5_pay_14 rfl (lv_at hl 0 rfl) ?_
    refine gf_5_best hx hb hts in5 hown hK hP (hts (.fieldLink RX5 15 "CoinsOfLast$Payer" "best" "[I") (List.mem_of_getElem? (i := 1) rfl)) dX5_pay_15 ?_
    refine lv_iconst (v := (0 : Int32)) hx hb dX5_pay_18 (by decide) ?_
    refine lv_iload_n hx hb dX5_pay_19 rfl (lv_at hl 3 rfl) ?_
    refine lv_iconst (v := (1 : Int32)) hx hb dX5_pay_20 (by decide) ?_
    refine lv_iadd hx hb dX5_pay_21 ?_
    refine lv_ldc (v := (-2147483648 : Int32)) hx hb hown (hts (.constant RX5 64 (-2147483648)) (List.mem_of_getElem? (i := 2) rfl)) dX5_pay_22 ?_
    obtain ⟨S_5, hc_6, hZ⟩ := jx_b_some hZ
    refine call_Sv SX_ok sameX ⟨hx, hb, hml, hown, hts⟩ (c_J7_fill_fda19 l D q k (0 : Int32) (x3 + (1 : Int32)) (-2147483648 : Int32) S_1 _ S_5  hc_6) (va_cwS 4 hts gX5_pay_J7_fill_fda19 rfl rfl rfl hd_J7_fill_fda19 ⟨Nat.le_of_ble_eq_true rfl, Nat.le_of_ble_eq_true rfl⟩) hK hP hD hS hA hsp (As := [.ref (q 14), .int (0 : Int32), .int (x3 + (1 : Int32)), .int (-2147483648 : Int32)]) rfl hl.1 rfl (Nat.le_of_ble_eq_true rfl) dX5_pay_24 ⟨Nat.zero_le _, Nat.zero_le _⟩ (fun H locs hP hD hS => ?_)
    refine lv_aload_n hx hb dX5_pay_27 rfl (lv_at hl 0 rfl) ?_
    refine gf_5_best hx hb hts in5 hown hK hP (hts (.fieldLink RX5 15 "CoinsOfLast$Payer" "best" "[I") (List.mem_of_getElem? (i := 1) rfl)) dX5_pay_28 ?_
    refine lv_iconst (v := (0 : Int32)) hx hb dX5_pay_31 (by decide) ?_
    refine lv_iconst (v := (0 : Int32)) hx hb dX5_pay_32 (by decide) ?_
    obtain ⟨c_7, hZ⟩ := jx_a_some hZ
    obtain ⟨S_8, e_S_8, hZ⟩ := jx_l_some hZ
    refine X_iast hx hb hK hP hD hS wX_14 (fun _ => wXs_14) c_7 e_S_8 dX5_pay_33 (fun H locs hP hD hS => ?_)
    refine lv_iconst (v := (0 : Int32)) hx hb dX5_pay_34 (by decide) ?_
    refine lv_istore (lv' := [(5, .int (0 : Int32)), (0, .ref (q 12)), (1, .ref (q 1)), (2, .int x2), (3, .int x3), (4, .int x4)]) hx hb dX5_pay_35 hl (by decide) rfl (fun ls hl => ?_)
    obtain ⟨r_11, hw, hza_11⟩ := jx_b_some hZ
    have l_11 : ∀ (nn : Nat) (x5_9 : Int32) (S_10 : St) (H : Heap) (locs : List Loc) (hw : jx_w (g_X5_pay_37 x2 x3 x4) nn (x5_9, S_10) = some r_11) (hP : va_P D vwCl (W_X q k S_10) H) (hD : va_D A (W_X q k S_10)) (hS : va_S A s.heap H locs) (ls : Array Slot) (hl : lv_has ls 9 [(0, .ref (q 12)), (1, .ref (q 1)), (2, .int x2), (3, .int x3), (4, .int x4), (5, .int x5_9)]), W p l e ({ frames := 2, cells := 0, slots := 0, locals := 46 } : Room) s m ([.ref (q 12), .ref (q 1), .int x2, .int x3, .int x4] : List Value).toArray below meth c H locs 0 0 (MQ below (va_Qi (fun r u => (r, u) = Z) (fun u t => va_P D vwCl (W_X q k u) t.heap) A) ([.ref (q 12), .ref (q 1), .int x2, .int x3, .int x4] : List Value).toArray s 0 0 A) (F0 m 37 ls []) := by
      intro nn
      induction nn with
      | zero =>
        intro x5_9 S_10 H locs hw hP hD hS ls hl
        exact jx_w_zero hw
      | succ n_11 ih_11 =>
        intro x5_9 S_10 H locs hw hP hD hS ls hl
        obtain ⟨o_11, hZ, hk_11⟩ := jx_w_succ hw
        have hZ : b_X5_pay_37 x2 x3 x4 x5_9 S_10 = some o_11 := hZ
        have j122i37 : ∀ (x5_68 : Int32) (S_68 : St)  (o_11 : (Int32 × St) ⊕ (St)) (hk_11 : jx_k (g_X5_pay_37 x2 x3 x4) n_11 r_11 o_11) (H : Heap) (locs : List Loc) (hZ : f_X5_pay_122i37 x2 x3 x4 x5_68 S_68 = some o_11) (hP : va_P D vwCl (W_X q k S_68) H) (hD : va_D A (W_X q k S_68)) (hS : va_S A s.heap H locs) (ls : Array Slot) (hl : lv_has ls 9 [(0, .ref (q 12)), (1, .ref (q 1)), (2, .int x2), (3, .int x3), (4, .int x4), (5, .int x5_68)]), W p l e ({ frames := 2, cells := 0, slots := 0, locals := 46 } : Room) s m ([.ref (q 12), .ref (q 1), .int x2, .int x3, .int x4] : List Value).toArray below meth c H locs 0 0 (MQ below (va_Qi (fun r u => (r, u) = Z) (fun u t => va_P D vwCl (W_X q k u) t.heap) A) ([.ref (q 12), .ref (q 1), .int x2, .int x3, .int x4] : List Value).toArray s 0 0 A) (F0 m 122 ls []) := by
          intro x5_68 S_68  o_11 hk_11 H locs hZ hP hD hS ls hl
          unfold f_X5_pay_122i37 at hZ
          obtain ⟨x5_69, e_x5_69, hZ⟩ := jx_l_some hZ
          refine lv_iinc (v := x5_69) (lv' := [(5, .int x5_69), (0, .ref (q 12)), (1, .ref (q 1)), (2, .int x2), (3, .int x3), (4, .int x4)]) hx hb dX5_pay_122 hl (k := 5) rfl (by rw [e_x5_69]; rfl) (by decide) rfl (fun ls hl => ?_)
          refine lv_goto (tgt := 37) hx hb dX5_pay_125 (by decide) ?_
          have ho := Option.some.inj hZ
          subst ho
          exact ih_11 x5_69 S_68 _ _ hk_11 hP hD hS _ (lv_sub hl [1, 2, 3, 4, 5, 0] rfl)
        have j82i37 : ∀ (x5_60 : Int32) (x6_60 : Int32) (s0_60 : Int32) (S_60 : St)  (o_11 : (Int32 × St) ⊕ (St)) (hk_11 : jx_k (g_X5_pay_37 x2 x3 x4) n_11 r_11 o_11) (H : Heap) (locs : List Loc) (hZ : f_X5_pay_82i37 x2 x3 x4 x5_60 x6_60 s0_60 S_60 = some o_11) (hP : va_P D vwCl (W_X q k S_60) H) (hD : va_D A (W_X q k S_60)) (hS : va_S A s.heap H locs) (ls : Array Slot) (hl : lv_has ls 9 [(0, .ref (q 12)), (1, .ref (q 1)), (2, .int x2), (3, .int x3), (4, .int x4), (5, .int x5_60), (6, .int x6_60)]), W p l e ({ frames := 2, cells := 0, slots := 0, locals := 46 } : Room) s m ([.ref (q 12), .ref (q 1), .int x2, .int x3, .int x4] : List Value).toArray below meth c H locs 0 0 (MQ below (va_Qi (fun r u => (r, u) = Z) (fun u t => va_P D vwCl (W_X q k u) t.heap) A) ([.ref (q 12), .ref (q 1), .int x2, .int x3, .int x4] : List Value).toArray s 0 0 A) (F0 m 82 ls [.int s0_60]) := by
          intro x5_60 x6_60 s0_60 S_60  o_11 hk_11 H locs hZ hP hD hS ls hl
          unfold f_X5_pay_82i37 at hZ
          refine lv_iconst (v := (1 : Int32)) hx hb dX5_pay_82 (by decide) ?_
          refine lv_iload hx hb dX5_pay_83 (lv_at hl 5 rfl) ?_
          obtain ⟨r_63, S_61, hc_62, hZ⟩ := jx_b2_some hZ
          refine call_Si SX_ok sameX ⟨hx, hb, hml, hown, hts⟩ (c_X5_placeOf l D q k x5_60 S_60 _ (r_63, S_61)  hc_62) (va_cwS 1 hts gX5_pay_X5_placeOf rfl rfl rfl hd_X5_placeOf ⟨Nat.le_of_ble_eq_true rfl, Nat.le_of_ble_eq_true rfl⟩) hK hP hD hS hA hsp (As := [.int x5_60]) rfl hl.1 rfl (Nat.le_of_ble_eq_true rfl) dX5_pay_85 ⟨Nat.zero_le _, Nat.zero_le _⟩ (fun H locs hP hD hS => ?_)
          refine lv_ishl hx hb dX5_pay_88 ?_
          refine lv_iadd hx hb dX5_pay_89 ?_
          obtain ⟨x7_64, e_x7_64, hZ⟩ := jx_l_some hZ
          refine tx_i e_x7_64 ?_
          refine lv_istore (lv' := [(7, .int x7_64), (0, .ref (q 12)), (1, .ref (q 1)), (2, .int x2), (3, .int x3), (4, .int x4), (5, .int x5_60), (6, .int x6_60)]) hx hb dX5_pay_90 hl (by decide) rfl (fun ls hl => ?_)
          refine lv_iconst (v := (0 : Int32)) hx hb dX5_pay_92 (by decide) ?_
          refine lv_istore (lv' := [(8, .int (0 : Int32)), (7, .int x7_64), (0, .ref (q 12)), (1, .ref (q 1)), (2, .int x2), (3, .int x3), (4, .int x4), (5, .int x5_60), (6, .int x6_60)]) hx hb dX5_pay_93 hl (by decide) rfl (fun ls hl => ?_)
          obtain ⟨r_67, hw, hza_67⟩ := jx_b_some hZ
          have l_67 : ∀ (nn : Nat) (x8_65 : Int32) (S_66 : St) (H : Heap) (locs : List Loc) (hw : jx_w (g_X5_pay_95 x2 x3 x4 x5_60 x6_60 x7_64) nn (x8_65, S_66) = some r_67) (hP : va_P D vwCl (W_X q k S_66) H) (hD : va_D A (W_X q k S_66)) (hS : va_S A s.heap H locs) (ls : Array Slot) (hl : lv_has ls 9 [(0, .ref (q 12)), (1, .ref (q 1)), (2, .int x2), (3, .int x3), (4, .int x4), (5, .int x5_60), (6, .int x6_60), (7, .int x7_64), (8, .int x8_65)]), W p l e ({ frames := 2, cells := 0, slots := 0, locals := 46 } : Room) s m ([.ref (q 12), .ref (q 1), .int x2, .int x3, .int x4] : List Value).toArray below meth c H locs 0 0 (MQ below (va_Qi (fun r u => (r, u) = Z) (fun u t => va_P D vwCl (W_X q k u) t.heap) A) ([.ref (q 12), .ref (q 1), .int x2, .int x3, .int x4] : List Value).toArray s 0 0 A) (F0 m 95 ls []) := by
            intro nn
            induction nn with
            | zero =>
              intro x8_65 S_66 H locs hw hP hD hS ls hl
              exact jx_w_zero hw
            | succ n_67 ih_67 =>
              intro x8_65 S_66 H locs hw hP hD hS ls hl
              obtain ⟨o_67, hZ, hk_67⟩ := jx_w_succ hw
              have hZ : b_X5_pay_95 x2 x3 x4 x5_60 x6_60 x7_64 x8_65 S_66 = some o_67 := hZ
              unfold b_X5_pay_95 at hZ
              refine lv_iload hx hb dX5_pay_95 (lv_at hl 8 rfl) ?_
              refine lv_iload hx hb dX5_pay_97 (lv_at hl 6 rfl) ?_
              refine lv_icmp_ge (tgt := 122) hx hb dX5_pay_99 (by decide) (fun c_77 => ?_) (fun c_77 => ?_)
              · have hZ := jx_i_pos c_77 hZ
                have ho := Option.some.inj hZ
                subst ho
                have hE := hza_67
                rw [← (show S_66 = r_67 from hk_67)] at hE
                have hZ : f_X5_pay_122i37 x2 x3 x4 x5_60 S_66 = some o_11 := hE
                exact j122i37 x5_60 S_66 _ hk_11 _ _ hZ hP hD hS _ (lv_sub hl [0, 1, 2, 3, 4, 5] rfl)
              · have hZ := jx_i_neg c_77 hZ
                refine lv_aload_n hx hb dX5_pay_102 rfl (lv_at hl 0 rfl) ?_
                refine lv_aload_n hx hb dX5_pay_103 rfl (lv_at hl 1 rfl) ?_
                refine gn_1_worth hx hb hts in1 hown hK hP (hsp.1 _ (List.mem_of_getElem? (i := 4) rfl)) dX5_pay_104 ?_
                refine lv_iload hx hb dX5_pay_107 (lv_at hl 5 rfl) ?_
                obtain ⟨c_79, hZ⟩ := jx_a_some hZ
                refine X_iald hx hb hK hP wX_3 c_79 dX5_pay_109 ?_
                refine lv_iload hx hb dX5_pay_110 (lv_at hl 7 rfl) ?_
                refine lv_iload_n hx hb dX5_pay_112 rfl (lv_at hl 3 rfl) ?_
                obtain ⟨S_80, hc_81, hZ⟩ := jx_b_some hZ
                refine call_Vv SX_ok sameX ⟨hx, hb, hml, hown, hts⟩ (c_X5_payWithOneMore l D q k (S_66.1 3 (Int32.toNatClampNeg x5_60)) x7_64 x3 S_66 _ S_80  hc_81) (cwV 3 hts gX5_pay_X5_payWithOneMore rfl rfl rfl hd_X5_payWithOneMore ⟨Nat.le_of_ble_eq_true rfl, Nat.le_of_ble_eq_true rfl⟩) hK hP hD hS hA hsp (va_recv hK hP (ci := 5) (q0 := 12) rfl wX_12) (As := [.int (S_66.1 3 (Int32.toNatClampNeg x5_60)), .int x7_64, .int x3]) rfl hl.1 rfl (Nat.le_of_ble_eq_true rfl) dX5_pay_113 ⟨Nat.zero_le _, Nat.zero_le _⟩ (fun H locs hP hD hS => ?_)
                obtain ⟨x8_82, e_x8_82, hZ⟩ := jx_l_some hZ
                refine lv_iinc (v := x8_82) (lv' := [(8, .int x8_82), (0, .ref (q 12)), (1, .ref (q 1)), (2, .int x2), (3, .int x3), (4, .int x4), (5, .int x5_60), (6, .int x6_60), (7, .int x7_64)]) hx hb dX5_pay_116 hl (k := 8) rfl (by rw [e_x8_82]; rfl) (by decide) rfl (fun ls hl => ?_)
                refine lv_goto (tgt := 95) hx hb dX5_pay_119 (by decide) ?_
                have ho := Option.some.inj hZ
                subst ho
                exact ih_67 x8_82 S_80 _ _ hk_67 hP hD hS _ (lv_sub hl [1, 2, 3, 4, 5, 6, 7, 8, 0] rfl)
          exact l_67 FU (0 : Int32) S_61 _ _ hw hP hD hS _ (lv_sub hl [2, 3, 4, 5, 6, 7, 8, 1, 0] rfl)
        have j68i37 : ∀ (x5_58 : Int32) (s0_58 : Int32) (S_58 : St)  (o_11 : (Int32 × St) ⊕ (St)) (hk_11 : jx_k (g_X5_pay_37 x2 x3 x4) n_11 r_11 o_11) (H : Heap) (locs : List Loc) (hZ : f_X5_pay_68i37 x2 x3 x4 x5_58 s0_58 S_58 = some o_11) (hP : va_P D vwCl (W_X q k S_58) H) (hD : va_D A (W_X q k S_58)) (hS : va_S A s.heap H locs) (ls : Array Slot) (hl : lv_has ls 9 [(0, .ref (q 12)), (1, .ref (q 1)), (2, .int x2), (3, .int x3), (4, .int x4), (5, .int x5_58)]), W p l e ({ frames := 2, cells := 0, slots := 0, locals := 46 } : Room) s m ([.ref (q 12), .ref (q 1), .int x2, .int x3, .int x4] : List Value).toArray below meth c H locs 0 0 (MQ below (va_Qi (fun r u => (r, u) = Z) (fun u t => va_P D vwCl (W_X q k u) t.heap) A) ([.ref (q 12), .ref (q 1), .int x2, .int x3, .int x4] : List Value).toArray s 0 0 A) (F0 m 68 ls [.int s0_58]) := by
          intro x5_58 s0_58 S_58  o_11 hk_11 H locs hZ hP hD hS ls hl
          unfold f_X5_pay_68i37 at hZ
          refine lv_istore (lv' := [(6, .int s0_58), (0, .ref (q 12)), (1, .ref (q 1)), (2, .int x2), (3, .int x3), (4, .int x4), (5, .int x5_58)]) hx hb dX5_pay_68 hl (by decide) rfl (fun ls hl => ?_)
          refine lv_iload hx hb dX5_pay_70 (lv_at hl 5 rfl) ?_
          refine lv_if_eq (tgt := 80) hx hb dX5_pay_72 (by decide) (fun c_59 => ?_) (fun c_59 => ?_)
          · have hZ := jx_i_pos c_59 hZ
            refine lv_ldc (v := (-16777216 : Int32)) hx hb hown (hts (.constant RX5 72 (-16777216)) (List.mem_of_getElem? (i := 4) rfl)) dX5_pay_80 ?_
            exact j82i37 x5_58 s0_58 (-16777216 : Int32) S_58 _ hk_11 _ _ hZ hP hD hS _ (lv_sub hl [1, 2, 3, 4, 5, 6, 0] rfl)
          · have hZ := jx_i_neg c_59 hZ
            refine lv_ldc (v := (16777216 : Int32)) hx hb hown (hts (.constant RX5 71 (16777216)) (List.mem_of_getElem? (i := 3) rfl)) dX5_pay_75 ?_
            refine lv_goto (tgt := 82) hx hb dX5_pay_77 (by decide) ?_
            exact j82i37 x5_58 s0_58 (16777216 : Int32) S_58 _ hk_11 _ _ hZ hP hD hS _ (lv_sub hl [1, 2, 3, 4, 5, 6, 0] rfl)
        unfold b_X5_pay_37 at hZ
        refine lv_iload hx hb dX5_pay_37 (lv_at hl 5 rfl) ?_
        refine lv_aload_n hx hb dX5_pay_39 rfl (lv_at hl 1 rfl) ?_
        refine gn_1_known hx hb hts in1 hown hK hP (hsp.1 _ (List.mem_of_getElem? (i := 13) rfl)) dX5_pay_40 ?_
        refine lv_icmp_ge (tgt := 128) hx hb dX5_pay_43 (by decide) (fun c_54 => ?_) (fun c_54 => ?_)
        · have hZ := jx_i_pos c_54 hZ
          have ho := Option.some.inj hZ
          subst ho
          have hE := hza_11
          rw [← (show S_10 = r_11 from hk_11)] at hE
          have hZ : f_X5_pay_128 x3 S_10 = some Z := hE
          exact j128 x3 S_10 _ _ hZ hP hD hS _ (lv_sub hl [0, 1, 3] rfl)
        · have hZ := jx_i_neg c_54 hZ
          refine lv_aload_n hx hb dX5_pay_46 rfl (lv_at hl 1 rfl) ?_
          refine gn_1_land hx hb hts in1 hown hK hP (hsp.1 _ (List.mem_of_getElem? (i := 1) rfl)) dX5_pay_47 ?_
          refine lv_iload hx hb dX5_pay_50 (lv_at hl 5 rfl) ?_
          obtain ⟨c_56, hZ⟩ := jx_a_some hZ
          refine X_iald hx hb hK hP wX_2 c_56 dX5_pay_52 ?_
          refine lv_iload_n hx hb dX5_pay_53 rfl (lv_at hl 2 rfl) ?_
          refine lv_icmp_ne (tgt := 67) hx hb dX5_pay_54 (by decide) (fun c_57 => ?_) (fun c_57 => ?_)
          · have hZ := jx_i_neg c_57 hZ
            refine lv_iconst (v := (0 : Int32)) hx hb dX5_pay_67 (by decide) ?_
            exact j68i37 x5_9 (0 : Int32) S_10 _ hk_11 _ _ hZ hP hD hS _ (lv_sub hl [0, 1, 2, 3, 4, 5] rfl)
          · have hZ := jx_i_pos c_57 hZ
            refine lv_aload_n hx hb dX5_pay_57 rfl (lv_at hl 1 rfl) ?_
            refine gn_1_held hx hb hts in1 hown hK hP (hsp.1 _ (List.mem_of_getElem? (i := 11) rfl)) dX5_pay_58 ?_
            refine lv_iload hx hb dX5_pay_61 (lv_at hl 5 rfl) ?_
            obtain ⟨c_86, hZ⟩ := jx_a_some hZ
            refine X_iald hx hb hK hP wX_6 c_86 dX5_pay_63 ?_
            refine lv_goto (tgt := 68) hx hb dX5_pay_64 (by decide) ?_
            exact j68i37 x5_9 (S_10.1 6 (Int32.toNatClampNeg x5_9)) S_10 _ hk_11 _ _ hZ hP hD hS _ (lv_sub hl [0, 1, 2, 3, 4, 5] rfl)
    exact l_11 FU (0 : Int32) S_8 _ _ hw hP hD hS _ (lv_sub hl [1, 2, 3, 4, 5, 0] rfl)
  · have hZ := jx_i_pos c_4 hZ
    refine lv_bipush (v := (-2 : Int32)) hx hb dX5_pay_11 (by decide) ?_
    exact leave_i hx hb hr hlocks hP hS hZ dX5_pay_13
-- J7_fill_53178
def f_J7_fill_53178_20 (S_4 : St) : Option (St) :=
  some S_4
def b_J7_fill_53178_5 (x1 : Int32) (x3 : Int32) (x2 : Int32) (S : St) : Option ((Int32 × St) ⊕ (St)) :=
  (if x3 ≤ x2 then some (.inr S) else jx_a x2 1921 (jx_l (u1 S 15 (Int32.toNatClampNeg x2) x1) (fun S_9 => jx_l (x2 + 1) (fun x2_10 => some (.inl (x2_10, S_9))))))
def g_J7_fill_53178_5 (x1 : Int32) (x3 : Int32) : (Int32 × St) → Option ((Int32 × St) ⊕ (St)) := fun z => b_J7_fill_53178_5 x1 x3 z.1 z.2
def f_J7_fill_53178 (x1 : Int32) (S : St) : Option (St) :=
  jx_b (jx_w (g_J7_fill_53178_5 x1 (1921 : Int32)) FU ((0 : Int32), S)) (fun z => f_J7_fill_53178_20 z)
set_option maxHeartbeats 4000000 in
set_option maxRecDepth 100000 in
theorem c_J7_fill_53178 (l : Launch) (D : va_G) (q : Nat → Nat) (k : CI) (x1 : Int32) (S : St) (sz : Nat) (Z : St) (hZ : f_J7_fill_53178 x1 S = some Z) : MetV W_X SX l yJ7_fill_53178 wsJ7_fill_53178 { frames := 0, cells := 0, slots := 0, locals := 0 } [.ref (q 15), .int x1] D q k S sz Z := by
  refine enter (cc := cJ7_fill_53178) (maxL := 4) (ret := none) (by decide) rfl (Nat.le_of_ble_eq_true rfl) ?_
  intro p e s m below meth c A ls hx hb hr hts hown hlocks hml hP hK hD hA hS hsp hAe hl
  have hown : s.vm.findClass RJ7 = some m.cls := hown
  have hl : lv_has ls 4 [(0, .ref (q 15)), (1, .int x1)] := hl
  have j20 : ∀ (S_4 : St)  (H : Heap) (locs : List Loc) (hZ : f_J7_fill_53178_20 S_4 = some Z) (hP : va_P D vwCl (W_X q k S_4) H) (hD : va_D A (W_X q k S_4)) (hS : va_S A s.heap H locs) (ls : Array Slot) (hl : lv_has ls 4 []), W p l e ({ frames := 0, cells := 0, slots := 0, locals := 0 } : Room) s m ([.ref (q 15), .int x1] : List Value).toArray below meth c H locs 0 0 (MQ below (va_Qv (fun u => u = Z) (fun u t => va_P D vwCl (W_X q k u) t.heap) A) ([.ref (q 15), .int x1] : List Value).toArray s 0 0 A) (F0 m 20 ls []) := by
    intro S_4   H locs hZ hP hD hS ls hl
    unfold f_J7_fill_53178_20 at hZ
    exact leave_v hx hb hr hlocks hP hS hZ dJ7_fill_53178_20
  unfold f_J7_fill_53178 at hZ
  refine lv_iconst (v := (0 : Int32)) hx hb dJ7_fill_53178_0 (by decide) ?_
  refine lv_istore_n (lv' := [(2, .int (0 : Int32)), (0, .ref (q 15)), (1, .int x1)]) hx hb dJ7_fill_53178_1 rfl hl (by decide) rfl (fun ls hl => ?_)
  refine lv_aload_n hx hb dJ7_fill_53178_2 rfl (lv_at hl 1 rfl) ?_
  refine X_alen (v := (1921 : Int32)) (t0 := 0) hx hb hK hP wX_15 rfl rfl dJ7_fill_53178_3 ?_
  refine lv_istore_n (lv' := [(3, .int (1921 : Int32)), (2, .int (0 : Int32)), (0, .ref (q 15)), (1, .int x1)]) hx hb dJ7_fill_53178_4 rfl hl (by decide) rfl (fun ls hl => ?_)
  obtain ⟨r_3, hw, hza_3⟩ := jx_b_some hZ
  have l_3 : ∀ (nn : Nat) (x2_1 : Int32) (S_2 : St) (H : Heap) (locs : List Loc) (hw : jx_w (g_J7_fill_53178_5 x1 (1921 : Int32)) nn (x2_1, S_2) = some r_3) (hP : va_P D vwCl (W_X q k S_2) H) (hD : va_D A (W_X q k S_2)) (hS : va_S A s.heap H locs) (ls : Array Slot) (hl : lv_has ls 4 [(0, .ref (q 15)), (1, .int x1), (2, .int x2_1), (3, .int (1921 : Int32))]), W p l e ({ frames := 0, cells := 0, slots := 0, locals := 0 } : Room) s m ([.ref (q 15), .int x1] : List Value).toArray below meth c H locs 0 0 (MQ below (va_Qv (fun u => u = Z) (fun u t => va_P D vwCl (W_X q k u) t.heap) A) ([.ref (q 15), .int x1] : List Value).toArray s 0 0 A) (F0 m 5 ls []) := by
    intro nn
    induction nn with
    | zero =>
      intro x2_1 S_2 H locs hw hP hD hS ls hl
      exact jx_w_zero hw
    | succ n_3 ih_3 =>
      intro x2_1 S_2 H locs hw hP hD hS ls hl
      obtain ⟨o_3, hZ, hk_3⟩ := jx_w_succ hw
      have hZ : b_J7_fill_53178_5 x1 (1921 : Int32) x2_1 S_2 = some o_3 := hZ
      unfold b_J7_fill_53178_5 at hZ
      refine lv_iload_n hx hb dJ7_fill_53178_5 rfl (lv_at hl 2 rfl) ?_
      refine lv_iload_n hx hb dJ7_fill_53178_6 rfl (lv_at hl 3 rfl) ?_
      refine lv_icmp_ge (tgt := 20) hx hb dJ7_fill_53178_7 (by decide) (fun c_11 => ?_) (fun c_11 => ?_)
      · have hZ := jx_i_pos c_11 hZ
        have ho := Option.some.inj hZ
        subst ho
        have hE := hza_3
        rw [← (show S_2 = r_3 from hk_3)] at hE
        have hZ : f_J7_fill_53178_20 S_2 = some Z := hE
        exact j20 S_2 _ _ hZ hP hD hS _ (lv_sub hl [] rfl)
      · have hZ := jx_i_neg c_11 hZ
        refine lv_aload_n hx hb dJ7_fill_53178_10 rfl (lv_at hl 0 rfl) ?_
        refine lv_iload_n hx hb dJ7_fill_53178_11 rfl (lv_at hl 2 rfl) ?_
        refine lv_iload_n hx hb dJ7_fill_53178_12 rfl (lv_at hl 1 rfl) ?_
        obtain ⟨c_13, hZ⟩ := jx_a_some hZ
        obtain ⟨S_14, e_S_14, hZ⟩ := jx_l_some hZ
        refine X_iast hx hb hK hP hD hS wX_15 (fun _ => wXs_15) c_13 e_S_14 dJ7_fill_53178_13 (fun H locs hP hD hS => ?_)
        obtain ⟨x2_15, e_x2_15, hZ⟩ := jx_l_some hZ
        refine lv_iinc (v := x2_15) (lv' := [(2, .int x2_15), (0, .ref (q 15)), (1, .int x1), (3, .int (1921 : Int32))]) hx hb dJ7_fill_53178_14 hl (k := 2) rfl (by rw [e_x2_15]; rfl) (by decide) rfl (fun ls hl => ?_)
        refine lv_goto (tgt := 5) hx hb dJ7_fill_53178_17 (by decide) ?_
        have ho := Option.some.inj hZ
        subst ho
        exact ih_3 x2_15 S_14 _ _ hk_3 hP hD hS _ (lv_sub hl [1, 2, 0, 3] rfl)
  exact l_3 FU (0 : Int32) S _ _ hw hP hD hS _ (lv_sub hl [2, 3, 1, 0] rfl)
-- X5_addThing
def f_X5_addThing_60 (S_5 : St) : Option (St) :=
  some S_5
def f_X5_addThing_54i9 (x1 : Int32) (x2 : Int32) (x4_12 : Int32) (S_12 : St) : Option ((Int32 × St) ⊕ (St)) :=
  jx_l (x4_12 + (-1)) (fun x4_13 => some (.inl (x4_13, S_12)))
def b_X5_addThing_9 (x1 : Int32) (x2 : Int32) (x4 : Int32) (S : St) : Option ((Int32 × St) ⊕ (St)) :=
  (if x4 < x1 then some (.inr S) else jx_a (x4 - x1) 1921 (jx_l (S.1 15 (Int32.toNatClampNeg (x4 - x1))) (fun x5_10 => (if x5_10 = (-2147483648 : Int32) then f_X5_addThing_54i9 x1 x2 x4 S else jx_a x4 1921 (jx_a x4 1921 (jx_l (u1 S 15 (Int32.toNatClampNeg x4) (if (S.1 15 (Int32.toNatClampNeg x4)) < (x5_10 + x2) then (x5_10 + x2) else (S.1 15 (Int32.toNatClampNeg x4)))) (fun S_17 => f_X5_addThing_54i9 x1 x2 x4 S_17)))))))
def g_X5_addThing_9 (x1 : Int32) (x2 : Int32) : (Int32 × St) → Option ((Int32 × St) ⊕ (St)) := fun z => b_X5_addThing_9 x1 x2 z.1 z.2
def f_X5_addThing (x1 : Int32) (x2 : Int32) (x3 : Int32) (S : St) : Option (St) :=
  jx_l (if (1920 : Int32) < x3 then (1920 : Int32) else x3) (fun x4_1 => jx_b (jx_w (g_X5_addThing_9 x1 x2) FU (x4_1, S)) (fun z => f_X5_addThing_60 z))
set_option maxHeartbeats 4000000 in
set_option maxRecDepth 100000 in
theorem c_X5_addThing (l : Launch) (D : va_G) (q : Nat → Nat) (k : CI) (x1 : Int32) (x2 : Int32) (x3 : Int32) (S : St) (sz : Nat) (Z : St) (hZ : f_X5_addThing x1 x2 x3 S = some Z) : MetV W_X SX l yX5_addThing wsX5_addThing { frames := 1, cells := 0, slots := 0, locals := 21 } [.ref (q 12), .int x1, .int x2, .int x3] D q k S sz Z := by
  refine enter (cc := cX5_addThing) (maxL := 6) (ret := none) (by decide) rfl (Nat.le_of_ble_eq_true rfl) ?_
  intro p e s m below meth c A ls hx hb hr hts hown hlocks hml hP hK hD hA hS hsp hAe hl
  have hown : s.vm.findClass RX5 = some m.cls := hown
  have hl : lv_has ls 6 [(0, .ref (q 12)), (1, .int x1), (2, .int x2), (3, .int x3)] := hl
  have in5 : ∀ w ∈ wsX50, w ∈ wsX5_addThing := fun _ h => (List.mem_cons_of_mem _ (List.mem_append_right _ h))
  have j60 : ∀ (S_5 : St)  (H : Heap) (locs : List Loc) (hZ : f_X5_addThing_60 S_5 = some Z) (hP : va_P D vwCl (W_X q k S_5) H) (hD : va_D A (W_X q k S_5)) (hS : va_S A s.heap H locs) (ls : Array Slot) (hl : lv_has ls 6 []), W p l e ({ frames := 1, cells := 0, slots := 0, locals := 21 } : Room) s m ([.ref (q 12), .int x1, .int x2, .int x3] : List Value).toArray below meth c H locs 0 0 (MQ below (va_Qv (fun u => u = Z) (fun u t => va_P D vwCl (W_X q k u) t.heap) A) ([.ref (q 12), .int x1, .int x2, .int x3] : List Value).toArray s 0 0 A) (F0 m 60 ls []) := by
    intro S_5   H locs hZ hP hD hS ls hl
    unfold f_X5_addThing_60 at hZ
    exact leave_v hx hb hr hlocks hP hS hZ dX5_addThing_60
  unfold f_X5_addThing at hZ
  refine lv_iload_n hx hb dX5_addThing_0 rfl (lv_at hl 3 rfl) ?_
  refine lv_sipush (v := (1920 : Int32)) hx hb dX5_addThing_1 (by decide) ?_
  refine va_mmin hx hb (hml.trans hl.1.symm) hown (hts _ (List.mem_of_getElem? (i := 1) rfl)) (hts _ (List.mem_of_getElem? (i := 2) rfl)) (hts _ (List.mem_of_getElem? (i := 3) rfl)) (hts _ (List.mem_of_getElem? (i := 4) rfl)) (Nat.le_of_ble_eq_true rfl) (Nat.le_of_ble_eq_true rfl) (Nat.zero_le _) (Nat.zero_le _) dX5_addThing_4 ?_
  obtain ⟨x4_1, e_x4_1, hZ⟩ := jx_l_some hZ
  refine tx_i e_x4_1 ?_
  refine lv_istore (lv' := [(4, .int x4_1), (0, .ref (q 12)), (1, .int x1), (2, .int x2), (3, .int x3)]) hx hb dX5_addThing_7 hl (by decide) rfl (fun ls hl => ?_)
  obtain ⟨r_4, hw, hza_4⟩ := jx_b_some hZ
  have l_4 : ∀ (nn : Nat) (x4_2 : Int32) (S_3 : St) (H : Heap) (locs : List Loc) (hw : jx_w (g_X5_addThing_9 x1 x2) nn (x4_2, S_3) = some r_4) (hP : va_P D vwCl (W_X q k S_3) H) (hD : va_D A (W_X q k S_3)) (hS : va_S A s.heap H locs) (ls : Array Slot) (hl : lv_has ls 6 [(0, .ref (q 12)), (1, .int x1), (2, .int x2), (4, .int x4_2)]), W p l e ({ frames := 1, cells := 0, slots := 0, locals := 21 } : Room) s m ([.ref (q 12), .int x1, .int x2, .int x3] : List Value).toArray below meth c H locs 0 0 (MQ below (va_Qv (fun u => u = Z) (fun u t => va_P D vwCl (W_X q k u) t.heap) A) ([.ref (q 12), .int x1, .int x2, .int x3] : List Value).toArray s 0 0 A) (F0 m 9 ls []) := by
    intro nn
    induction nn with
    | zero =>
      intro x4_2 S_3 H locs hw hP hD hS ls hl
      exact jx_w_zero hw
    | succ n_4 ih_4 =>
      intro x4_2 S_3 H locs hw hP hD hS ls hl
      obtain ⟨o_4, hZ, hk_4⟩ := jx_w_succ hw
      have hZ : b_X5_addThing_9 x1 x2 x4_2 S_3 = some o_4 := hZ
      have j54i9 : ∀ (x4_24 : Int32) (S_24 : St)  (o_4 : (Int32 × St) ⊕ (St)) (hk_4 : jx_k (g_X5_addThing_9 x1 x2) n_4 r_4 o_4) (H : Heap) (locs : List Loc) (hZ : f_X5_addThing_54i9 x1 x2 x4_24 S_24 = some o_4) (hP : va_P D vwCl (W_X q k S_24) H) (hD : va_D A (W_X q k S_24)) (hS : va_S A s.heap H locs) (ls : Array Slot) (hl : lv_has ls 6 [(0, .ref (q 12)), (1, .int x1), (2, .int x2), (4, .int x4_24)]), W p l e ({ frames := 1, cells := 0, slots := 0, locals := 21 } : Room) s m ([.ref (q 12), .int x1, .int x2, .int x3] : List Value).toArray below meth c H locs 0 0 (MQ below (va_Qv (fun u => u = Z) (fun u t => va_P D vwCl (W_X q k u) t.heap) A) ([.ref (q 12), .int x1, .int x2, .int x3] : List Value).toArray s 0 0 A) (F0 m 54 ls []) := by
        intro x4_24 S_24  o_4 hk_4 H locs hZ hP hD hS ls hl
        unfold f_X5_addThing_54i9 at hZ
        obtain ⟨x4_25, e_x4_25, hZ⟩ := jx_l_some hZ
        refine lv_iinc (v := x4_25) (lv' := [(4, .int x4_25), (0, .ref (q 12)), (1, .int x1), (2, .int x2)]) hx hb dX5_addThing_54 hl (k := 3) rfl (by rw [e_x4_25]; rfl) (by decide) rfl (fun ls hl => ?_)
        refine lv_goto (tgt := 9) hx hb dX5_addThing_57 (by decide) ?_
        have ho := Option.some.inj hZ
        subst ho
        exact ih_4 x4_25 S_24 _ _ hk_4 hP hD hS _ (lv_sub hl [1, 2, 3, 0] rfl)
      unfold b_X5_addThing_9 at hZ
      refine lv_iload hx hb dX5_addThing_9 (lv_at hl 3 rfl) ?_
      refine lv_iload_n hx hb dX5_addThing_11 rfl (lv_at hl 1 rfl) ?_
      refine lv_icmp_lt (tgt := 60) hx hb dX5_addThing_12 (by decide) (fun c_19 => ?_) (fun c_19 => ?_)
      · have hZ := jx_i_pos c_19 hZ
        have ho := Option.some.inj hZ
        subst ho
        have hE := hza_4
        rw [← (show S_3 = r_4 from hk_4)] at hE
        have hZ : f_X5_addThing_60 S_3 = some Z := hE
        exact j60 S_3 _ _ hZ hP hD hS _ (lv_sub hl [] rfl)
      · have hZ := jx_i_neg c_19 hZ
        refine lv_aload_n hx hb dX5_addThing_15 rfl (lv_at hl 0 rfl) ?_
        refine gf_5_choice hx hb hts in5 hown hK hP (hts (.fieldLink RX5 19 "CoinsOfLast$Payer" "choice" "[I") (List.mem_of_getElem? (i := 5) rfl)) dX5_addThing_16 ?_
        refine lv_iload hx hb dX5_addThing_19 (lv_at hl 3 rfl) ?_
        refine lv_iload_n hx hb dX5_addThing_21 rfl (lv_at hl 1 rfl) ?_
        refine lv_isub hx hb dX5_addThing_22 ?_
        obtain ⟨c_21, hZ⟩ := jx_a_some hZ
        refine X_iald hx hb hK hP wX_15 c_21 dX5_addThing_23 ?_
        obtain ⟨x5_22, e_x5_22, hZ⟩ := jx_l_some hZ
        refine tx_i e_x5_22 ?_
        refine lv_istore (lv' := [(5, .int x5_22), (0, .ref (q 12)), (1, .int x1), (2, .int x2), (4, .int x4_2)]) hx hb dX5_addThing_24 hl (by decide) rfl (fun ls hl => ?_)
        refine lv_iload hx hb dX5_addThing_26 (lv_at hl 0 rfl) ?_
        refine lv_ldc (v := (-2147483648 : Int32)) hx hb hown (hts (.constant RX5 64 (-2147483648)) (List.mem_of_getElem? (i := 6) rfl)) dX5_addThing_28 ?_
        refine lv_icmp_eq (tgt := 54) hx hb dX5_addThing_30 (by decide) (fun c_23 => ?_) (fun c_23 => ?_)
        · have hZ := jx_i_pos c_23 hZ
          exact j54i9 x4_2 S_3 _ hk_4 _ _ hZ hP hD hS _ (lv_sub hl [1, 2, 3, 4] rfl)
        · have hZ := jx_i_neg c_23 hZ
          refine lv_aload_n hx hb dX5_addThing_33 rfl (lv_at hl 1 rfl) ?_
          refine gf_5_choice hx hb hts in5 hown hK hP (hts (.fieldLink RX5 19 "CoinsOfLast$Payer" "choice" "[I") (List.mem_of_getElem? (i := 5) rfl)) dX5_addThing_34 ?_
          refine lv_iload hx hb dX5_addThing_37 (lv_at hl 4 rfl) ?_
          refine lv_aload_n hx hb dX5_addThing_39 rfl (lv_at hl 1 rfl) ?_
          refine gf_5_choice hx hb hts in5 hown hK hP (hts (.fieldLink RX5 19 "CoinsOfLast$Payer" "choice" "[I") (List.mem_of_getElem? (i := 5) rfl)) dX5_addThing_40 ?_
          refine lv_iload hx hb dX5_addThing_43 (lv_at hl 4 rfl) ?_
          obtain ⟨c_27, hZ⟩ := jx_a_some hZ
          refine X_iald hx hb hK hP wX_15 c_27 dX5_addThing_45 ?_
          refine lv_iload hx hb dX5_addThing_46 (lv_at hl 0 rfl) ?_
          refine lv_iload_n hx hb dX5_addThing_48 rfl (lv_at hl 3 rfl) ?_
          refine lv_iadd hx hb dX5_addThing_49 ?_
          refine va_mmax hx hb (hml.trans hl.1.symm) hown (hts _ (List.mem_of_getElem? (i := 7) rfl)) (hts _ (List.mem_of_getElem? (i := 8) rfl)) (hts _ (List.mem_of_getElem? (i := 3) rfl)) (hts _ (List.mem_of_getElem? (i := 9) rfl)) (Nat.le_of_ble_eq_true rfl) (Nat.le_of_ble_eq_true rfl) (Nat.zero_le _) (Nat.zero_le _) dX5_addThing_50 ?_
          obtain ⟨c_28, hZ⟩ := jx_a_some hZ
          obtain ⟨S_29, e_S_29, hZ⟩ := jx_l_some hZ
          refine X_iast hx hb hK hP hD hS wX_15 (fun _ => wXs_15) c_28 e_S_29 dX5_addThing_53 (fun H locs hP hD hS => ?_)
          exact j54i9 x4_2 S_29 _ hk_4 _ _ hZ hP hD hS _ (lv_sub hl [1, 2, 3, 4] rfl)
  exact l_4 FU x4_1 S _ _ hw hP hD hS _ (lv_sub hl [1, 2, 3, 0] rfl)
theorem hd_J7_fill_53178 : yJ7_fill_53178.cls ≠ "java/lang/invoke/MethodHandle" ∧ yJ7_fill_53178.cls ≠ "java/lang/invoke/VarHandle" ∧ (parseMethodDescriptor yJ7_fill_53178.desc).map (fun d => d.parameters.length) = some 2 := by decide +kernel
theorem hd_X5_addThing : yX5_addThing.cls = RX5 ∧ yX5_addThing.cls ≠ "java/lang/invoke/MethodHandle" ∧ yX5_addThing.cls ≠ "java/lang/invoke/VarHandle" ∧ (parseMethodDescriptor yX5_addThing.desc).map (fun d => d.parameters.length) = some 3 := by decide +kernel
-- X5_valueChoices
def f_X5_valueChoices_93 (S_8 : St) : Option (St) :=
  some S_8
def f_X5_valueChoices_87i19 (x2 : Int32) (x3 : Int32) (x4_18 : Int32) (S_18 : St) : Option ((Int32 × St) ⊕ (St)) :=
  jx_l (x4_18 + 1) (fun x4_19 => some (.inl (x4_19, S_18)))
def b_X5_valueChoices_55 (x2 : Int32) (x3 : Int32) (x4 : Int32) (x5 : Int32) (x6 : Int32) (S : St) : Option ((Int32 × St) ⊕ (St)) :=
  (if x5 ≤ x6 then some (.inr S) else jx_a x4 10 (jx_a x4 10 (jx_b (f_X5_addThing (S.1 9 (Int32.toNatClampNeg x4)) (S.1 10 (Int32.toNatClampNeg x4)) x3 S) (fun S_25 => jx_l (x6 + 1) (fun x6_27 => some (.inl (x6_27, S_25)))))))
def g_X5_valueChoices_55 (x2 : Int32) (x3 : Int32) (x4 : Int32) (x5 : Int32) : (Int32 × St) → Option ((Int32 × St) ⊕ (St)) := fun z => b_X5_valueChoices_55 x2 x3 x4 x5 z.1 z.2
def f_X5_valueChoices_50i19 (x2 : Int32) (x3 : Int32) (x4_14 : Int32) (s0_14 : Int32) (S_14 : St) : Option ((Int32 × St) ⊕ (St)) :=
  jx_b (jx_w (g_X5_valueChoices_55 x2 x3 x4_14 s0_14) FU ((0 : Int32), S_14)) (fun z => f_X5_valueChoices_87i19 x2 x3 x4_14 z)
def b_X5_valueChoices_19 (x2 : Int32) (x3 : Int32) (x4 : Int32) (S : St) : Option ((Int32 × St) ⊕ (St)) :=
  (if (S.1 7 4) ≤ x4 then some (.inr S) else jx_a x4 10 ((if (S.1 8 (Int32.toNatClampNeg x4)) = x2 then jx_a x4 10 (f_X5_valueChoices_50i19 x2 x3 x4 (S.1 11 (Int32.toNatClampNeg x4)) S) else f_X5_valueChoices_50i19 x2 x3 x4 (0 : Int32) S)))
def g_X5_valueChoices_19 (x2 : Int32) (x3 : Int32) : (Int32 × St) → Option ((Int32 × St) ⊕ (St)) := fun z => b_X5_valueChoices_19 x2 x3 z.1 z.2
def f_X5_valueChoices (x2 : Int32) (x3 : Int32) (S : St) : Option (St) :=
  jx_b (f_J7_fill_53178 (-2147483648 : Int32) S) (fun S_1 => jx_a (0 : Int32) 1921 (jx_l (u1 S_1 15 (Int32.toNatClampNeg (0 : Int32)) (0 : Int32)) (fun S_4 => jx_b (jx_w (g_X5_valueChoices_19 x2 x3) FU ((0 : Int32), S_4)) (fun z => f_X5_valueChoices_93 z))))
set_option maxHeartbeats 4000000 in
set_option maxRecDepth 100000 in
theorem c_X5_valueChoices (l : Launch) (D : va_G) (q : Nat → Nat) (k : CI) (x2 : Int32) (x3 : Int32) (S : St) (sz : Nat) (Z : St) (hZ : f_X5_valueChoices x2 x3 S = some Z) : MetV W_X SX l yX5_valueChoices wsX5_valueChoices { frames := 2, cells := 0, slots := 0, locals := 46 } [.ref (q 12), .ref (q 7), .int x2, .int x3] D q k S sz Z := by
  refine enter (cc := cX5_valueChoices) (maxL := 7) (ret := none) (by decide) rfl (Nat.le_of_ble_eq_true rfl) ?_
  intro p e s m below meth c A ls hx hb hr hts hown hlocks hml hP hK hD hA hS hsp hAe hl
  have hown : s.vm.findClass RX5 = some m.cls := hown
  have hl : lv_has ls 7 [(0, .ref (q 12)), (1, .ref (q 7)), (2, .int x2), (3, .int x3)] := hl
  have in5 : ∀ w ∈ wsX50, w ∈ wsX5_valueChoices := fun _ h => (List.mem_cons_of_mem _ (List.mem_append_left _ (List.mem_append_right _ h)))
  have in9 : ∀ w ∈ wsX90, w ∈ wsX5_valueChoices := fun _ h => (List.mem_cons_of_mem _ (List.mem_append_right _ h))
  have j93 : ∀ (S_8 : St)  (H : Heap) (locs : List Loc) (hZ : f_X5_valueChoices_93 S_8 = some Z) (hP : va_P D vwCl (W_X q k S_8) H) (hD : va_D A (W_X q k S_8)) (hS : va_S A s.heap H locs) (ls : Array Slot) (hl : lv_has ls 7 []), W p l e ({ frames := 2, cells := 0, slots := 0, locals := 46 } : Room) s m ([.ref (q 12), .ref (q 7), .int x2, .int x3] : List Value).toArray below meth c H locs 0 0 (MQ below (va_Qv (fun u => u = Z) (fun u t => va_P D vwCl (W_X q k u) t.heap) A) ([.ref (q 12), .ref (q 7), .int x2, .int x3] : List Value).toArray s 0 0 A) (F0 m 93 ls []) := by
    intro S_8   H locs hZ hP hD hS ls hl
    unfold f_X5_valueChoices_93 at hZ
    exact leave_v hx hb hr hlocks hP hS hZ dX5_valueChoices_93
  unfold f_X5_valueChoices at hZ
  refine lv_aload_n hx hb dX5_valueChoices_0 rfl (lv_at hl 0 rfl) ?_
  refine gf_5_choice hx hb hts in5 hown hK hP (hts (.fieldLink RX5 19 "CoinsOfLast$Payer" "choice" "[I") (List.mem_of_getElem? (i := 1) rfl)) dX5_valueChoices_1 ?_
  refine lv_ldc (v := (-2147483648 : Int32)) hx hb hown (hts (.constant RX5 64 (-2147483648)) (List.mem_of_getElem? (i := 2) rfl)) dX5_valueChoices_4 ?_
  obtain ⟨S_1, hc_2, hZ⟩ := jx_b_some hZ
  refine call_Sv SX_ok sameX ⟨hx, hb, hml, hown, hts⟩ (c_J7_fill_53178 l D q k (-2147483648 : Int32) S _ S_1  hc_2) (va_cwS 2 hts gX5_valueChoices_J7_fill_53178 rfl rfl rfl hd_J7_fill_53178 ⟨Nat.le_of_ble_eq_true rfl, Nat.le_of_ble_eq_true rfl⟩) hK hP hD hS hA hsp (As := [.ref (q 15), .int (-2147483648 : Int32)]) rfl hl.1 rfl (Nat.le_of_ble_eq_true rfl) dX5_valueChoices_6 ⟨Nat.zero_le _, Nat.zero_le _⟩ (fun H locs hP hD hS => ?_)
  refine lv_aload_n hx hb dX5_valueChoices_9 rfl (lv_at hl 0 rfl) ?_
  refine gf_5_choice hx hb hts in5 hown hK hP (hts (.fieldLink RX5 19 "CoinsOfLast$Payer" "choice" "[I") (List.mem_of_getElem? (i := 1) rfl)) dX5_valueChoices_10 ?_
  refine lv_iconst (v := (0 : Int32)) hx hb dX5_valueChoices_13 (by decide) ?_
  refine lv_iconst (v := (0 : Int32)) hx hb dX5_valueChoices_14 (by decide) ?_
  obtain ⟨c_3, hZ⟩ := jx_a_some hZ
  obtain ⟨S_4, e_S_4, hZ⟩ := jx_l_some hZ
  refine X_iast hx hb hK hP hD hS wX_15 (fun _ => wXs_15) c_3 e_S_4 dX5_valueChoices_15 (fun H locs hP hD hS => ?_)
  refine lv_iconst (v := (0 : Int32)) hx hb dX5_valueChoices_16 (by decide) ?_
  refine lv_istore (lv' := [(4, .int (0 : Int32)), (0, .ref (q 12)), (1, .ref (q 7)), (2, .int x2), (3, .int x3)]) hx hb dX5_valueChoices_17 hl (by decide) rfl (fun ls hl => ?_)
  obtain ⟨r_7, hw, hza_7⟩ := jx_b_some hZ
  have l_7 : ∀ (nn : Nat) (x4_5 : Int32) (S_6 : St) (H : Heap) (locs : List Loc) (hw : jx_w (g_X5_valueChoices_19 x2 x3) nn (x4_5, S_6) = some r_7) (hP : va_P D vwCl (W_X q k S_6) H) (hD : va_D A (W_X q k S_6)) (hS : va_S A s.heap H locs) (ls : Array Slot) (hl : lv_has ls 7 [(0, .ref (q 12)), (1, .ref (q 7)), (2, .int x2), (3, .int x3), (4, .int x4_5)]), W p l e ({ frames := 2, cells := 0, slots := 0, locals := 46 } : Room) s m ([.ref (q 12), .ref (q 7), .int x2, .int x3] : List Value).toArray below meth c H locs 0 0 (MQ below (va_Qv (fun u => u = Z) (fun u t => va_P D vwCl (W_X q k u) t.heap) A) ([.ref (q 12), .ref (q 7), .int x2, .int x3] : List Value).toArray s 0 0 A) (F0 m 19 ls []) := by
    intro nn
    induction nn with
    | zero =>
      intro x4_5 S_6 H locs hw hP hD hS ls hl
      exact jx_w_zero hw
    | succ n_7 ih_7 =>
      intro x4_5 S_6 H locs hw hP hD hS ls hl
      obtain ⟨o_7, hZ, hk_7⟩ := jx_w_succ hw
      have hZ : b_X5_valueChoices_19 x2 x3 x4_5 S_6 = some o_7 := hZ
      have j87i19 : ∀ (x4_46 : Int32) (S_46 : St)  (o_7 : (Int32 × St) ⊕ (St)) (hk_7 : jx_k (g_X5_valueChoices_19 x2 x3) n_7 r_7 o_7) (H : Heap) (locs : List Loc) (hZ : f_X5_valueChoices_87i19 x2 x3 x4_46 S_46 = some o_7) (hP : va_P D vwCl (W_X q k S_46) H) (hD : va_D A (W_X q k S_46)) (hS : va_S A s.heap H locs) (ls : Array Slot) (hl : lv_has ls 7 [(0, .ref (q 12)), (1, .ref (q 7)), (2, .int x2), (3, .int x3), (4, .int x4_46)]), W p l e ({ frames := 2, cells := 0, slots := 0, locals := 46 } : Room) s m ([.ref (q 12), .ref (q 7), .int x2, .int x3] : List Value).toArray below meth c H locs 0 0 (MQ below (va_Qv (fun u => u = Z) (fun u t => va_P D vwCl (W_X q k u) t.heap) A) ([.ref (q 12), .ref (q 7), .int x2, .int x3] : List Value).toArray s 0 0 A) (F0 m 87 ls []) := by
        intro x4_46 S_46  o_7 hk_7 H locs hZ hP hD hS ls hl
        unfold f_X5_valueChoices_87i19 at hZ
        obtain ⟨x4_47, e_x4_47, hZ⟩ := jx_l_some hZ
        refine lv_iinc (v := x4_47) (lv' := [(4, .int x4_47), (0, .ref (q 12)), (1, .ref (q 7)), (2, .int x2), (3, .int x3)]) hx hb dX5_valueChoices_87 hl (k := 4) rfl (by rw [e_x4_47]; rfl) (by decide) rfl (fun ls hl => ?_)
        refine lv_goto (tgt := 19) hx hb dX5_valueChoices_90 (by decide) ?_
        have ho := Option.some.inj hZ
        subst ho
        exact ih_7 x4_47 S_46 _ _ hk_7 hP hD hS _ (lv_sub hl [1, 2, 3, 4, 0] rfl)
      have j50i19 : ∀ (x4_42 : Int32) (s0_42 : Int32) (S_42 : St)  (o_7 : (Int32 × St) ⊕ (St)) (hk_7 : jx_k (g_X5_valueChoices_19 x2 x3) n_7 r_7 o_7) (H : Heap) (locs : List Loc) (hZ : f_X5_valueChoices_50i19 x2 x3 x4_42 s0_42 S_42 = some o_7) (hP : va_P D vwCl (W_X q k S_42) H) (hD : va_D A (W_X q k S_42)) (hS : va_S A s.heap H locs) (ls : Array Slot) (hl : lv_has ls 7 [(0, .ref (q 12)), (1, .ref (q 7)), (2, .int x2), (3, .int x3), (4, .int x4_42)]), W p l e ({ frames := 2, cells := 0, slots := 0, locals := 46 } : Room) s m ([.ref (q 12), .ref (q 7), .int x2, .int x3] : List Value).toArray below meth c H locs 0 0 (MQ below (va_Qv (fun u => u = Z) (fun u t => va_P D vwCl (W_X q k u) t.heap) A) ([.ref (q 12), .ref (q 7), .int x2, .int x3] : List Value).toArray s 0 0 A) (F0 m 50 ls [.int s0_42]) := by
        intro x4_42 s0_42 S_42  o_7 hk_7 H locs hZ hP hD hS ls hl
        unfold f_X5_valueChoices_50i19 at hZ
        refine lv_istore (lv' := [(5, .int s0_42), (0, .ref (q 12)), (1, .ref (q 7)), (2, .int x2), (3, .int x3), (4, .int x4_42)]) hx hb dX5_valueChoices_50 hl (by decide) rfl (fun ls hl => ?_)
        refine lv_iconst (v := (0 : Int32)) hx hb dX5_valueChoices_52 (by decide) ?_
        refine lv_istore (lv' := [(6, .int (0 : Int32)), (5, .int s0_42), (0, .ref (q 12)), (1, .ref (q 7)), (2, .int x2), (3, .int x3), (4, .int x4_42)]) hx hb dX5_valueChoices_53 hl (by decide) rfl (fun ls hl => ?_)
        obtain ⟨r_45, hw, hza_45⟩ := jx_b_some hZ
        have l_45 : ∀ (nn : Nat) (x6_43 : Int32) (S_44 : St) (H : Heap) (locs : List Loc) (hw : jx_w (g_X5_valueChoices_55 x2 x3 x4_42 s0_42) nn (x6_43, S_44) = some r_45) (hP : va_P D vwCl (W_X q k S_44) H) (hD : va_D A (W_X q k S_44)) (hS : va_S A s.heap H locs) (ls : Array Slot) (hl : lv_has ls 7 [(0, .ref (q 12)), (1, .ref (q 7)), (2, .int x2), (3, .int x3), (4, .int x4_42), (5, .int s0_42), (6, .int x6_43)]), W p l e ({ frames := 2, cells := 0, slots := 0, locals := 46 } : Room) s m ([.ref (q 12), .ref (q 7), .int x2, .int x3] : List Value).toArray below meth c H locs 0 0 (MQ below (va_Qv (fun u => u = Z) (fun u t => va_P D vwCl (W_X q k u) t.heap) A) ([.ref (q 12), .ref (q 7), .int x2, .int x3] : List Value).toArray s 0 0 A) (F0 m 55 ls []) := by
          intro nn
          induction nn with
          | zero =>
            intro x6_43 S_44 H locs hw hP hD hS ls hl
            exact jx_w_zero hw
          | succ n_45 ih_45 =>
            intro x6_43 S_44 H locs hw hP hD hS ls hl
            obtain ⟨o_45, hZ, hk_45⟩ := jx_w_succ hw
            have hZ : b_X5_valueChoices_55 x2 x3 x4_42 s0_42 x6_43 S_44 = some o_45 := hZ
            unfold b_X5_valueChoices_55 at hZ
            refine lv_iload hx hb dX5_valueChoices_55 (lv_at hl 6 rfl) ?_
            refine lv_iload hx hb dX5_valueChoices_57 (lv_at hl 5 rfl) ?_
            refine lv_icmp_ge (tgt := 87) hx hb dX5_valueChoices_59 (by decide) (fun c_56 => ?_) (fun c_56 => ?_)
            · have hZ := jx_i_pos c_56 hZ
              have ho := Option.some.inj hZ
              subst ho
              have hE := hza_45
              rw [← (show S_44 = r_45 from hk_45)] at hE
              have hZ : f_X5_valueChoices_87i19 x2 x3 x4_42 S_44 = some o_7 := hE
              exact j87i19 x4_42 S_44 _ hk_7 _ _ hZ hP hD hS _ (lv_sub hl [0, 1, 2, 3, 4] rfl)
            · have hZ := jx_i_neg c_56 hZ
              refine lv_aload_n hx hb dX5_valueChoices_62 rfl (lv_at hl 0 rfl) ?_
              refine lv_aload_n hx hb dX5_valueChoices_63 rfl (lv_at hl 1 rfl) ?_
              refine gn_9_price hx hb hts in9 hown hK hP (hsp.1 _ (List.mem_of_getElem? (i := 18) rfl)) dX5_valueChoices_64 ?_
              refine lv_iload hx hb dX5_valueChoices_67 (lv_at hl 4 rfl) ?_
              obtain ⟨c_58, hZ⟩ := jx_a_some hZ
              refine X_iald hx hb hK hP wX_9 c_58 dX5_valueChoices_69 ?_
              refine lv_aload_n hx hb dX5_valueChoices_70 rfl (lv_at hl 1 rfl) ?_
              refine gn_9_value hx hb hts in9 hown hK hP (hsp.1 _ (List.mem_of_getElem? (i := 20) rfl)) dX5_valueChoices_71 ?_
              refine lv_iload hx hb dX5_valueChoices_74 (lv_at hl 4 rfl) ?_
              obtain ⟨c_59, hZ⟩ := jx_a_some hZ
              refine X_iald hx hb hK hP wX_10 c_59 dX5_valueChoices_76 ?_
              refine lv_iload_n hx hb dX5_valueChoices_77 rfl (lv_at hl 3 rfl) ?_
              obtain ⟨S_60, hc_61, hZ⟩ := jx_b_some hZ
              refine call_Vv SX_ok sameX ⟨hx, hb, hml, hown, hts⟩ (c_X5_addThing l D q k (S_44.1 9 (Int32.toNatClampNeg x4_42)) (S_44.1 10 (Int32.toNatClampNeg x4_42)) x3 S_44 _ S_60  hc_61) (cwV 3 hts gX5_valueChoices_X5_addThing rfl rfl rfl hd_X5_addThing ⟨Nat.le_of_ble_eq_true rfl, Nat.le_of_ble_eq_true rfl⟩) hK hP hD hS hA hsp (va_recv hK hP (ci := 5) (q0 := 12) rfl wX_12) (As := [.int (S_44.1 9 (Int32.toNatClampNeg x4_42)), .int (S_44.1 10 (Int32.toNatClampNeg x4_42)), .int x3]) rfl hl.1 rfl (Nat.le_of_ble_eq_true rfl) dX5_valueChoices_78 ⟨Nat.zero_le _, Nat.zero_le _⟩ (fun H locs hP hD hS => ?_)
              obtain ⟨x6_62, e_x6_62, hZ⟩ := jx_l_some hZ
              refine lv_iinc (v := x6_62) (lv' := [(6, .int x6_62), (0, .ref (q 12)), (1, .ref (q 7)), (2, .int x2), (3, .int x3), (4, .int x4_42), (5, .int s0_42)]) hx hb dX5_valueChoices_81 hl (k := 6) rfl (by rw [e_x6_62]; rfl) (by decide) rfl (fun ls hl => ?_)
              refine lv_goto (tgt := 55) hx hb dX5_valueChoices_84 (by decide) ?_
              have ho := Option.some.inj hZ
              subst ho
              exact ih_45 x6_62 S_60 _ _ hk_45 hP hD hS _ (lv_sub hl [1, 2, 3, 4, 5, 6, 0] rfl)
        exact l_45 FU (0 : Int32) S_42 _ _ hw hP hD hS _ (lv_sub hl [2, 3, 4, 5, 6, 1, 0] rfl)
      unfold b_X5_valueChoices_19 at hZ
      refine lv_iload hx hb dX5_valueChoices_19 (lv_at hl 4 rfl) ?_
      refine lv_aload_n hx hb dX5_valueChoices_21 rfl (lv_at hl 1 rfl) ?_
      refine gn_9_known hx hb hts in9 hown hK hP (hsp.1 _ (List.mem_of_getElem? (i := 27) rfl)) dX5_valueChoices_22 ?_
      refine lv_icmp_ge (tgt := 93) hx hb dX5_valueChoices_25 (by decide) (fun c_38 => ?_) (fun c_38 => ?_)
      · have hZ := jx_i_pos c_38 hZ
        have ho := Option.some.inj hZ
        subst ho
        have hE := hza_7
        rw [← (show S_6 = r_7 from hk_7)] at hE
        have hZ : f_X5_valueChoices_93 S_6 = some Z := hE
        exact j93 S_6 _ _ hZ hP hD hS _ (lv_sub hl [] rfl)
      · have hZ := jx_i_neg c_38 hZ
        refine lv_aload_n hx hb dX5_valueChoices_28 rfl (lv_at hl 1 rfl) ?_
        refine gn_9_land hx hb hts in9 hown hK hP (hsp.1 _ (List.mem_of_getElem? (i := 16) rfl)) dX5_valueChoices_29 ?_
        refine lv_iload hx hb dX5_valueChoices_32 (lv_at hl 4 rfl) ?_
        obtain ⟨c_40, hZ⟩ := jx_a_some hZ
        refine X_iald hx hb hK hP wX_8 c_40 dX5_valueChoices_34 ?_
        refine lv_iload_n hx hb dX5_valueChoices_35 rfl (lv_at hl 2 rfl) ?_
        refine lv_icmp_ne (tgt := 49) hx hb dX5_valueChoices_36 (by decide) (fun c_41 => ?_) (fun c_41 => ?_)
        · have hZ := jx_i_neg c_41 hZ
          refine lv_iconst (v := (0 : Int32)) hx hb dX5_valueChoices_49 (by decide) ?_
          exact j50i19 x4_5 (0 : Int32) S_6 _ hk_7 _ _ hZ hP hD hS _ (lv_sub hl [0, 1, 2, 3, 4] rfl)
        · have hZ := jx_i_pos c_41 hZ
          refine lv_aload_n hx hb dX5_valueChoices_39 rfl (lv_at hl 1 rfl) ?_
          refine gn_9_many hx hb hts in9 hown hK hP (hsp.1 _ (List.mem_of_getElem? (i := 23) rfl)) dX5_valueChoices_40 ?_
          refine lv_iload hx hb dX5_valueChoices_43 (lv_at hl 4 rfl) ?_
          obtain ⟨c_64, hZ⟩ := jx_a_some hZ
          refine X_iald hx hb hK hP wX_11 c_64 dX5_valueChoices_45 ?_
          refine lv_goto (tgt := 50) hx hb dX5_valueChoices_46 (by decide) ?_
          exact j50i19 x4_5 (S_6.1 11 (Int32.toNatClampNeg x4_5)) S_6 _ hk_7 _ _ hZ hP hD hS _ (lv_sub hl [0, 1, 2, 3, 4] rfl)
  exact l_7 FU (0 : Int32) S_4 _ _ hw hP hD hS _ (lv_sub hl [1, 2, 3, 4, 0] rfl)
-- X5_valueAt
def f_X5_valueAt (x1 : Int32) (S : St) : Option (Int32 × St) :=
  jx_b2 (f_X11_within x1 (0 : Int32) (1920 : Int32) S) (fun r_3 S_1 => (if r_3 = 0 then some ((0 : Int32), S_1) else jx_a x1 1921 (some ((S_1.1 15 (Int32.toNatClampNeg x1)), S_1))))
theorem gX5_valueAt_X11_within : GoodIn wsX5_valueAt wsX11_within := goodIn_r _ [4] rfl (by decide +kernel)
set_option maxHeartbeats 4000000 in
set_option maxRecDepth 100000 in
theorem c_X5_valueAt (l : Launch) (D : va_G) (q : Nat → Nat) (k : CI) (x1 : Int32) (S : St) (sz : Nat) (Z : Int32 × St) (hZ : f_X5_valueAt x1 S = some Z) : MetI W_X SX l yX5_valueAt wsX5_valueAt { frames := 1, cells := 0, slots := 0, locals := 22 } [.ref (q 12), .int x1] D q k S sz Z := by
  refine enter (cc := cX5_valueAt) (maxL := 2) (ret := some .int) (by decide) rfl (Nat.le_of_ble_eq_true rfl) ?_
  intro p e s m below meth c A ls hx hb hr hts hown hlocks hml hP hK hD hA hS hsp hAe hl
  have hown : s.vm.findClass RX5 = some m.cls := hown
  have hl : lv_has ls 2 [(0, .ref (q 12)), (1, .int x1)] := hl
  have in5 : ∀ w ∈ wsX50, w ∈ wsX5_valueAt := fun _ h => (List.mem_cons_of_mem _ (List.mem_append_right _ h))
  unfold f_X5_valueAt at hZ
  refine lv_iload_n hx hb dX5_valueAt_0 rfl (lv_at hl 1 rfl) ?_
  refine lv_iconst (v := (0 : Int32)) hx hb dX5_valueAt_1 (by decide) ?_
  refine lv_sipush (v := (1920 : Int32)) hx hb dX5_valueAt_2 (by decide) ?_
  obtain ⟨r_3, S_1, hc_2, hZ⟩ := jx_b2_some hZ
  refine call_Ni SX_ok sameX ⟨hx, hb, hml, hown, hts⟩ (c_X11_within l D q k x1 (0 : Int32) (1920 : Int32) S _ (r_3, S_1)  hc_2) (va_cnB 3 hts gX5_valueAt_X11_within rfl rfl rfl (hsp.1 _ (List.mem_of_getElem? (i := 73) rfl)) (hts _ (List.mem_of_getElem? (i := 3) rfl)) hd_X11_within ⟨Nat.le_of_ble_eq_true rfl, Nat.le_of_ble_eq_true rfl⟩) (hts _ (List.mem_of_getElem? (i := 2) rfl)) hK hP hD hS hA hsp (As := [.int x1, .int (0 : Int32), .int (1920 : Int32)]) rfl hl.1 rfl (Nat.le_of_ble_eq_true rfl) dX5_valueAt_5 ⟨Nat.zero_le _, Nat.zero_le _⟩ (fun H locs hP hD hS => ?_)
  refine lv_if_eq (tgt := 20) hx hb dX5_valueAt_8 (by decide) (fun c_4 => ?_) (fun c_4 => ?_)
  · have hZ := jx_i_pos c_4 hZ
    refine lv_iconst (v := (0 : Int32)) hx hb dX5_valueAt_20 (by decide) ?_
    exact leave_i hx hb hr hlocks hP hS hZ dX5_valueAt_21
  · have hZ := jx_i_neg c_4 hZ
    refine lv_aload_n hx hb dX5_valueAt_11 rfl (lv_at hl 0 rfl) ?_
    refine gf_5_choice hx hb hts in5 hown hK hP (hts (.fieldLink RX5 19 "CoinsOfLast$Payer" "choice" "[I") (List.mem_of_getElem? (i := 1) rfl)) dX5_valueAt_12 ?_
    refine lv_iload_n hx hb dX5_valueAt_15 rfl (lv_at hl 1 rfl) ?_
    obtain ⟨c_5, hZ⟩ := jx_a_some hZ
    refine X_iald hx hb hK hP wX_15 c_5 dX5_valueAt_16 ?_
    refine lv_goto (tgt := 21) hx hb dX5_valueAt_17 (by decide) ?_
    exact leave_i hx hb hr hlocks hP hS hZ dX5_valueAt_21
-- X5_greatestChoice
def f_X5_greatestChoice_39 (S_5 : St) : Option (Int32 × St) :=
  some ((0 : Int32), S_5)
def f_X5_greatestChoice_31 (x2_7 : Int32) (S_7 : St) : Option (Int32 × St) :=
  some (x2_7, S_7)
def f_X5_greatestChoice_33i8 (x2_13 : Int32) (S_13 : St) : Option ((Int32 × St) ⊕ ((St) ⊕ ((Int32 × St)))) :=
  jx_l (x2_13 + (-1)) (fun x2_14 => some (.inl (x2_14, S_13)))
def b_X5_greatestChoice_8 (x2 : Int32) (S : St) : Option ((Int32 × St) ⊕ ((St) ⊕ ((Int32 × St)))) :=
  (if x2 ≤ 0 then some (.inr (.inl S)) else jx_a x2 1921 ((if (S.1 15 (Int32.toNatClampNeg x2)) = (-2147483648 : Int32) then f_X5_greatestChoice_33i8 x2 S else jx_b2 (f_X5_can x2 S) (fun r_18 S_16 => (if r_18 = 0 then f_X5_greatestChoice_33i8 x2 S_16 else some (.inr (.inr (x2, S_16))))))))
def g_X5_greatestChoice_8 : (Int32 × St) → Option ((Int32 × St) ⊕ ((St) ⊕ ((Int32 × St)))) := fun z => b_X5_greatestChoice_8 z.1 z.2
def f_X5_greatestChoice (x1 : Int32) (S : St) : Option (Int32 × St) :=
  jx_l (if (1920 : Int32) < x1 then (1920 : Int32) else x1) (fun x2_1 => jx_b (jx_w (g_X5_greatestChoice_8) FU (x2_1, S)) (fun z => Sum.elim (fun z => f_X5_greatestChoice_39 z) (fun z => f_X5_greatestChoice_31 z.1 z.2) z))
set_option maxHeartbeats 4000000 in
set_option maxRecDepth 100000 in
theorem c_X5_greatestChoice (l : Launch) (D : va_G) (q : Nat → Nat) (k : CI) (x1 : Int32) (S : St) (sz : Nat) (Z : Int32 × St) (hZ : f_X5_greatestChoice x1 S = some Z) : MetI W_X SX l yX5_greatestChoice wsX5_greatestChoice { frames := 1, cells := 0, slots := 0, locals := 21 } [.ref (q 12), .int x1] D q k S sz Z := by
  refine enter (cc := cX5_greatestChoice) (maxL := 3) (ret := some .int) (by decide) rfl (Nat.le_of_ble_eq_true rfl) ?_
  intro p e s m below meth c A ls hx hb hr hts hown hlocks hml hP hK hD hA hS hsp hAe hl
  have hown : s.vm.findClass RX5 = some m.cls := hown
  have hl : lv_has ls 3 [(0, .ref (q 12)), (1, .int x1)] := hl
  have in5 : ∀ w ∈ wsX50, w ∈ wsX5_greatestChoice := fun _ h => (List.mem_cons_of_mem _ (List.mem_append_right _ h))
  have j39 : ∀ (S_5 : St)  (H : Heap) (locs : List Loc) (hZ : f_X5_greatestChoice_39 S_5 = some Z) (hP : va_P D vwCl (W_X q k S_5) H) (hD : va_D A (W_X q k S_5)) (hS : va_S A s.heap H locs) (ls : Array Slot) (hl : lv_has ls 3 []), W p l e ({ frames := 1, cells := 0, slots := 0, locals := 21 } : Room) s m ([.ref (q 12), .int x1] : List Value).toArray below meth c H locs 0 0 (MQ below (va_Qi (fun r u => (r, u) = Z) (fun u t => va_P D vwCl (W_X q k u) t.heap) A) ([.ref (q 12), .int x1] : List Value).toArray s 0 0 A) (F0 m 39 ls []) := by
    intro S_5   H locs hZ hP hD hS ls hl
    unfold f_X5_greatestChoice_39 at hZ
    refine lv_iconst (v := (0 : Int32)) hx hb dX5_greatestChoice_39 (by decide) ?_
    exact leave_i hx hb hr hlocks hP hS hZ dX5_greatestChoice_40
  have j31 : ∀ (x2_7 : Int32) (S_7 : St)  (H : Heap) (locs : List Loc) (hZ : f_X5_greatestChoice_31 x2_7 S_7 = some Z) (hP : va_P D vwCl (W_X q k S_7) H) (hD : va_D A (W_X q k S_7)) (hS : va_S A s.heap H locs) (ls : Array Slot) (hl : lv_has ls 3 [(2, .int x2_7)]), W p l e ({ frames := 1, cells := 0, slots := 0, locals := 21 } : Room) s m ([.ref (q 12), .int x1] : List Value).toArray below meth c H locs 0 0 (MQ below (va_Qi (fun r u => (r, u) = Z) (fun u t => va_P D vwCl (W_X q k u) t.heap) A) ([.ref (q 12), .int x1] : List Value).toArray s 0 0 A) (F0 m 31 ls []) := by
    intro x2_7 S_7   H locs hZ hP hD hS ls hl
    unfold f_X5_greatestChoice_31 at hZ
    refine lv_iload_n hx hb dX5_greatestChoice_31 rfl (lv_at hl 0 rfl) ?_
    exact leave_i hx hb hr hlocks hP hS hZ dX5_greatestChoice_32
  unfold f_X5_greatestChoice at hZ
  refine lv_iload_n hx hb dX5_greatestChoice_0 rfl (lv_at hl 1 rfl) ?_
  refine lv_sipush (v := (1920 : Int32)) hx hb dX5_greatestChoice_1 (by decide) ?_
  refine va_mmin hx hb (hml.trans hl.1.symm) hown (hts _ (List.mem_of_getElem? (i := 1) rfl)) (hts _ (List.mem_of_getElem? (i := 2) rfl)) (hts _ (List.mem_of_getElem? (i := 3) rfl)) (hts _ (List.mem_of_getElem? (i := 4) rfl)) (Nat.le_of_ble_eq_true rfl) (Nat.le_of_ble_eq_true rfl) (Nat.zero_le _) (Nat.zero_le _) dX5_greatestChoice_4 ?_
  obtain ⟨x2_1, e_x2_1, hZ⟩ := jx_l_some hZ
  refine tx_i e_x2_1 ?_
  refine lv_istore_n (lv' := [(2, .int x2_1), (0, .ref (q 12)), (1, .int x1)]) hx hb dX5_greatestChoice_7 rfl hl (by decide) rfl (fun ls hl => ?_)
  obtain ⟨r_4, hw, hza_4⟩ := jx_b_some hZ
  have l_4 : ∀ (nn : Nat) (x2_2 : Int32) (S_3 : St) (H : Heap) (locs : List Loc) (hw : jx_w (g_X5_greatestChoice_8) nn (x2_2, S_3) = some r_4) (hP : va_P D vwCl (W_X q k S_3) H) (hD : va_D A (W_X q k S_3)) (hS : va_S A s.heap H locs) (ls : Array Slot) (hl : lv_has ls 3 [(0, .ref (q 12)), (2, .int x2_2)]), W p l e ({ frames := 1, cells := 0, slots := 0, locals := 21 } : Room) s m ([.ref (q 12), .int x1] : List Value).toArray below meth c H locs 0 0 (MQ below (va_Qi (fun r u => (r, u) = Z) (fun u t => va_P D vwCl (W_X q k u) t.heap) A) ([.ref (q 12), .int x1] : List Value).toArray s 0 0 A) (F0 m 8 ls []) := by
    intro nn
    induction nn with
    | zero =>
      intro x2_2 S_3 H locs hw hP hD hS ls hl
      exact jx_w_zero hw
    | succ n_4 ih_4 =>
      intro x2_2 S_3 H locs hw hP hD hS ls hl
      obtain ⟨o_4, hZ, hk_4⟩ := jx_w_succ hw
      have hZ : b_X5_greatestChoice_8 x2_2 S_3 = some o_4 := hZ
      have j33i8 : ∀ (x2_26 : Int32) (S_26 : St)  (o_4 : (Int32 × St) ⊕ ((St) ⊕ ((Int32 × St)))) (hk_4 : jx_k (g_X5_greatestChoice_8) n_4 r_4 o_4) (H : Heap) (locs : List Loc) (hZ : f_X5_greatestChoice_33i8 x2_26 S_26 = some o_4) (hP : va_P D vwCl (W_X q k S_26) H) (hD : va_D A (W_X q k S_26)) (hS : va_S A s.heap H locs) (ls : Array Slot) (hl : lv_has ls 3 [(0, .ref (q 12)), (2, .int x2_26)]), W p l e ({ frames := 1, cells := 0, slots := 0, locals := 21 } : Room) s m ([.ref (q 12), .int x1] : List Value).toArray below meth c H locs 0 0 (MQ below (va_Qi (fun r u => (r, u) = Z) (fun u t => va_P D vwCl (W_X q k u) t.heap) A) ([.ref (q 12), .int x1] : List Value).toArray s 0 0 A) (F0 m 33 ls []) := by
        intro x2_26 S_26  o_4 hk_4 H locs hZ hP hD hS ls hl
        unfold f_X5_greatestChoice_33i8 at hZ
        obtain ⟨x2_27, e_x2_27, hZ⟩ := jx_l_some hZ
        refine lv_iinc (v := x2_27) (lv' := [(2, .int x2_27), (0, .ref (q 12))]) hx hb dX5_greatestChoice_33 hl (k := 1) rfl (by rw [e_x2_27]; rfl) (by decide) rfl (fun ls hl => ?_)
        refine lv_goto (tgt := 8) hx hb dX5_greatestChoice_36 (by decide) ?_
        have ho := Option.some.inj hZ
        subst ho
        exact ih_4 x2_27 S_26 _ _ hk_4 hP hD hS _ (lv_sub hl [1, 0] rfl)
      unfold b_X5_greatestChoice_8 at hZ
      refine lv_iload_n hx hb dX5_greatestChoice_8 rfl (lv_at hl 1 rfl) ?_
      refine lv_if_le (tgt := 39) hx hb dX5_greatestChoice_9 (by decide) (fun c_22 => ?_) (fun c_22 => ?_)
      · have hZ := jx_i_pos c_22 hZ
        have ho := Option.some.inj hZ
        subst ho
        have hE := hza_4
        rw [← (show .inl S_3 = r_4 from hk_4)] at hE
        have hZ : f_X5_greatestChoice_39 S_3 = some Z := hE
        exact j39 S_3 _ _ hZ hP hD hS _ (lv_sub hl [] rfl)
      · have hZ := jx_i_neg c_22 hZ
        refine lv_aload_n hx hb dX5_greatestChoice_12 rfl (lv_at hl 0 rfl) ?_
        refine gf_5_choice hx hb hts in5 hown hK hP (hts (.fieldLink RX5 19 "CoinsOfLast$Payer" "choice" "[I") (List.mem_of_getElem? (i := 5) rfl)) dX5_greatestChoice_13 ?_
        refine lv_iload_n hx hb dX5_greatestChoice_16 rfl (lv_at hl 1 rfl) ?_
        obtain ⟨c_24, hZ⟩ := jx_a_some hZ
        refine X_iald hx hb hK hP wX_15 c_24 dX5_greatestChoice_17 ?_
        refine lv_ldc (v := (-2147483648 : Int32)) hx hb hown (hts (.constant RX5 64 (-2147483648)) (List.mem_of_getElem? (i := 6) rfl)) dX5_greatestChoice_18 ?_
        refine lv_icmp_eq (tgt := 33) hx hb dX5_greatestChoice_20 (by decide) (fun c_25 => ?_) (fun c_25 => ?_)
        · have hZ := jx_i_pos c_25 hZ
          exact j33i8 x2_2 S_3 _ hk_4 _ _ hZ hP hD hS _ (lv_sub hl [0, 1] rfl)
        · have hZ := jx_i_neg c_25 hZ
          refine lv_aload_n hx hb dX5_greatestChoice_23 rfl (lv_at hl 0 rfl) ?_
          refine lv_iload_n hx hb dX5_greatestChoice_24 rfl (lv_at hl 1 rfl) ?_
          obtain ⟨r_31, S_29, hc_30, hZ⟩ := jx_b2_some hZ
          refine call_Vi SX_ok sameX ⟨hx, hb, hml, hown, hts⟩ (c_X5_can l D q k x2_2 S_3 _ (r_31, S_29)  hc_30) (cwV 1 hts gX5_greatestChoice_X5_can rfl rfl rfl hd_X5_can ⟨Nat.le_of_ble_eq_true rfl, Nat.le_of_ble_eq_true rfl⟩) hK hP hD hS hA hsp (va_recv hK hP (ci := 5) (q0 := 12) rfl wX_12) (As := [.int x2_2]) rfl hl.1 rfl (Nat.le_of_ble_eq_true rfl) dX5_greatestChoice_25 ⟨Nat.zero_le _, Nat.zero_le _⟩ (fun H locs hP hD hS => ?_)
          refine lv_if_eq (tgt := 33) hx hb dX5_greatestChoice_28 (by decide) (fun c_32 => ?_) (fun c_32 => ?_)
          · have hZ := jx_i_pos c_32 hZ
            exact j33i8 x2_2 S_29 _ hk_4 _ _ hZ hP hD hS _ (lv_sub hl [0, 1] rfl)
          · have hZ := jx_i_neg c_32 hZ
            have ho := Option.some.inj hZ
            subst ho
            have hE := hza_4
            rw [← (show .inr (x2_2, S_29) = r_4 from hk_4)] at hE
            have hZ : f_X5_greatestChoice_31 x2_2 S_29 = some Z := hE
            exact j31 x2_2 S_29 _ _ hZ hP hD hS _ (lv_sub hl [1] rfl)
  exact l_4 FU x2_1 S _ _ hw hP hD hS _ (lv_sub hl [1, 0] rfl)
-- X5_dearestChoice
def f_X5_dearestChoice_47 (x2_5 : Int32) (S_5 : St) : Option (Int32 × St) :=
  some (x2_5, S_5)
def f_X5_dearestChoice_41i4 (x1 : Int32) (x2_14 : Int32) (x3_14 : Int32) (S_14 : St) : Option ((Int32 × Int32 × St) ⊕ ((Int32 × St))) :=
  jx_l (x3_14 + 1) (fun x3_15 => some (.inl (x2_14, x3_15, S_14)))
def b_X5_dearestChoice_4 (x1 : Int32) (x2 : Int32) (x3 : Int32) (S : St) : Option ((Int32 × Int32 × St) ⊕ ((Int32 × St))) :=
  (if x1 < x3 then some (.inr (x2, S)) else (if (1920 : Int32) < x3 then some (.inr (x2, S)) else jx_a x3 1921 (jx_a x2 1921 ((if (S.1 15 (Int32.toNatClampNeg x3)) ≤ (S.1 15 (Int32.toNatClampNeg x2)) then f_X5_dearestChoice_41i4 x1 x2 x3 S else jx_b2 (f_X5_can x3 S) (fun r_19 S_17 => (if r_19 = 0 then f_X5_dearestChoice_41i4 x1 x2 x3 S_17 else f_X5_dearestChoice_41i4 x1 x3 x3 S_17)))))))
def g_X5_dearestChoice_4 (x1 : Int32) : (Int32 × Int32 × St) → Option ((Int32 × Int32 × St) ⊕ ((Int32 × St))) := fun z => b_X5_dearestChoice_4 x1 z.1 z.2.1 z.2.2
def f_X5_dearestChoice (x1 : Int32) (S : St) : Option (Int32 × St) :=
  jx_b (jx_w (g_X5_dearestChoice_4 x1) FU ((0 : Int32), (1 : Int32), S)) (fun z => f_X5_dearestChoice_47 z.1 z.2)
set_option maxHeartbeats 4000000 in
set_option maxRecDepth 100000 in
theorem c_X5_dearestChoice (l : Launch) (D : va_G) (q : Nat → Nat) (k : CI) (x1 : Int32) (S : St) (sz : Nat) (Z : Int32 × St) (hZ : f_X5_dearestChoice x1 S = some Z) : MetI W_X SX l yX5_dearestChoice wsX5_dearestChoice { frames := 1, cells := 0, slots := 0, locals := 21 } [.ref (q 12), .int x1] D q k S sz Z := by
  refine enter (cc := cX5_dearestChoice) (maxL := 4) (ret := some .int) (by decide) rfl (Nat.le_of_ble_eq_true rfl) ?_
  intro p e s m below meth c A ls hx hb hr hts hown hlocks hml hP hK hD hA hS hsp hAe hl
  have hown : s.vm.findClass RX5 = some m.cls := hown
  have hl : lv_has ls 4 [(0, .ref (q 12)), (1, .int x1)] := hl
  have in5 : ∀ w ∈ wsX50, w ∈ wsX5_dearestChoice := fun _ h => (List.mem_cons_of_mem _ (List.mem_append_right _ h))
  have j47 : ∀ (x2_5 : Int32) (S_5 : St)  (H : Heap) (locs : List Loc) (hZ : f_X5_dearestChoice_47 x2_5 S_5 = some Z) (hP : va_P D vwCl (W_X q k S_5) H) (hD : va_D A (W_X q k S_5)) (hS : va_S A s.heap H locs) (ls : Array Slot) (hl : lv_has ls 4 [(2, .int x2_5)]), W p l e ({ frames := 1, cells := 0, slots := 0, locals := 21 } : Room) s m ([.ref (q 12), .int x1] : List Value).toArray below meth c H locs 0 0 (MQ below (va_Qi (fun r u => (r, u) = Z) (fun u t => va_P D vwCl (W_X q k u) t.heap) A) ([.ref (q 12), .int x1] : List Value).toArray s 0 0 A) (F0 m 47 ls []) := by
    intro x2_5 S_5   H locs hZ hP hD hS ls hl
    unfold f_X5_dearestChoice_47 at hZ
    refine lv_iload_n hx hb dX5_dearestChoice_47 rfl (lv_at hl 0 rfl) ?_
    exact leave_i hx hb hr hlocks hP hS hZ dX5_dearestChoice_48
  unfold f_X5_dearestChoice at hZ
  refine lv_iconst (v := (0 : Int32)) hx hb dX5_dearestChoice_0 (by decide) ?_
  refine lv_istore_n (lv' := [(2, .int (0 : Int32)), (0, .ref (q 12)), (1, .int x1)]) hx hb dX5_dearestChoice_1 rfl hl (by decide) rfl (fun ls hl => ?_)
  refine lv_iconst (v := (1 : Int32)) hx hb dX5_dearestChoice_2 (by decide) ?_
  refine lv_istore_n (lv' := [(3, .int (1 : Int32)), (2, .int (0 : Int32)), (0, .ref (q 12)), (1, .int x1)]) hx hb dX5_dearestChoice_3 rfl hl (by decide) rfl (fun ls hl => ?_)
  obtain ⟨r_4, hw, hza_4⟩ := jx_b_some hZ
  have l_4 : ∀ (nn : Nat) (x2_1 : Int32) (x3_2 : Int32) (S_3 : St) (H : Heap) (locs : List Loc) (hw : jx_w (g_X5_dearestChoice_4 x1) nn (x2_1, x3_2, S_3) = some r_4) (hP : va_P D vwCl (W_X q k S_3) H) (hD : va_D A (W_X q k S_3)) (hS : va_S A s.heap H locs) (ls : Array Slot) (hl : lv_has ls 4 [(0, .ref (q 12)), (1, .int x1), (2, .int x2_1), (3, .int x3_2)]), W p l e ({ frames := 1, cells := 0, slots := 0, locals := 21 } : Room) s m ([.ref (q 12), .int x1] : List Value).toArray below meth c H locs 0 0 (MQ below (va_Qi (fun r u => (r, u) = Z) (fun u t => va_P D vwCl (W_X q k u) t.heap) A) ([.ref (q 12), .int x1] : List Value).toArray s 0 0 A) (F0 m 4 ls []) := by
    intro nn
    induction nn with
    | zero =>
      intro x2_1 x3_2 S_3 H locs hw hP hD hS ls hl
      exact jx_w_zero hw
    | succ n_4 ih_4 =>
      intro x2_1 x3_2 S_3 H locs hw hP hD hS ls hl
      obtain ⟨o_4, hZ, hk_4⟩ := jx_w_succ hw
      have hZ : b_X5_dearestChoice_4 x1 x2_1 x3_2 S_3 = some o_4 := hZ
      have j41i4 : ∀ (x2_30 : Int32) (x3_30 : Int32) (S_30 : St)  (o_4 : (Int32 × Int32 × St) ⊕ ((Int32 × St))) (hk_4 : jx_k (g_X5_dearestChoice_4 x1) n_4 r_4 o_4) (H : Heap) (locs : List Loc) (hZ : f_X5_dearestChoice_41i4 x1 x2_30 x3_30 S_30 = some o_4) (hP : va_P D vwCl (W_X q k S_30) H) (hD : va_D A (W_X q k S_30)) (hS : va_S A s.heap H locs) (ls : Array Slot) (hl : lv_has ls 4 [(0, .ref (q 12)), (1, .int x1), (2, .int x2_30), (3, .int x3_30)]), W p l e ({ frames := 1, cells := 0, slots := 0, locals := 21 } : Room) s m ([.ref (q 12), .int x1] : List Value).toArray below meth c H locs 0 0 (MQ below (va_Qi (fun r u => (r, u) = Z) (fun u t => va_P D vwCl (W_X q k u) t.heap) A) ([.ref (q 12), .int x1] : List Value).toArray s 0 0 A) (F0 m 41 ls []) := by
        intro x2_30 x3_30 S_30  o_4 hk_4 H locs hZ hP hD hS ls hl
        unfold f_X5_dearestChoice_41i4 at hZ
        obtain ⟨x3_31, e_x3_31, hZ⟩ := jx_l_some hZ
        refine lv_iinc (v := x3_31) (lv' := [(3, .int x3_31), (0, .ref (q 12)), (1, .int x1), (2, .int x2_30)]) hx hb dX5_dearestChoice_41 hl (k := 3) rfl (by rw [e_x3_31]; rfl) (by decide) rfl (fun ls hl => ?_)
        refine lv_goto (tgt := 4) hx hb dX5_dearestChoice_44 (by decide) ?_
        have ho := Option.some.inj hZ
        subst ho
        exact ih_4 x2_30 x3_31 S_30 _ _ hk_4 hP hD hS _ (lv_sub hl [1, 2, 3, 0] rfl)
      unfold b_X5_dearestChoice_4 at hZ
      refine lv_iload_n hx hb dX5_dearestChoice_4 rfl (lv_at hl 3 rfl) ?_
      refine lv_iload_n hx hb dX5_dearestChoice_5 rfl (lv_at hl 1 rfl) ?_
      refine lv_icmp_gt (tgt := 47) hx hb dX5_dearestChoice_6 (by decide) (fun c_23 => ?_) (fun c_23 => ?_)
      · have hZ := jx_i_pos c_23 hZ
        have ho := Option.some.inj hZ
        subst ho
        have hE := hza_4
        rw [← (show (x2_1, S_3) = r_4 from hk_4)] at hE
        have hZ : f_X5_dearestChoice_47 x2_1 S_3 = some Z := hE
        exact j47 x2_1 S_3 _ _ hZ hP hD hS _ (lv_sub hl [2] rfl)
      · have hZ := jx_i_neg c_23 hZ
        refine lv_iload_n hx hb dX5_dearestChoice_9 rfl (lv_at hl 3 rfl) ?_
        refine lv_sipush (v := (1920 : Int32)) hx hb dX5_dearestChoice_10 (by decide) ?_
        refine lv_icmp_gt (tgt := 47) hx hb dX5_dearestChoice_13 (by decide) (fun c_25 => ?_) (fun c_25 => ?_)
        · have hZ := jx_i_pos c_25 hZ
          have ho := Option.some.inj hZ
          subst ho
          have hE := hza_4
          rw [← (show (x2_1, S_3) = r_4 from hk_4)] at hE
          have hZ : f_X5_dearestChoice_47 x2_1 S_3 = some Z := hE
          exact j47 x2_1 S_3 _ _ hZ hP hD hS _ (lv_sub hl [2] rfl)
        · have hZ := jx_i_neg c_25 hZ
          refine lv_aload_n hx hb dX5_dearestChoice_16 rfl (lv_at hl 0 rfl) ?_
          refine gf_5_choice hx hb hts in5 hown hK hP (hts (.fieldLink RX5 19 "CoinsOfLast$Payer" "choice" "[I") (List.mem_of_getElem? (i := 1) rfl)) dX5_dearestChoice_17 ?_
          refine lv_iload_n hx hb dX5_dearestChoice_20 rfl (lv_at hl 3 rfl) ?_
          obtain ⟨c_27, hZ⟩ := jx_a_some hZ
          refine X_iald hx hb hK hP wX_15 c_27 dX5_dearestChoice_21 ?_
          refine lv_aload_n hx hb dX5_dearestChoice_22 rfl (lv_at hl 0 rfl) ?_
          refine gf_5_choice hx hb hts in5 hown hK hP (hts (.fieldLink RX5 19 "CoinsOfLast$Payer" "choice" "[I") (List.mem_of_getElem? (i := 1) rfl)) dX5_dearestChoice_23 ?_
          refine lv_iload_n hx hb dX5_dearestChoice_26 rfl (lv_at hl 2 rfl) ?_
          obtain ⟨c_28, hZ⟩ := jx_a_some hZ
          refine X_iald hx hb hK hP wX_15 c_28 dX5_dearestChoice_27 ?_
          refine lv_icmp_le (tgt := 41) hx hb dX5_dearestChoice_28 (by decide) (fun c_29 => ?_) (fun c_29 => ?_)
          · have hZ := jx_i_pos c_29 hZ
            exact j41i4 x2_1 x3_2 S_3 _ hk_4 _ _ hZ hP hD hS _ (lv_sub hl [0, 1, 2, 3] rfl)
          · have hZ := jx_i_neg c_29 hZ
            refine lv_aload_n hx hb dX5_dearestChoice_31 rfl (lv_at hl 0 rfl) ?_
            refine lv_iload_n hx hb dX5_dearestChoice_32 rfl (lv_at hl 3 rfl) ?_
            obtain ⟨r_35, S_33, hc_34, hZ⟩ := jx_b2_some hZ
            refine call_Vi SX_ok sameX ⟨hx, hb, hml, hown, hts⟩ (c_X5_can l D q k x3_2 S_3 _ (r_35, S_33)  hc_34) (cwV 1 hts gX5_dearestChoice_X5_can rfl rfl rfl hd_X5_can ⟨Nat.le_of_ble_eq_true rfl, Nat.le_of_ble_eq_true rfl⟩) hK hP hD hS hA hsp (va_recv hK hP (ci := 5) (q0 := 12) rfl wX_12) (As := [.int x3_2]) rfl hl.1 rfl (Nat.le_of_ble_eq_true rfl) dX5_dearestChoice_33 ⟨Nat.zero_le _, Nat.zero_le _⟩ (fun H locs hP hD hS => ?_)
            refine lv_if_eq (tgt := 41) hx hb dX5_dearestChoice_36 (by decide) (fun c_36 => ?_) (fun c_36 => ?_)
            · have hZ := jx_i_pos c_36 hZ
              exact j41i4 x2_1 x3_2 S_33 _ hk_4 _ _ hZ hP hD hS _ (lv_sub hl [0, 1, 2, 3] rfl)
            · have hZ := jx_i_neg c_36 hZ
              refine lv_iload_n hx hb dX5_dearestChoice_39 rfl (lv_at hl 3 rfl) ?_
              refine lv_istore_n (lv' := [(2, .int x3_2), (0, .ref (q 12)), (1, .int x1), (3, .int x3_2)]) hx hb dX5_dearestChoice_40 rfl hl (by decide) rfl (fun ls hl => ?_)
              exact j41i4 x3_2 x3_2 S_33 _ hk_4 _ _ hZ hP hD hS _ (lv_sub hl [1, 2, 0, 3] rfl)
  exact l_4 FU (0 : Int32) (1 : Int32) S _ _ hw hP hD hS _ (lv_sub hl [2, 3, 1, 0] rfl)
