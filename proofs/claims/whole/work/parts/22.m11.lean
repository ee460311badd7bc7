-- X12_canPay
def f_X12_canPay (x1 : Int32) (S : St) : Option (Int32 × St) :=
  (if (1920 : Int32) < x1 then some ((0 : Int32), S) else jx_d (64 : Int32) (jx_a (x1 / (64 : Int32)) 31 (jx_d (64 : Int32) ((if (lg_cmp (((Int64.toUInt64 (S.2 22 (Int32.toNatClampNeg (x1 / (64 : Int32)))) >>> ((Int32.toInt64 (x1 - x1 / (64 : Int32) * (64 : Int32))).toUInt64 &&& Int64.toUInt64 63)).toInt64) &&& (1 : Int64)) (1 : Int64)) = 0 then some ((1 : Int32), S) else some ((0 : Int32), S))))))
set_option maxHeartbeats 4000000 in
set_option maxRecDepth 100000 in
theorem c_X12_canPay (l : Launch) (D : va_G) (q : Nat → Nat) (k : CI) (x1 : Int32) (S : St) (sz : Nat) (Z : Int32 × St) (hZ : f_X12_canPay x1 S = some Z) : MetI W_M SM l yX12_canPay wsX12_canPay { frames := 0, cells := 0, slots := 0, locals := 0 } [.ref (q 0), .int x1] D q k S sz Z := by
  refine enter (cc := cX12_canPay) (maxL := 2) (ret := some .boolean) (by decide) rfl (Nat.le_of_ble_eq_true rfl) ?_
  intro p e s m below meth c A ls hx hb hr hts hown hlocks hml hP hK hD hA hS hsp hAe hl
  have hown : s.vm.findClass RX12 = some m.cls := hown
  have hl : lv_has ls 2 [(0, .ref (q 0)), (1, .int x1)] := hl
  have in12 : ∀ w ∈ wsX120, w ∈ wsX12_canPay := fun _ h => (List.mem_cons_of_mem _ (List.mem_append_right _ h))
  unfold f_X12_canPay at hZ
  refine lv_iload_n hx hb dX12_canPay_0 rfl (lv_at hl 1 rfl) ?_
  refine lv_sipush (v := (1920 : Int32)) hx hb dX12_canPay_1 (by decide) ?_
  refine lv_icmp_gt (tgt := 32) hx hb dX12_canPay_4 (by decide) (fun c_1 => ?_) (fun c_1 => ?_)
  · have hZ := jx_i_pos c_1 hZ
    refine lv_iconst (v := (0 : Int32)) hx hb dX12_canPay_32 (by decide) ?_
    exact leave_z hx hb hr hlocks rfl hP hS hZ dX12_canPay_33
  · have hZ := jx_i_neg c_1 hZ
    refine lv_aload_n hx hb dX12_canPay_7 rfl (lv_at hl 0 rfl) ?_
    refine gf_12_bits hx hb hts in12 hown hK hP (hts (.fieldLink RX12 74 "CoinsOfLastModel" "bits" "[J") (List.mem_of_getElem? (i := 1) rfl)) dX12_canPay_8 ?_
    refine lv_iload_n hx hb dX12_canPay_11 rfl (lv_at hl 1 rfl) ?_
    refine lv_bipush (v := (64 : Int32)) hx hb dX12_canPay_12 (by decide) ?_
    obtain ⟨c_2, hZ⟩ := jx_d_some hZ
    refine lv_idiv hx hb dX12_canPay_14 c_2 ?_
    obtain ⟨c_3, hZ⟩ := jx_a_some hZ
    refine M_lald hx hb hK hP wM_22 c_3 dX12_canPay_15 ?_
    refine lv_iload_n hx hb dX12_canPay_16 rfl (lv_at hl 1 rfl) ?_
    refine lv_bipush (v := (64 : Int32)) hx hb dX12_canPay_17 (by decide) ?_
    obtain ⟨c_4, hZ⟩ := jx_d_some hZ
    refine lv_irem hx hb dX12_canPay_19 c_4 ?_
    refine lv_lushr (v := (Int64.toUInt64 (S.2 22 (Int32.toNatClampNeg (x1 / (64 : Int32)))) >>> ((Int32.toInt64 (x1 - x1 / (64 : Int32) * (64 : Int32))).toUInt64 &&& Int64.toUInt64 63)).toInt64) hx hb dX12_canPay_20 rfl ?_
    refine lv_lconst (v := (1 : Int64)) hx hb dX12_canPay_21 (by decide) ?_
    refine lv_land hx hb dX12_canPay_22 ?_
    refine lv_lconst (v := (1 : Int64)) hx hb dX12_canPay_23 (by decide) ?_
    refine W.lcmp hx hb dX12_canPay_24 ?_
    refine lv_if_ne (tgt := 32) hx hb dX12_canPay_25 (by decide) (fun c_5 => ?_) (fun c_5 => ?_)
    · have hZ := jx_i_neg c_5 hZ
      refine lv_iconst (v := (0 : Int32)) hx hb dX12_canPay_32 (by decide) ?_
      exact leave_z hx hb hr hlocks rfl hP hS hZ dX12_canPay_33
    · have hZ := jx_i_pos c_5 hZ
      refine lv_iconst (v := (1 : Int32)) hx hb dX12_canPay_28 (by decide) ?_
      refine lv_goto (tgt := 33) hx hb dX12_canPay_29 (by decide) ?_
      exact leave_z hx hb hr hlocks rfl hP hS hZ dX12_canPay_33
-- X12_isMore
def f_X12_isMore_22 (S_2 : St) : Option (Int32 × St) :=
  some ((1 : Int32), S_2)
def f_X12_isMore (x0 : Int32) (x1 : Int32) (x2 : Int32) (S : St) : Option (Int32 × St) :=
  (if x2 = (-1 : Int32) then f_X12_isMore_22 S else (if x0 = 0 then (if x2 ≤ x1 then some ((0 : Int32), S) else f_X12_isMore_22 S) else (if x1 ≤ x2 then some ((0 : Int32), S) else f_X12_isMore_22 S)))
set_option maxHeartbeats 4000000 in
set_option maxRecDepth 100000 in
theorem c_X12_isMore (l : Launch) (D : va_G) (q : Nat → Nat) (k : CI) (x0 : Int32) (x1 : Int32) (x2 : Int32) (S : St) (sz : Nat) (Z : Int32 × St) (hZ : f_X12_isMore x0 x1 x2 S = some Z) : MetI W_M SM l yX12_isMore wsX12_isMore { frames := 0, cells := 0, slots := 0, locals := 0 } [.int x0, .int x1, .int x2] D q k S sz Z := by
  refine enter (cc := cX12_isMore) (maxL := 3) (ret := some .boolean) (by decide) rfl (Nat.le_of_ble_eq_true rfl) ?_
  intro p e s m below meth c A ls hx hb hr hts hown hlocks hml hP hK hD hA hS hsp hAe hl
  have hown : s.vm.findClass RX12 = some m.cls := hown
  have hl : lv_has ls 3 [(0, .int x0), (1, .int x1), (2, .int x2)] := hl
  have j22 : ∀ (S_2 : St)  (H : Heap) (locs : List Loc) (hZ : f_X12_isMore_22 S_2 = some Z) (hP : va_P D vwCl (W_M q k S_2) H) (hD : va_D A (W_M q k S_2)) (hS : va_S A s.heap H locs) (ls : Array Slot) (hl : lv_has ls 3 []), W p l e ({ frames := 0, cells := 0, slots := 0, locals := 0 } : Room) s m ([.int x0, .int x1, .int x2] : List Value).toArray below meth c H locs 0 0 (MQ below (va_Qi (fun r u => (r, u) = Z) (fun u t => va_P D vwCl (W_M q k u) t.heap) A) ([.int x0, .int x1, .int x2] : List Value).toArray s 0 0 A) (F0 m 22 ls []) := by
    intro S_2   H locs hZ hP hD hS ls hl
    unfold f_X12_isMore_22 at hZ
    refine lv_iconst (v := (1 : Int32)) hx hb dX12_isMore_22 (by decide) ?_
    refine lv_goto (tgt := 27) hx hb dX12_isMore_23 (by decide) ?_
    exact leave_z hx hb hr hlocks rfl hP hS hZ dX12_isMore_27
  unfold f_X12_isMore at hZ
  refine lv_iload_n hx hb dX12_isMore_0 rfl (lv_at hl 2 rfl) ?_
  refine lv_iconst (v := (-1 : Int32)) hx hb dX12_isMore_1 (by decide) ?_
  refine lv_icmp_eq (tgt := 22) hx hb dX12_isMore_2 (by decide) (fun c_1 => ?_) (fun c_1 => ?_)
  · have hZ := jx_i_pos c_1 hZ
    exact j22 S _ _ hZ hP hD hS _ (lv_sub hl [] rfl)
  · have hZ := jx_i_neg c_1 hZ
    refine lv_iload_n hx hb dX12_isMore_5 rfl (lv_at hl 0 rfl) ?_
    refine lv_if_ne (tgt := 17) hx hb dX12_isMore_6 (by decide) (fun c_4 => ?_) (fun c_4 => ?_)
    · have hZ := jx_i_neg c_4 hZ
      refine lv_iload_n hx hb dX12_isMore_17 rfl (lv_at hl 1 rfl) ?_
      refine lv_iload_n hx hb dX12_isMore_18 rfl (lv_at hl 2 rfl) ?_
      refine lv_icmp_le (tgt := 26) hx hb dX12_isMore_19 (by decide) (fun c_5 => ?_) (fun c_5 => ?_)
      · have hZ := jx_i_pos c_5 hZ
        refine lv_iconst (v := (0 : Int32)) hx hb dX12_isMore_26 (by decide) ?_
        exact leave_z hx hb hr hlocks rfl hP hS hZ dX12_isMore_27
      · have hZ := jx_i_neg c_5 hZ
        exact j22 S _ _ hZ hP hD hS _ (lv_sub hl [] rfl)
    · have hZ := jx_i_pos c_4 hZ
      refine lv_iload_n hx hb dX12_isMore_9 rfl (lv_at hl 1 rfl) ?_
      refine lv_iload_n hx hb dX12_isMore_10 rfl (lv_at hl 2 rfl) ?_
      refine lv_icmp_ge (tgt := 26) hx hb dX12_isMore_11 (by decide) (fun c_7 => ?_) (fun c_7 => ?_)
      · have hZ := jx_i_pos c_7 hZ
        refine lv_iconst (v := (0 : Int32)) hx hb dX12_isMore_26 (by decide) ?_
        exact leave_z hx hb hr hlocks rfl hP hS hZ dX12_isMore_27
      · have hZ := jx_i_neg c_7 hZ
        refine lv_goto (tgt := 22) hx hb dX12_isMore_14 (by decide) ?_
        exact j22 S _ _ hZ hP hD hS _ (lv_sub hl [] rfl)
theorem hd_X12_isMore : yX12_isMore.cls ≠ "java/lang/invoke/MethodHandle" ∧ yX12_isMore.cls ≠ "java/lang/invoke/VarHandle" ∧ (parseMethodDescriptor yX12_isMore.desc).map (fun d => d.parameters.length) = some 3 := by decide +kernel
-- X12_fills
def f_X12_fills_146 (S_7 : St) : Option (St) :=
  some S_7
def f_X12_fills_125i25 (x1 : Int32) (x3 : Int32) (x4 : Int32) (x5_15 : Int32) (x6_15 : Int32) (S_15 : St) : Option ((Int32 × St) ⊕ (St)) :=
  jx_a (((1921 : Int32) * x1) + x5_15) 17289 (jx_l (u1 S_15 23 (Int32.toNatClampNeg (((1921 : Int32) * x1) + x5_15)) x6_15) (fun S_17 => jx_l (x5_15 + 1) (fun x5_18 => some (.inl (x5_18, S_17)))))
def f_X12_fills_117i39 (x1 : Int32) (x3 : Int32) (x4 : Int32) (x5 : Int32) (x7_30 : Int32) (s0_30 : Int32) (S_30 : St) : Option ((Int32 × Int32 × St) ⊕ ((Int32 × St))) :=
  jx_l (x7_30 + 1) (fun x7_31 => some (.inl (s0_30, x7_31, S_30)))
def f_X12_fills_115i39 (x1 : Int32) (x3 : Int32) (x4 : Int32) (x5 : Int32) (x6_29 : Int32) (x7_29 : Int32) (S_29 : St) : Option ((Int32 × Int32 × St) ⊕ ((Int32 × St))) :=
  f_X12_fills_117i39 x1 x3 x4 x5 x7_29 x6_29 S_29
def b_X12_fills_39 (x1 : Int32) (x3 : Int32) (x4 : Int32) (x5 : Int32) (x6 : Int32) (x7 : Int32) (S : St) : Option ((Int32 × Int32 × St) ⊕ ((Int32 × St))) :=
  (if x4 < x7 then some (.inr (x6, S)) else jx_a x1 8 ((if x5 < (x7 * (S.1 2 (Int32.toNatClampNeg x1))) then some (.inr (x6, S)) else jx_a x1 8 (jx_a ((((1921 : Int32) * (x1 + (1 : Int32))) + x5) - (x7 * (S.1 2 (Int32.toNatClampNeg x1)))) 17289 (jx_l (S.1 23 (Int32.toNatClampNeg ((((1921 : Int32) * (x1 + (1 : Int32))) + x5) - (x7 * (S.1 2 (Int32.toNatClampNeg x1)))))) (fun x8_27 => (if x8_27 = (-1 : Int32) then f_X12_fills_115i39 x1 x3 x4 x5 x6 x7 S else jx_b2 (f_X12_isMore x3 (x7 + x8_27) x6 S) (fun r_36 S_34 => (if r_36 = 0 then f_X12_fills_115i39 x1 x3 x4 x5 x6 x7 S_34 else f_X12_fills_117i39 x1 x3 x4 x5 x7 (x7 + x8_27) S_34)))))))))
def g_X12_fills_39 (x1 : Int32) (x3 : Int32) (x4 : Int32) (x5 : Int32) : (Int32 × Int32 × St) → Option ((Int32 × Int32 × St) ⊕ ((Int32 × St))) := fun z => b_X12_fills_39 x1 x3 x4 x5 z.1 z.2.1 z.2.2
def b_X12_fills_25 (x1 : Int32) (x3 : Int32) (x4 : Int32) (x5 : Int32) (S : St) : Option ((Int32 × St) ⊕ (St)) :=
  (if (1920 : Int32) < x5 then some (.inr S) else jx_b (jx_w (g_X12_fills_39 x1 x3 x4 x5) FU ((-1 : Int32), (0 : Int32), S)) (fun z => f_X12_fills_125i25 x1 x3 x4 x5 z.1 z.2))
def g_X12_fills_25 (x1 : Int32) (x3 : Int32) (x4 : Int32) : (Int32 × St) → Option ((Int32 × St) ⊕ (St)) := fun z => b_X12_fills_25 x1 x3 x4 z.1 z.2
def f_X12_fills_20 (x1_3 : Int32) (x3_3 : Int32) (s0_3 : Int32) (S_3 : St) : Option (St) :=
  jx_b (jx_w (g_X12_fills_25 x1_3 x3_3 s0_3) FU ((0 : Int32), S_3)) (fun z => f_X12_fills_146 z)
def f_X12_fills (x1 : Int32) (x2 : Int32) (x3 : Int32) (S : St) : Option (St) :=
  jx_a x1 8 ((if (S.1 1 (Int32.toNatClampNeg x1)) = x2 then jx_a x1 8 (f_X12_fills_20 x1 x3 (S.1 5 (Int32.toNatClampNeg x1)) S) else f_X12_fills_20 x1 x3 (0 : Int32) S))
set_option maxHeartbeats 4000000 in
set_option maxRecDepth 100000 in
theorem c_X12_fills (l : Launch) (D : va_G) (q : Nat → Nat) (k : CI) (x1 : Int32) (x2 : Int32) (x3 : Int32) (S : St) (sz : Nat) (Z : St) (hZ : f_X12_fills x1 x2 x3 S = some Z) : MetV W_M SM l yX12_fills wsX12_fills { frames := 1, cells := 0, slots := 0, locals := 22 } [.ref (q 0), .int x1, .int x2, .int x3] D q k S sz Z := by
  refine enter (cc := cX12_fills) (maxL := 9) (ret := none) (by decide) rfl (Nat.le_of_ble_eq_true rfl) ?_
  intro p e s m below meth c A ls hx hb hr hts hown hlocks hml hP hK hD hA hS hsp hAe hl
  have hown : s.vm.findClass RX12 = some m.cls := hown
  have hl : lv_has ls 9 [(0, .ref (q 0)), (1, .int x1), (2, .int x2), (3, .int x3)] := hl
  have in12 : ∀ w ∈ wsX120, w ∈ wsX12_fills := fun _ h => (List.mem_cons_of_mem _ (List.mem_append_right _ h))
  have j146 : ∀ (S_7 : St)  (H : Heap) (locs : List Loc) (hZ : f_X12_fills_146 S_7 = some Z) (hP : va_P D vwCl (W_M q k S_7) H) (hD : va_D A (W_M q k S_7)) (hS : va_S A s.heap H locs) (ls : Array Slot) (hl : lv_has ls 9 []), W p l e ({ frames := 1, cells := 0, slots := 0, locals := 22 } : Room) s m ([.ref (q 0), .int x1, .int x2, .int x3] : List Value).toArray below meth c H locs 0 0 (MQ below (va_Qv (fun u => u = Z) (fun u t => va_P D vwCl (W_M q k u) t.heap) A) ([.ref (q 0), .int x1, .int x2, .int x3] : List Value).toArray s 0 0 A) (F0 m 146 ls []) := by
    intro S_7   H locs hZ hP hD hS ls hl
    unfold f_X12_fills_146 at hZ
    exact leave_v hx hb hr hlocks hP hS hZ dX12_fills_146
  have j20 : ∀ (x1_3 : Int32) (x3_3 : Int32) (s0_3 : Int32) (S_3 : St)  (H : Heap) (locs : List Loc) (hZ : f_X12_fills_20 x1_3 x3_3 s0_3 S_3 = some Z) (hP : va_P D vwCl (W_M q k S_3) H) (hD : va_D A (W_M q k S_3)) (hS : va_S A s.heap H locs) (ls : Array Slot) (hl : lv_has ls 9 [(0, .ref (q 0)), (1, .int x1_3), (3, .int x3_3)]), W p l e ({ frames := 1, cells := 0, slots := 0, locals := 22 } : Room) s m ([.ref (q 0), .int x1, .int x2, .int x3] : List Value).toArray below meth c H locs 0 0 (MQ below (va_Qv (fun u => u = Z) (fun u t => va_P D vwCl (W_M q k u) t.heap) A) ([.ref (q 0), .int x1, .int x2, .int x3] : List Value).toArray s 0 0 A) (F0 m 20 ls [.int s0_3]) := by
    intro x1_3 x3_3 s0_3 S_3   H locs hZ hP hD hS ls hl
    unfold f_X12_fills_20 at hZ
    refine lv_istore (lv' := [(4, .int s0_3), (0, .ref (q 0)), (1, .int x1_3), (3, .int x3_3)]) hx hb dX12_fills_20 hl (by decide) rfl (fun ls hl => ?_)
    refine lv_iconst (v := (0 : Int32)) hx hb dX12_fills_22 (by decide) ?_
    refine lv_istore (lv' := [(5, .int (0 : Int32)), (4, .int s0_3), (0, .ref (q 0)), (1, .int x1_3), (3, .int x3_3)]) hx hb dX12_fills_23 hl (by decide) rfl (fun ls hl => ?_)
    obtain ⟨r_6, hw, hza_6⟩ := jx_b_some hZ
    have l_6 : ∀ (nn : Nat) (x5_4 : Int32) (S_5 : St) (H : Heap) (locs : List Loc) (hw : jx_w (g_X12_fills_25 x1_3 x3_3 s0_3) nn (x5_4, S_5) = some r_6) (hP : va_P D vwCl (W_M q k S_5) H) (hD : va_D A (W_M q k S_5)) (hS : va_S A s.heap H locs) (ls : Array Slot) (hl : lv_has ls 9 [(0, .ref (q 0)), (1, .int x1_3), (3, .int x3_3), (4, .int s0_3), (5, .int x5_4)]), W p l e ({ frames := 1, cells := 0, slots := 0, locals := 22 } : Room) s m ([.ref (q 0), .int x1, .int x2, .int x3] : List Value).toArray below meth c H locs 0 0 (MQ below (va_Qv (fun u => u = Z) (fun u t => va_P D vwCl (W_M q k u) t.heap) A) ([.ref (q 0), .int x1, .int x2, .int x3] : List Value).toArray s 0 0 A) (F0 m 25 ls []) := by
      intro nn
      induction nn with
      | zero =>
        intro x5_4 S_5 H locs hw hP hD hS ls hl
        exact jx_w_zero hw
      | succ n_6 ih_6 =>
        intro x5_4 S_5 H locs hw hP hD hS ls hl
        obtain ⟨o_6, hZ, hk_6⟩ := jx_w_succ hw
        have hZ : b_X12_fills_25 x1_3 x3_3 s0_3 x5_4 S_5 = some o_6 := hZ
        have j125i25 : ∀ (x5_66 : Int32) (x6_66 : Int32) (S_66 : St)  (o_6 : (Int32 × St) ⊕ (St)) (hk_6 : jx_k (g_X12_fills_25 x1_3 x3_3 s0_3) n_6 r_6 o_6) (H : Heap) (locs : List Loc) (hZ : f_X12_fills_125i25 x1_3 x3_3 s0_3 x5_66 x6_66 S_66 = some o_6) (hP : va_P D vwCl (W_M q k S_66) H) (hD : va_D A (W_M q k S_66)) (hS : va_S A s.heap H locs) (ls : Array Slot) (hl : lv_has ls 9 [(0, .ref (q 0)), (1, .int x1_3), (3, .int x3_3), (4, .int s0_3), (5, .int x5_66), (6, .int x6_66)]), W p l e ({ frames := 1, cells := 0, slots := 0, locals := 22 } : Room) s m ([.ref (q 0), .int x1, .int x2, .int x3] : List Value).toArray below meth c H locs 0 0 (MQ below (va_Qv (fun u => u = Z) (fun u t => va_P D vwCl (W_M q k u) t.heap) A) ([.ref (q 0), .int x1, .int x2, .int x3] : List Value).toArray s 0 0 A) (F0 m 125 ls []) := by
          intro x5_66 x6_66 S_66  o_6 hk_6 H locs hZ hP hD hS ls hl
          unfold f_X12_fills_125i25 at hZ
          refine lv_aload_n hx hb dX12_fills_125 rfl (lv_at hl 0 rfl) ?_
          refine gf_12_coins hx hb hts in12 hown hK hP (hts (.fieldLink RX12 78 "CoinsOfLastModel" "coins" "[I") (List.mem_of_getElem? (i := 4) rfl)) dX12_fills_126 ?_
          refine lv_sipush (v := (1921 : Int32)) hx hb dX12_fills_129 (by decide) ?_
          refine lv_iload_n hx hb dX12_fills_132 rfl (lv_at hl 1 rfl) ?_
          refine lv_imul hx hb dX12_fills_133 ?_
          refine lv_iload hx hb dX12_fills_134 (lv_at hl 4 rfl) ?_
          refine lv_iadd hx hb dX12_fills_136 ?_
          refine lv_iload hx hb dX12_fills_137 (lv_at hl 5 rfl) ?_
          obtain ⟨c_67, hZ⟩ := jx_a_some hZ
          obtain ⟨S_68, e_S_68, hZ⟩ := jx_l_some hZ
          refine M_iast hx hb hK hP hD hS wM_23 (fun _ => wMs_23) c_67 e_S_68 dX12_fills_139 (fun H locs hP hD hS => ?_)
          obtain ⟨x5_69, e_x5_69, hZ⟩ := jx_l_some hZ
          refine lv_iinc (v := x5_69) (lv' := [(5, .int x5_69), (0, .ref (q 0)), (1, .int x1_3), (3, .int x3_3), (4, .int s0_3), (6, .int x6_66)]) hx hb dX12_fills_140 hl (k := 4) rfl (by rw [e_x5_69]; rfl) (by decide) rfl (fun ls hl => ?_)
          refine lv_goto (tgt := 25) hx hb dX12_fills_143 (by decide) ?_
          have ho := Option.some.inj hZ
          subst ho
          exact ih_6 x5_69 S_68 _ _ hk_6 hP hD hS _ (lv_sub hl [1, 2, 3, 4, 0] rfl)
        unfold b_X12_fills_25 at hZ
        refine lv_iload hx hb dX12_fills_25 (lv_at hl 4 rfl) ?_
        refine lv_sipush (v := (1920 : Int32)) hx hb dX12_fills_27 (by decide) ?_
        refine lv_icmp_gt (tgt := 146) hx hb dX12_fills_30 (by decide) (fun c_60 => ?_) (fun c_60 => ?_)
        · have hZ := jx_i_pos c_60 hZ
          have ho := Option.some.inj hZ
          subst ho
          have hE := hza_6
          rw [← (show S_5 = r_6 from hk_6)] at hE
          have hZ : f_X12_fills_146 S_5 = some Z := hE
          exact j146 S_5 _ _ hZ hP hD hS _ (lv_sub hl [] rfl)
        · have hZ := jx_i_neg c_60 hZ
          refine lv_iconst (v := (-1 : Int32)) hx hb dX12_fills_33 (by decide) ?_
          refine lv_istore (lv' := [(6, .int (-1 : Int32)), (0, .ref (q 0)), (1, .int x1_3), (3, .int x3_3), (4, .int s0_3), (5, .int x5_4)]) hx hb dX12_fills_34 hl (by decide) rfl (fun ls hl => ?_)
          refine lv_iconst (v := (0 : Int32)) hx hb dX12_fills_36 (by decide) ?_
          refine lv_istore (lv' := [(7, .int (0 : Int32)), (6, .int (-1 : Int32)), (0, .ref (q 0)), (1, .int x1_3), (3, .int x3_3), (4, .int s0_3), (5, .int x5_4)]) hx hb dX12_fills_37 hl (by decide) rfl (fun ls hl => ?_)
          obtain ⟨r_65, hw, hza_65⟩ := jx_b_some hZ
          have l_65 : ∀ (nn : Nat) (x6_62 : Int32) (x7_63 : Int32) (S_64 : St) (H : Heap) (locs : List Loc) (hw : jx_w (g_X12_fills_39 x1_3 x3_3 s0_3 x5_4) nn (x6_62, x7_63, S_64) = some r_65) (hP : va_P D vwCl (W_M q k S_64) H) (hD : va_D A (W_M q k S_64)) (hS : va_S A s.heap H locs) (ls : Array Slot) (hl : lv_has ls 9 [(0, .ref (q 0)), (1, .int x1_3), (3, .int x3_3), (4, .int s0_3), (5, .int x5_4), (6, .int x6_62), (7, .int x7_63)]), W p l e ({ frames := 1, cells := 0, slots := 0, locals := 22 } : Room) s m ([.ref (q 0), .int x1, .int x2, .int x3] : List Value).toArray below meth c H locs 0 0 (MQ below (va_Qv (fun u => u = Z) (fun u t => va_P D vwCl (W_M q k u) t.heap) A) ([.ref (q 0), .int x1, .int x2, .int x3] : List Value).toArray s 0 0 A) (F0 m 39 ls []) := by
            intro nn
            induction nn with
            | zero =>
              intro x6_62 x7_63 S_64 H locs hw hP hD hS ls hl
              exact jx_w_zero hw
            | succ n_65 ih_65 =>
              intro x6_62 x7_63 S_64 H locs hw hP hD hS ls hl
              obtain ⟨o_65, hZ, hk_65⟩ := jx_w_succ hw
              have hZ : b_X12_fills_39 x1_3 x3_3 s0_3 x5_4 x6_62 x7_63 S_64 = some o_65 := hZ
              have j117i39 : ∀ (x7_101 : Int32) (s0_101 : Int32) (S_101 : St)  (o_65 : (Int32 × Int32 × St) ⊕ ((Int32 × St))) (hk_65 : jx_k (g_X12_fills_39 x1_3 x3_3 s0_3 x5_4) n_65 r_65 o_65) (H : Heap) (locs : List Loc) (hZ : f_X12_fills_117i39 x1_3 x3_3 s0_3 x5_4 x7_101 s0_101 S_101 = some o_65) (hP : va_P D vwCl (W_M q k S_101) H) (hD : va_D A (W_M q k S_101)) (hS : va_S A s.heap H locs) (ls : Array Slot) (hl : lv_has ls 9 [(0, .ref (q 0)), (1, .int x1_3), (3, .int x3_3), (4, .int s0_3), (5, .int x5_4), (7, .int x7_101)]), W p l e ({ frames := 1, cells := 0, slots := 0, locals := 22 } : Room) s m ([.ref (q 0), .int x1, .int x2, .int x3] : List Value).toArray below meth c H locs 0 0 (MQ below (va_Qv (fun u => u = Z) (fun u t => va_P D vwCl (W_M q k u) t.heap) A) ([.ref (q 0), .int x1, .int x2, .int x3] : List Value).toArray s 0 0 A) (F0 m 117 ls [.int s0_101]) := by
                intro x7_101 s0_101 S_101  o_65 hk_65 H locs hZ hP hD hS ls hl
                unfold f_X12_fills_117i39 at hZ
                refine lv_istore (lv' := [(6, .int s0_101), (0, .ref (q 0)), (1, .int x1_3), (3, .int x3_3), (4, .int s0_3), (5, .int x5_4), (7, .int x7_101)]) hx hb dX12_fills_117 hl (by decide) rfl (fun ls hl => ?_)
                obtain ⟨x7_102, e_x7_102, hZ⟩ := jx_l_some hZ
                refine lv_iinc (v := x7_102) (lv' := [(7, .int x7_102), (6, .int s0_101), (0, .ref (q 0)), (1, .int x1_3), (3, .int x3_3), (4, .int s0_3), (5, .int x5_4)]) hx hb dX12_fills_119 hl (k := 6) rfl (by rw [e_x7_102]; rfl) (by decide) rfl (fun ls hl => ?_)
                refine lv_goto (tgt := 39) hx hb dX12_fills_122 (by decide) ?_
                have ho := Option.some.inj hZ
                subst ho
                exact ih_65 s0_101 x7_102 S_101 _ _ hk_65 hP hD hS _ (lv_sub hl [2, 3, 4, 5, 6, 1, 0] rfl)
              have j115i39 : ∀ (x6_100 : Int32) (x7_100 : Int32) (S_100 : St)  (o_65 : (Int32 × Int32 × St) ⊕ ((Int32 × St))) (hk_65 : jx_k (g_X12_fills_39 x1_3 x3_3 s0_3 x5_4) n_65 r_65 o_65) (H : Heap) (locs : List Loc) (hZ : f_X12_fills_115i39 x1_3 x3_3 s0_3 x5_4 x6_100 x7_100 S_100 = some o_65) (hP : va_P D vwCl (W_M q k S_100) H) (hD : va_D A (W_M q k S_100)) (hS : va_S A s.heap H locs) (ls : Array Slot) (hl : lv_has ls 9 [(0, .ref (q 0)), (1, .int x1_3), (3, .int x3_3), (4, .int s0_3), (5, .int x5_4), (6, .int x6_100), (7, .int x7_100)]), W p l e ({ frames := 1, cells := 0, slots := 0, locals := 22 } : Room) s m ([.ref (q 0), .int x1, .int x2, .int x3] : List Value).toArray below meth c H locs 0 0 (MQ below (va_Qv (fun u => u = Z) (fun u t => va_P D vwCl (W_M q k u) t.heap) A) ([.ref (q 0), .int x1, .int x2, .int x3] : List Value).toArray s 0 0 A) (F0 m 115 ls []) := by
                intro x6_100 x7_100 S_100  o_65 hk_65 H locs hZ hP hD hS ls hl
                unfold f_X12_fills_115i39 at hZ
                refine lv_iload hx hb dX12_fills_115 (lv_at hl 5 rfl) ?_
                exact j117i39 x7_100 x6_100 S_100 _ hk_65 _ _ hZ hP hD hS _ (lv_sub hl [0, 1, 2, 3, 4, 6] rfl)
              unfold b_X12_fills_39 at hZ
              refine lv_iload hx hb dX12_fills_39 (lv_at hl 6 rfl) ?_
              refine lv_iload hx hb dX12_fills_41 (lv_at hl 3 rfl) ?_
              refine lv_icmp_gt (tgt := 125) hx hb dX12_fills_43 (by decide) (fun c_91 => ?_) (fun c_91 => ?_)
              · have hZ := jx_i_pos c_91 hZ
                have ho := Option.some.inj hZ
                subst ho
                have hE := hza_65
                rw [← (show (x6_62, S_64) = r_65 from hk_65)] at hE
                have hZ : f_X12_fills_125i25 x1_3 x3_3 s0_3 x5_4 x6_62 S_64 = some o_6 := hE
                exact j125i25 x5_4 x6_62 S_64 _ hk_6 _ _ hZ hP hD hS _ (lv_sub hl [0, 1, 2, 3, 4, 5] rfl)
              · have hZ := jx_i_neg c_91 hZ
                refine lv_iload hx hb dX12_fills_46 (lv_at hl 6 rfl) ?_
                refine lv_aload_n hx hb dX12_fills_48 rfl (lv_at hl 0 rfl) ?_
                refine gf_12_worth hx hb hts in12 hown hK hP (hts (.fieldLink RX12 13 "CoinsOfLastModel" "worth" "[I") (List.mem_of_getElem? (i := 3) rfl)) dX12_fills_49 ?_
                refine lv_iload_n hx hb dX12_fills_52 rfl (lv_at hl 1 rfl) ?_
                obtain ⟨c_93, hZ⟩ := jx_a_some hZ
                refine M_iald hx hb hK hP wM_2 c_93 dX12_fills_53 ?_
                refine lv_imul hx hb dX12_fills_54 ?_
                refine lv_iload hx hb dX12_fills_55 (lv_at hl 4 rfl) ?_
                refine lv_icmp_gt (tgt := 125) hx hb dX12_fills_57 (by decide) (fun c_94 => ?_) (fun c_94 => ?_)
                · have hZ := jx_i_pos c_94 hZ
                  have ho := Option.some.inj hZ
                  subst ho
                  have hE := hza_65
                  rw [← (show (x6_62, S_64) = r_65 from hk_65)] at hE
                  have hZ : f_X12_fills_125i25 x1_3 x3_3 s0_3 x5_4 x6_62 S_64 = some o_6 := hE
                  exact j125i25 x5_4 x6_62 S_64 _ hk_6 _ _ hZ hP hD hS _ (lv_sub hl [0, 1, 2, 3, 4, 5] rfl)
                · have hZ := jx_i_neg c_94 hZ
                  refine lv_aload_n hx hb dX12_fills_60 rfl (lv_at hl 0 rfl) ?_
                  refine gf_12_coins hx hb hts in12 hown hK hP (hts (.fieldLink RX12 78 "CoinsOfLastModel" "coins" "[I") (List.mem_of_getElem? (i := 4) rfl)) dX12_fills_61 ?_
                  refine lv_sipush (v := (1921 : Int32)) hx hb dX12_fills_64 (by decide) ?_
                  refine lv_iload_n hx hb dX12_fills_67 rfl (lv_at hl 1 rfl) ?_
                  refine lv_iconst (v := (1 : Int32)) hx hb dX12_fills_68 (by decide) ?_
                  refine lv_iadd hx hb dX12_fills_69 ?_
                  refine lv_imul hx hb dX12_fills_70 ?_
                  refine lv_iload hx hb dX12_fills_71 (lv_at hl 4 rfl) ?_
                  refine lv_iadd hx hb dX12_fills_73 ?_
                  refine lv_iload hx hb dX12_fills_74 (lv_at hl 6 rfl) ?_
                  refine lv_aload_n hx hb dX12_fills_76 rfl (lv_at hl 0 rfl) ?_
                  refine gf_12_worth hx hb hts in12 hown hK hP (hts (.fieldLink RX12 13 "CoinsOfLastModel" "worth" "[I") (List.mem_of_getElem? (i := 3) rfl)) dX12_fills_77 ?_
                  refine lv_iload_n hx hb dX12_fills_80 rfl (lv_at hl 1 rfl) ?_
                  obtain ⟨c_96, hZ⟩ := jx_a_some hZ
                  refine M_iald hx hb hK hP wM_2 c_96 dX12_fills_81 ?_
                  refine lv_imul hx hb dX12_fills_82 ?_
                  refine lv_isub hx hb dX12_fills_83 ?_
                  obtain ⟨c_97, hZ⟩ := jx_a_some hZ
                  refine M_iald hx hb hK hP wM_23 c_97 dX12_fills_84 ?_
                  obtain ⟨x8_98, e_x8_98, hZ⟩ := jx_l_some hZ
                  refine tx_i e_x8_98 ?_
                  refine lv_istore (lv' := [(8, .int x8_98), (0, .ref (q 0)), (1, .int x1_3), (3, .int x3_3), (4, .int s0_3), (5, .int x5_4), (6, .int x6_62), (7, .int x7_63)]) hx hb dX12_fills_85 hl (by decide) rfl (fun ls hl => ?_)
                  refine lv_iload hx hb dX12_fills_87 (lv_at hl 0 rfl) ?_
                  refine lv_iconst (v := (-1 : Int32)) hx hb dX12_fills_89 (by decide) ?_
                  refine lv_icmp_eq (tgt := 115) hx hb dX12_fills_90 (by decide) (fun c_99 => ?_) (fun c_99 => ?_)
                  · have hZ := jx_i_pos c_99 hZ
                    exact j115i39 x6_62 x7_63 S_64 _ hk_65 _ _ hZ hP hD hS _ (lv_sub hl [1, 2, 3, 4, 5, 6, 7] rfl)
                  · have hZ := jx_i_neg c_99 hZ
                    refine lv_iload_n hx hb dX12_fills_93 rfl (lv_at hl 3 rfl) ?_
                    refine lv_iload hx hb dX12_fills_94 (lv_at hl 7 rfl) ?_
                    refine lv_iload hx hb dX12_fills_96 (lv_at hl 0 rfl) ?_
                    refine lv_iadd hx hb dX12_fills_98 ?_
                    refine lv_iload hx hb dX12_fills_99 (lv_at hl 6 rfl) ?_
                    obtain ⟨r_107, S_105, hc_106, hZ⟩ := jx_b2_some hZ
                    refine call_Si SM_ok sameM ⟨hx, hb, hml, hown, hts⟩ (c_X12_isMore l D q k x3_3 (x7_63 + x8_98) x6_62 S_64 _ (r_107, S_105)  hc_106) (va_cwS 3 hts gX12_fills_X12_isMore rfl rfl rfl hd_X12_isMore ⟨Nat.le_of_ble_eq_true rfl, Nat.le_of_ble_eq_true rfl⟩) hK hP hD hS hA hsp (As := [.int x3_3, .int (x7_63 + x8_98), .int x6_62]) rfl hl.1 rfl (Nat.le_of_ble_eq_true rfl) dX12_fills_101 ⟨Nat.zero_le _, Nat.zero_le _⟩ (fun H locs hP hD hS => ?_)
                    refine lv_if_eq (tgt := 115) hx hb dX12_fills_104 (by decide) (fun c_108 => ?_) (fun c_108 => ?_)
                    · have hZ := jx_i_pos c_108 hZ
                      exact j115i39 x6_62 x7_63 S_105 _ hk_65 _ _ hZ hP hD hS _ (lv_sub hl [1, 2, 3, 4, 5, 6, 7] rfl)
                    · have hZ := jx_i_neg c_108 hZ
                      refine lv_iload hx hb dX12_fills_107 (lv_at hl 7 rfl) ?_
                      refine lv_iload hx hb dX12_fills_109 (lv_at hl 0 rfl) ?_
                      refine lv_iadd hx hb dX12_fills_111 ?_
                      refine lv_goto (tgt := 117) hx hb dX12_fills_112 (by decide) ?_
                      exact j117i39 x7_63 (x7_63 + x8_98) S_105 _ hk_65 _ _ hZ hP hD hS _ (lv_sub hl [1, 2, 3, 4, 5, 7] rfl)
          exact l_65 FU (-1 : Int32) (0 : Int32) S_5 _ _ hw hP hD hS _ (lv_sub hl [2, 3, 4, 5, 6, 1, 0] rfl)
    exact l_6 FU (0 : Int32) S_3 _ _ hw hP hD hS _ (lv_sub hl [2, 3, 4, 1, 0] rfl)
  unfold f_X12_fills at hZ
  refine lv_aload_n hx hb dX12_fills_0 rfl (lv_at hl 0 rfl) ?_
  refine gf_12_landOf hx hb hts in12 hown hK hP (hts (.fieldLink RX12 7 "CoinsOfLastModel" "landOf" "[I") (List.mem_of_getElem? (i := 1) rfl)) dX12_fills_1 ?_
  refine lv_iload_n hx hb dX12_fills_4 rfl (lv_at hl 1 rfl) ?_
  obtain ⟨c_1, hZ⟩ := jx_a_some hZ
  refine M_iald hx hb hK hP wM_1 c_1 dX12_fills_5 ?_
  refine lv_iload_n hx hb dX12_fills_6 rfl (lv_at hl 2 rfl) ?_
  refine lv_icmp_ne (tgt := 19) hx hb dX12_fills_7 (by decide) (fun c_2 => ?_) (fun c_2 => ?_)
  · have hZ := jx_i_neg c_2 hZ
    refine lv_iconst (v := (0 : Int32)) hx hb dX12_fills_19 (by decide) ?_
    exact j20 x1 x3 (0 : Int32) S _ _ hZ hP hD hS _ (lv_sub hl [0, 1, 3] rfl)
  · have hZ := jx_i_pos c_2 hZ
    refine lv_aload_n hx hb dX12_fills_10 rfl (lv_at hl 0 rfl) ?_
    refine gf_12_purse hx hb hts in12 hown hK hP (hts (.fieldLink RX12 22 "CoinsOfLastModel" "purse" "[I") (List.mem_of_getElem? (i := 2) rfl)) dX12_fills_11 ?_
    refine lv_iload_n hx hb dX12_fills_14 rfl (lv_at hl 1 rfl) ?_
    obtain ⟨c_112, hZ⟩ := jx_a_some hZ
    refine M_iald hx hb hK hP wM_5 c_112 dX12_fills_15 ?_
    refine lv_goto (tgt := 20) hx hb dX12_fills_16 (by decide) ?_
    exact j20 x1 x3 (S.1 5 (Int32.toNatClampNeg x1)) S _ _ hZ hP hD hS _ (lv_sub hl [0, 1, 3] rfl)
theorem hd_X12_fills : yX12_fills.cls = RX12 ∧ yX12_fills.cls ≠ "java/lang/invoke/MethodHandle" ∧ yX12_fills.cls ≠ "java/lang/invoke/VarHandle" ∧ (parseMethodDescriptor yX12_fills.desc).map (fun d => d.parameters.length) = some 3 := by decide +kernel
-- X12_payment
def f_X12_payment_273 (x4_17 : Int32) (S_17 : St) : Option (Int32 × St) :=
  some (x4_17, S_17)
def f_X12_payment_247i93 (x1 : Int32) (x4 : Int32) (x5_31 : Int32) (x6_31 : Int32) (S_31 : St) : Option ((Int32 × Int32 × St) ⊕ (St)) :=
  jx_a x6_31 8 (jx_a x6_31 8 (jx_l (x5_31 - ((S_31.1 24 (Int32.toNatClampNeg x6_31)) * (S_31.1 2 (Int32.toNatClampNeg x6_31)))) (fun x5_34 => jx_l (x6_31 + 1) (fun x6_35 => some (.inl (x5_34, x6_35, S_31))))))
def f_X12_payment_240i143 (x1 : Int32) (x4 : Int32) (x5 : Int32) (x6 : Int32) (x7 : Int32) (x8_48 : Int32) (s1_48 : Int32) (s2_48 : Int32) (S_48 : St) : Option ((Int32 × St) ⊕ (St)) :=
  jx_a s1_48 8 (jx_l (u1 S_48 24 (Int32.toNatClampNeg s1_48) s2_48) (fun S_50 => jx_l (x8_48 + 1) (fun x8_51 => some (.inl (x8_51, S_50)))))
def f_X12_payment_233i143 (x1 : Int32) (x4 : Int32) (x5 : Int32) (x6 : Int32) (x7 : Int32) (x8_46 : Int32) (s1_46 : Int32) (S_46 : St) : Option ((Int32 × St) ⊕ (St)) :=
  jx_a x6 8 (f_X12_payment_240i143 x1 x4 x5 x6 x7 x8_46 s1_46 (S_46.1 24 (Int32.toNatClampNeg x6)) S_46)
def b_X12_payment_143 (x1 : Int32) (x4 : Int32) (x5 : Int32) (x6 : Int32) (x7 : Int32) (x8 : Int32) (S : St) : Option ((Int32 × St) ⊕ (St)) :=
  (if x7 < x8 then some (.inr S) else jx_a x6 8 ((if x5 < (x8 * (S.1 2 (Int32.toNatClampNeg x6))) then some (.inr S) else jx_a x6 8 (jx_a ((((1921 : Int32) * (x6 + (1 : Int32))) + x5) - (x8 * (S.1 2 (Int32.toNatClampNeg x6)))) 17289 (jx_l (S.1 23 (Int32.toNatClampNeg ((((1921 : Int32) * (x6 + (1 : Int32))) + x5) - (x8 * (S.1 2 (Int32.toNatClampNeg x6)))))) (fun x9_44 => (if x9_44 = (-1 : Int32) then f_X12_payment_233i143 x1 x4 x5 x6 x7 x8 x6 S else jx_a (((1921 : Int32) * x6) + x5) 17289 ((if (x8 + x9_44) = (S.1 23 (Int32.toNatClampNeg (((1921 : Int32) * x6) + x5))) then f_X12_payment_240i143 x1 x4 x5 x6 x7 x8 x6 x8 S else f_X12_payment_233i143 x1 x4 x5 x6 x7 x8 x6 S)))))))))
def g_X12_payment_143 (x1 : Int32) (x4 : Int32) (x5 : Int32) (x6 : Int32) (x7 : Int32) : (Int32 × St) → Option ((Int32 × St) ⊕ (St)) := fun z => b_X12_payment_143 x1 x4 x5 x6 x7 z.1 z.2
def f_X12_payment_130i93 (x1 : Int32) (x4 : Int32) (x5_25 : Int32) (x6_25 : Int32) (s0_25 : Int32) (S_25 : St) : Option ((Int32 × Int32 × St) ⊕ (St)) :=
  jx_a x6_25 8 (jx_l (u1 S_25 24 (Int32.toNatClampNeg x6_25) (0 : Int32)) (fun S_27 => jx_b (jx_w (g_X12_payment_143 x1 x4 x5_25 x6_25 s0_25) FU ((0 : Int32), S_27)) (fun z => f_X12_payment_247i93 x1 x4 x5_25 x6_25 z)))
def b_X12_payment_93 (x1 : Int32) (x4 : Int32) (x5 : Int32) (x6 : Int32) (S : St) : Option ((Int32 × Int32 × St) ⊕ (St)) :=
  (if (S.1 0 0) ≤ x6 then some (.inr S) else (if x4 = (-1 : Int32) then some (.inr S) else jx_a x6 8 ((if (S.1 1 (Int32.toNatClampNeg x6)) = x1 then jx_a x6 8 (f_X12_payment_130i93 x1 x4 x5 x6 (S.1 5 (Int32.toNatClampNeg x6)) S) else f_X12_payment_130i93 x1 x4 x5 x6 (0 : Int32) S))))
def g_X12_payment_93 (x1 : Int32) (x4 : Int32) : (Int32 × Int32 × St) → Option ((Int32 × Int32 × St) ⊕ (St)) := fun z => b_X12_payment_93 x1 x4 z.1 z.2.1 z.2.2
def f_X12_payment_79 (x1_10 : Int32) (x2_10 : Int32) (S_10 : St) : Option (Int32 × St) :=
  jx_a x2_10 17289 (jx_l (S_10.1 23 (Int32.toNatClampNeg x2_10)) (fun x4_12 => jx_b (jx_w (g_X12_payment_93 x1_10 x4_12) FU (x2_10, (0 : Int32), S_10)) (fun z => f_X12_payment_273 x4_12 z)))
def b_X12_payment_60 (x1 : Int32) (x2 : Int32) (x3 : Int32) (x4 : Int32) (S : St) : Option ((Int32 × St) ⊕ (St)) :=
  (if x4 < 0 then some (.inr S) else jx_b (f_X12_fills x4 x1 x3 S) (fun S_148 => jx_l (x4 + (-1)) (fun x4_150 => some (.inl (x4_150, S_148)))))
def g_X12_payment_60 (x1 : Int32) (x2 : Int32) (x3 : Int32) : (Int32 × St) → Option ((Int32 × St) ⊕ (St)) := fun z => b_X12_payment_60 x1 x2 x3 z.1 z.2
def f_X12_payment_52 (x1_5 : Int32) (x2_5 : Int32) (x3_5 : Int32) (S_5 : St) : Option (Int32 × St) :=
  jx_l ((S_5.1 0 0) - (1 : Int32)) (fun x4_6 => jx_b (jx_w (g_X12_payment_60 x1_5 x2_5 x3_5) FU (x4_6, S_5)) (fun z => f_X12_payment_79 x1_5 x2_5 z))
def f_X12_payment_45i12 (x1 : Int32) (x2 : Int32) (x3 : Int32) (x4_160 : Int32) (s1_160 : Int32) (s2_160 : Int32) (S_160 : St) : Option ((Int32 × St) ⊕ (St)) :=
  jx_a s1_160 17289 (jx_l (u1 S_160 23 (Int32.toNatClampNeg s1_160) s2_160) (fun S_162 => jx_l (x4_160 + 1) (fun x4_163 => some (.inl (x4_163, S_162)))))
def b_X12_payment_12 (x1 : Int32) (x2 : Int32) (x3 : Int32) (x4 : Int32) (S : St) : Option ((Int32 × St) ⊕ (St)) :=
  (if (1920 : Int32) < x4 then some (.inr S) else (if x4 = 0 then f_X12_payment_45i12 x1 x2 x3 x4 (((1921 : Int32) * (S.1 0 0)) + x4) (0 : Int32) S else f_X12_payment_45i12 x1 x2 x3 x4 (((1921 : Int32) * (S.1 0 0)) + x4) (-1 : Int32) S))
def g_X12_payment_12 (x1 : Int32) (x2 : Int32) (x3 : Int32) : (Int32 × St) → Option ((Int32 × St) ⊕ (St)) := fun z => b_X12_payment_12 x1 x2 x3 z.1 z.2
def f_X12_payment (x1 : Int32) (x2 : Int32) (x3 : Int32) (S : St) : Option (Int32 × St) :=
  (if x2 ≤ (1920 : Int32) then jx_b (jx_w (g_X12_payment_12 x1 x2 x3) FU ((0 : Int32), S)) (fun z => f_X12_payment_52 x1 x2 x3 z) else some ((-1 : Int32), S))
set_option maxHeartbeats 4000000 in
set_option maxRecDepth 100000 in
theorem c_X12_payment (l : Launch) (D : va_G) (q : Nat → Nat) (k : CI) (x1 : Int32) (x2 : Int32) (x3 : Int32) (S : St) (sz : Nat) (Z : Int32 × St) (hZ : f_X12_payment x1 x2 x3 S = some Z) : MetI W_M SM l yX12_payment wsX12_payment { frames := 2, cells := 0, slots := 0, locals := 50 } [.ref (q 0), .int x1, .int x2, .int x3] D q k S sz Z := by
  refine enter (cc := cX12_payment) (maxL := 10) (ret := some .int) (by decide) rfl (Nat.le_of_ble_eq_true rfl) ?_
  intro p e s m below meth c A ls hx hb hr hts hown hlocks hml hP hK hD hA hS hsp hAe hl
  have hown : s.vm.findClass RX12 = some m.cls := hown
  have hl : lv_has ls 10 [(0, .ref (q 0)), (1, .int x1), (2, .int x2), (3, .int x3)] := hl
  have in12 : ∀ w ∈ wsX120, w ∈ wsX12_payment := fun _ h => (List.mem_cons_of_mem _ (List.mem_append_right _ h))
  have j273 : ∀ (x4_17 : Int32) (S_17 : St)  (H : Heap) (locs : List Loc) (hZ : f_X12_payment_273 x4_17 S_17 = some Z) (hP : va_P D vwCl (W_M q k S_17) H) (hD : va_D A (W_M q k S_17)) (hS : va_S A s.heap H locs) (ls : Array Slot) (hl : lv_has ls 10 [(4, .int x4_17)]), W p l e ({ frames := 2, cells := 0, slots := 0, locals := 50 } : Room) s m ([.ref (q 0), .int x1, .int x2, .int x3] : List Value).toArray below meth c H locs 0 0 (MQ below (va_Qi (fun r u => (r, u) = Z) (fun u t => va_P D vwCl (W_M q k u) t.heap) A) ([.ref (q 0), .int x1, .int x2, .int x3] : List Value).toArray s 0 0 A) (F0 m 273 ls []) := by
    intro x4_17 S_17   H locs hZ hP hD hS ls hl
    unfold f_X12_payment_273 at hZ
    refine lv_iload hx hb dX12_payment_273 (lv_at hl 0 rfl) ?_
    exact leave_i hx hb hr hlocks hP hS hZ dX12_payment_275
  have j79 : ∀ (x1_10 : Int32) (x2_10 : Int32) (S_10 : St)  (H : Heap) (locs : List Loc) (hZ : f_X12_payment_79 x1_10 x2_10 S_10 = some Z) (hP : va_P D vwCl (W_M q k S_10) H) (hD : va_D A (W_M q k S_10)) (hS : va_S A s.heap H locs) (ls : Array Slot) (hl : lv_has ls 10 [(0, .ref (q 0)), (1, .int x1_10), (2, .int x2_10)]), W p l e ({ frames := 2, cells := 0, slots := 0, locals := 50 } : Room) s m ([.ref (q 0), .int x1, .int x2, .int x3] : List Value).toArray below meth c H locs 0 0 (MQ below (va_Qi (fun r u => (r, u) = Z) (fun u t => va_P D vwCl (W_M q k u) t.heap) A) ([.ref (q 0), .int x1, .int x2, .int x3] : List Value).toArray s 0 0 A) (F0 m 79 ls []) := by
    intro x1_10 x2_10 S_10   H locs hZ hP hD hS ls hl
    unfold f_X12_payment_79 at hZ
    refine lv_aload_n hx hb dX12_payment_79 rfl (lv_at hl 0 rfl) ?_
    refine gf_12_coins hx hb hts in12 hown hK hP (hts (.fieldLink RX12 78 "CoinsOfLastModel" "coins" "[I") (List.mem_of_getElem? (i := 1) rfl)) dX12_payment_80 ?_
    refine lv_iload_n hx hb dX12_payment_83 rfl (lv_at hl 2 rfl) ?_
    obtain ⟨c_11, hZ⟩ := jx_a_some hZ
    refine M_iald hx hb hK hP wM_23 c_11 dX12_payment_84 ?_
    obtain ⟨x4_12, e_x4_12, hZ⟩ := jx_l_some hZ
    refine tx_i e_x4_12 ?_
    refine lv_istore (lv' := [(4, .int x4_12), (0, .ref (q 0)), (1, .int x1_10), (2, .int x2_10)]) hx hb dX12_payment_85 hl (by decide) rfl (fun ls hl => ?_)
    refine lv_iload_n hx hb dX12_payment_87 rfl (lv_at hl 3 rfl) ?_
    refine lv_istore (lv' := [(5, .int x2_10), (4, .int x4_12), (0, .ref (q 0)), (1, .int x1_10), (2, .int x2_10)]) hx hb dX12_payment_88 hl (by decide) rfl (fun ls hl => ?_)
    refine lv_iconst (v := (0 : Int32)) hx hb dX12_payment_90 (by decide) ?_
    refine lv_istore (lv' := [(6, .int (0 : Int32)), (5, .int x2_10), (4, .int x4_12), (0, .ref (q 0)), (1, .int x1_10), (2, .int x2_10)]) hx hb dX12_payment_91 hl (by decide) rfl (fun ls hl => ?_)
    obtain ⟨r_16, hw, hza_16⟩ := jx_b_some hZ
    have l_16 : ∀ (nn : Nat) (x5_13 : Int32) (x6_14 : Int32) (S_15 : St) (H : Heap) (locs : List Loc) (hw : jx_w (g_X12_payment_93 x1_10 x4_12) nn (x5_13, x6_14, S_15) = some r_16) (hP : va_P D vwCl (W_M q k S_15) H) (hD : va_D A (W_M q k S_15)) (hS : va_S A s.heap H locs) (ls : Array Slot) (hl : lv_has ls 10 [(0, .ref (q 0)), (1, .int x1_10), (4, .int x4_12), (5, .int x5_13), (6, .int x6_14)]), W p l e ({ frames := 2, cells := 0, slots := 0, locals := 50 } : Room) s m ([.ref (q 0), .int x1, .int x2, .int x3] : List Value).toArray below meth c H locs 0 0 (MQ below (va_Qi (fun r u => (r, u) = Z) (fun u t => va_P D vwCl (W_M q k u) t.heap) A) ([.ref (q 0), .int x1, .int x2, .int x3] : List Value).toArray s 0 0 A) (F0 m 93 ls []) := by
      intro nn
      induction nn with
      | zero =>
        intro x5_13 x6_14 S_15 H locs hw hP hD hS ls hl
        exact jx_w_zero hw
      | succ n_16 ih_16 =>
        intro x5_13 x6_14 S_15 H locs hw hP hD hS ls hl
        obtain ⟨o_16, hZ, hk_16⟩ := jx_w_succ hw
        have hZ : b_X12_payment_93 x1_10 x4_12 x5_13 x6_14 S_15 = some o_16 := hZ
        have j247i93 : ∀ (x5_94 : Int32) (x6_94 : Int32) (S_94 : St)  (o_16 : (Int32 × Int32 × St) ⊕ (St)) (hk_16 : jx_k (g_X12_payment_93 x1_10 x4_12) n_16 r_16 o_16) (H : Heap) (locs : List Loc) (hZ : f_X12_payment_247i93 x1_10 x4_12 x5_94 x6_94 S_94 = some o_16) (hP : va_P D vwCl (W_M q k S_94) H) (hD : va_D A (W_M q k S_94)) (hS : va_S A s.heap H locs) (ls : Array Slot) (hl : lv_has ls 10 [(0, .ref (q 0)), (1, .int x1_10), (4, .int x4_12), (5, .int x5_94), (6, .int x6_94)]), W p l e ({ frames := 2, cells := 0, slots := 0, locals := 50 } : Room) s m ([.ref (q 0), .int x1, .int x2, .int x3] : List Value).toArray below meth c H locs 0 0 (MQ below (va_Qi (fun r u => (r, u) = Z) (fun u t => va_P D vwCl (W_M q k u) t.heap) A) ([.ref (q 0), .int x1, .int x2, .int x3] : List Value).toArray s 0 0 A) (F0 m 247 ls []) := by
          intro x5_94 x6_94 S_94  o_16 hk_16 H locs hZ hP hD hS ls hl
          unfold f_X12_payment_247i93 at hZ
          refine lv_iload hx hb dX12_payment_247 (lv_at hl 3 rfl) ?_
          refine lv_aload_n hx hb dX12_payment_249 rfl (lv_at hl 0 rfl) ?_
          refine gf_12_taken0 hx hb hts in12 hown hK hP (hts (.fieldLink RX12 81 "CoinsOfLastModel" "taken0" "[I") (List.mem_of_getElem? (i := 5) rfl)) dX12_payment_250 ?_
          refine lv_iload hx hb dX12_payment_253 (lv_at hl 4 rfl) ?_
          obtain ⟨c_95, hZ⟩ := jx_a_some hZ
          refine M_iald hx hb hK hP wM_24 c_95 dX12_payment_255 ?_
          refine lv_aload_n hx hb dX12_payment_256 rfl (lv_at hl 0 rfl) ?_
          refine gf_12_worth hx hb hts in12 hown hK hP (hts (.fieldLink RX12 13 "CoinsOfLastModel" "worth" "[I") (List.mem_of_getElem? (i := 6) rfl)) dX12_payment_257 ?_
          refine lv_iload hx hb dX12_payment_260 (lv_at hl 4 rfl) ?_
          obtain ⟨c_96, hZ⟩ := jx_a_some hZ
          refine M_iald hx hb hK hP wM_2 c_96 dX12_payment_262 ?_
          refine lv_imul hx hb dX12_payment_263 ?_
          refine lv_isub hx hb dX12_payment_264 ?_
          obtain ⟨x5_97, e_x5_97, hZ⟩ := jx_l_some hZ
          refine tx_i e_x5_97 ?_
          refine lv_istore (lv' := [(5, .int x5_97), (0, .ref (q 0)), (1, .int x1_10), (4, .int x4_12), (6, .int x6_94)]) hx hb dX12_payment_265 hl (by decide) rfl (fun ls hl => ?_)
          obtain ⟨x6_98, e_x6_98, hZ⟩ := jx_l_some hZ
          refine lv_iinc (v := x6_98) (lv' := [(6, .int x6_98), (5, .int x5_97), (0, .ref (q 0)), (1, .int x1_10), (4, .int x4_12)]) hx hb dX12_payment_267 hl (k := 4) rfl (by rw [e_x6_98]; rfl) (by decide) rfl (fun ls hl => ?_)
          refine lv_goto (tgt := 93) hx hb dX12_payment_270 (by decide) ?_
          have ho := Option.some.inj hZ
          subst ho
          exact ih_16 x5_97 x6_98 S_94 _ _ hk_16 hP hD hS _ (lv_sub hl [2, 3, 4, 1, 0] rfl)
        have j130i93 : ∀ (x5_88 : Int32) (x6_88 : Int32) (s0_88 : Int32) (S_88 : St)  (o_16 : (Int32 × Int32 × St) ⊕ (St)) (hk_16 : jx_k (g_X12_payment_93 x1_10 x4_12) n_16 r_16 o_16) (H : Heap) (locs : List Loc) (hZ : f_X12_payment_130i93 x1_10 x4_12 x5_88 x6_88 s0_88 S_88 = some o_16) (hP : va_P D vwCl (W_M q k S_88) H) (hD : va_D A (W_M q k S_88)) (hS : va_S A s.heap H locs) (ls : Array Slot) (hl : lv_has ls 10 [(0, .ref (q 0)), (1, .int x1_10), (4, .int x4_12), (5, .int x5_88), (6, .int x6_88)]), W p l e ({ frames := 2, cells := 0, slots := 0, locals := 50 } : Room) s m ([.ref (q 0), .int x1, .int x2, .int x3] : List Value).toArray below meth c H locs 0 0 (MQ below (va_Qi (fun r u => (r, u) = Z) (fun u t => va_P D vwCl (W_M q k u) t.heap) A) ([.ref (q 0), .int x1, .int x2, .int x3] : List Value).toArray s 0 0 A) (F0 m 130 ls [.int s0_88]) := by
          intro x5_88 x6_88 s0_88 S_88  o_16 hk_16 H locs hZ hP hD hS ls hl
          unfold f_X12_payment_130i93 at hZ
          refine lv_istore (lv' := [(7, .int s0_88), (0, .ref (q 0)), (1, .int x1_10), (4, .int x4_12), (5, .int x5_88), (6, .int x6_88)]) hx hb dX12_payment_130 hl (by decide) rfl (fun ls hl => ?_)
          refine lv_aload_n hx hb dX12_payment_132 rfl (lv_at hl 1 rfl) ?_
          refine gf_12_taken0 hx hb hts in12 hown hK hP (hts (.fieldLink RX12 81 "CoinsOfLastModel" "taken0" "[I") (List.mem_of_getElem? (i := 5) rfl)) dX12_payment_133 ?_
          refine lv_iload hx hb dX12_payment_136 (lv_at hl 5 rfl) ?_
          refine lv_iconst (v := (0 : Int32)) hx hb dX12_payment_138 (by decide) ?_
          obtain ⟨c_89, hZ⟩ := jx_a_some hZ
          obtain ⟨S_90, e_S_90, hZ⟩ := jx_l_some hZ
          refine M_iast hx hb hK hP hD hS wM_24 (fun _ => wMs_24) c_89 e_S_90 dX12_payment_139 (fun H locs hP hD hS => ?_)
          refine lv_iconst (v := (0 : Int32)) hx hb dX12_payment_140 (by decide) ?_
          refine lv_istore (lv' := [(8, .int (0 : Int32)), (7, .int s0_88), (0, .ref (q 0)), (1, .int x1_10), (4, .int x4_12), (5, .int x5_88), (6, .int x6_88)]) hx hb dX12_payment_141 hl (by decide) rfl (fun ls hl => ?_)
          obtain ⟨r_93, hw, hza_93⟩ := jx_b_some hZ
          have l_93 : ∀ (nn : Nat) (x8_91 : Int32) (S_92 : St) (H : Heap) (locs : List Loc) (hw : jx_w (g_X12_payment_143 x1_10 x4_12 x5_88 x6_88 s0_88) nn (x8_91, S_92) = some r_93) (hP : va_P D vwCl (W_M q k S_92) H) (hD : va_D A (W_M q k S_92)) (hS : va_S A s.heap H locs) (ls : Array Slot) (hl : lv_has ls 10 [(0, .ref (q 0)), (1, .int x1_10), (4, .int x4_12), (5, .int x5_88), (6, .int x6_88), (7, .int s0_88), (8, .int x8_91)]), W p l e ({ frames := 2, cells := 0, slots := 0, locals := 50 } : Room) s m ([.ref (q 0), .int x1, .int x2, .int x3] : List Value).toArray below meth c H locs 0 0 (MQ below (va_Qi (fun r u => (r, u) = Z) (fun u t => va_P D vwCl (W_M q k u) t.heap) A) ([.ref (q 0), .int x1, .int x2, .int x3] : List Value).toArray s 0 0 A) (F0 m 143 ls []) := by
            intro nn
            induction nn with
            | zero =>
              intro x8_91 S_92 H locs hw hP hD hS ls hl
              exact jx_w_zero hw
            | succ n_93 ih_93 =>
              intro x8_91 S_92 H locs hw hP hD hS ls hl
              obtain ⟨o_93, hZ, hk_93⟩ := jx_w_succ hw
              have hZ : b_X12_payment_143 x1_10 x4_12 x5_88 x6_88 s0_88 x8_91 S_92 = some o_93 := hZ
              have j240i143 : ∀ (x8_132 : Int32) (s1_132 : Int32) (s2_132 : Int32) (S_132 : St)  (o_93 : (Int32 × St) ⊕ (St)) (hk_93 : jx_k (g_X12_payment_143 x1_10 x4_12 x5_88 x6_88 s0_88) n_93 r_93 o_93) (H : Heap) (locs : List Loc) (hZ : f_X12_payment_240i143 x1_10 x4_12 x5_88 x6_88 s0_88 x8_132 s1_132 s2_132 S_132 = some o_93) (hP : va_P D vwCl (W_M q k S_132) H) (hD : va_D A (W_M q k S_132)) (hS : va_S A s.heap H locs) (ls : Array Slot) (hl : lv_has ls 10 [(0, .ref (q 0)), (1, .int x1_10), (4, .int x4_12), (5, .int x5_88), (6, .int x6_88), (7, .int s0_88), (8, .int x8_132)]), W p l e ({ frames := 2, cells := 0, slots := 0, locals := 50 } : Room) s m ([.ref (q 0), .int x1, .int x2, .int x3] : List Value).toArray below meth c H locs 0 0 (MQ below (va_Qi (fun r u => (r, u) = Z) (fun u t => va_P D vwCl (W_M q k u) t.heap) A) ([.ref (q 0), .int x1, .int x2, .int x3] : List Value).toArray s 0 0 A) (F0 m 240 ls [.int s2_132, .int s1_132, .ref (q 24)]) := by
                intro x8_132 s1_132 s2_132 S_132  o_93 hk_93 H locs hZ hP hD hS ls hl
                unfold f_X12_payment_240i143 at hZ
                obtain ⟨c_133, hZ⟩ := jx_a_some hZ
                obtain ⟨S_134, e_S_134, hZ⟩ := jx_l_some hZ
                refine M_iast hx hb hK hP hD hS wM_24 (fun _ => wMs_24) c_133 e_S_134 dX12_payment_240 (fun H locs hP hD hS => ?_)
                obtain ⟨x8_135, e_x8_135, hZ⟩ := jx_l_some hZ
                refine lv_iinc (v := x8_135) (lv' := [(8, .int x8_135), (0, .ref (q 0)), (1, .int x1_10), (4, .int x4_12), (5, .int x5_88), (6, .int x6_88), (7, .int s0_88)]) hx hb dX12_payment_241 hl (k := 6) rfl (by rw [e_x8_135]; rfl) (by decide) rfl (fun ls hl => ?_)
                refine lv_goto (tgt := 143) hx hb dX12_payment_244 (by decide) ?_
                have ho := Option.some.inj hZ
                subst ho
                exact ih_93 x8_135 S_134 _ _ hk_93 hP hD hS _ (lv_sub hl [1, 2, 3, 4, 5, 6, 0] rfl)
              have j233i143 : ∀ (x8_130 : Int32) (s1_130 : Int32) (S_130 : St)  (o_93 : (Int32 × St) ⊕ (St)) (hk_93 : jx_k (g_X12_payment_143 x1_10 x4_12 x5_88 x6_88 s0_88) n_93 r_93 o_93) (H : Heap) (locs : List Loc) (hZ : f_X12_payment_233i143 x1_10 x4_12 x5_88 x6_88 s0_88 x8_130 s1_130 S_130 = some o_93) (hP : va_P D vwCl (W_M q k S_130) H) (hD : va_D A (W_M q k S_130)) (hS : va_S A s.heap H locs) (ls : Array Slot) (hl : lv_has ls 10 [(0, .ref (q 0)), (1, .int x1_10), (4, .int x4_12), (5, .int x5_88), (6, .int x6_88), (7, .int s0_88), (8, .int x8_130)]), W p l e ({ frames := 2, cells := 0, slots := 0, locals := 50 } : Room) s m ([.ref (q 0), .int x1, .int x2, .int x3] : List Value).toArray below meth c H locs 0 0 (MQ below (va_Qi (fun r u => (r, u) = Z) (fun u t => va_P D vwCl (W_M q k u) t.heap) A) ([.ref (q 0), .int x1, .int x2, .int x3] : List Value).toArray s 0 0 A) (F0 m 233 ls [.int s1_130, .ref (q 24)]) := by
                intro x8_130 s1_130 S_130  o_93 hk_93 H locs hZ hP hD hS ls hl
                unfold f_X12_payment_233i143 at hZ
                refine lv_aload_n hx hb dX12_payment_233 rfl (lv_at hl 0 rfl) ?_
                refine gf_12_taken0 hx hb hts in12 hown hK hP (hts (.fieldLink RX12 81 "CoinsOfLastModel" "taken0" "[I") (List.mem_of_getElem? (i := 5) rfl)) dX12_payment_234 ?_
                refine lv_iload hx hb dX12_payment_237 (lv_at hl 4 rfl) ?_
                obtain ⟨c_131, hZ⟩ := jx_a_some hZ
                refine M_iald hx hb hK hP wM_24 c_131 dX12_payment_239 ?_
                exact j240i143 x8_130 s1_130 (S_130.1 24 (Int32.toNatClampNeg x6_88)) S_130 _ hk_93 _ _ hZ hP hD hS _ (lv_sub hl [0, 1, 2, 3, 4, 5, 6] rfl)
              unfold b_X12_payment_143 at hZ
              refine lv_iload hx hb dX12_payment_143 (lv_at hl 6 rfl) ?_
              refine lv_iload hx hb dX12_payment_145 (lv_at hl 5 rfl) ?_
              refine lv_icmp_gt (tgt := 247) hx hb dX12_payment_147 (by decide) (fun c_121 => ?_) (fun c_121 => ?_)
              · have hZ := jx_i_pos c_121 hZ
                have ho := Option.some.inj hZ
                subst ho
                have hE := hza_93
                rw [← (show S_92 = r_93 from hk_93)] at hE
                have hZ : f_X12_payment_247i93 x1_10 x4_12 x5_88 x6_88 S_92 = some o_16 := hE
                exact j247i93 x5_88 x6_88 S_92 _ hk_16 _ _ hZ hP hD hS _ (lv_sub hl [0, 1, 2, 3, 4] rfl)
              · have hZ := jx_i_neg c_121 hZ
                refine lv_iload hx hb dX12_payment_150 (lv_at hl 6 rfl) ?_
                refine lv_aload_n hx hb dX12_payment_152 rfl (lv_at hl 0 rfl) ?_
                refine gf_12_worth hx hb hts in12 hown hK hP (hts (.fieldLink RX12 13 "CoinsOfLastModel" "worth" "[I") (List.mem_of_getElem? (i := 6) rfl)) dX12_payment_153 ?_
                refine lv_iload hx hb dX12_payment_156 (lv_at hl 4 rfl) ?_
                obtain ⟨c_123, hZ⟩ := jx_a_some hZ
                refine M_iald hx hb hK hP wM_2 c_123 dX12_payment_158 ?_
                refine lv_imul hx hb dX12_payment_159 ?_
                refine lv_iload hx hb dX12_payment_160 (lv_at hl 3 rfl) ?_
                refine lv_icmp_gt (tgt := 247) hx hb dX12_payment_162 (by decide) (fun c_124 => ?_) (fun c_124 => ?_)
                · have hZ := jx_i_pos c_124 hZ
                  have ho := Option.some.inj hZ
                  subst ho
                  have hE := hza_93
                  rw [← (show S_92 = r_93 from hk_93)] at hE
                  have hZ : f_X12_payment_247i93 x1_10 x4_12 x5_88 x6_88 S_92 = some o_16 := hE
                  exact j247i93 x5_88 x6_88 S_92 _ hk_16 _ _ hZ hP hD hS _ (lv_sub hl [0, 1, 2, 3, 4] rfl)
                · have hZ := jx_i_neg c_124 hZ
                  refine lv_aload_n hx hb dX12_payment_165 rfl (lv_at hl 0 rfl) ?_
                  refine gf_12_coins hx hb hts in12 hown hK hP (hts (.fieldLink RX12 78 "CoinsOfLastModel" "coins" "[I") (List.mem_of_getElem? (i := 1) rfl)) dX12_payment_166 ?_
                  refine lv_sipush (v := (1921 : Int32)) hx hb dX12_payment_169 (by decide) ?_
                  refine lv_iload hx hb dX12_payment_172 (lv_at hl 4 rfl) ?_
                  refine lv_iconst (v := (1 : Int32)) hx hb dX12_payment_174 (by decide) ?_
                  refine lv_iadd hx hb dX12_payment_175 ?_
                  refine lv_imul hx hb dX12_payment_176 ?_
                  refine lv_iload hx hb dX12_payment_177 (lv_at hl 3 rfl) ?_
                  refine lv_iadd hx hb dX12_payment_179 ?_
                  refine lv_iload hx hb dX12_payment_180 (lv_at hl 6 rfl) ?_
                  refine lv_aload_n hx hb dX12_payment_182 rfl (lv_at hl 0 rfl) ?_
                  refine gf_12_worth hx hb hts in12 hown hK hP (hts (.fieldLink RX12 13 "CoinsOfLastModel" "worth" "[I") (List.mem_of_getElem? (i := 6) rfl)) dX12_payment_183 ?_
                  refine lv_iload hx hb dX12_payment_186 (lv_at hl 4 rfl) ?_
                  obtain ⟨c_126, hZ⟩ := jx_a_some hZ
                  refine M_iald hx hb hK hP wM_2 c_126 dX12_payment_188 ?_
                  refine lv_imul hx hb dX12_payment_189 ?_
                  refine lv_isub hx hb dX12_payment_190 ?_
                  obtain ⟨c_127, hZ⟩ := jx_a_some hZ
                  refine M_iald hx hb hK hP wM_23 c_127 dX12_payment_191 ?_
                  obtain ⟨x9_128, e_x9_128, hZ⟩ := jx_l_some hZ
                  refine tx_i e_x9_128 ?_
                  refine lv_istore (lv' := [(9, .int x9_128), (0, .ref (q 0)), (1, .int x1_10), (4, .int x4_12), (5, .int x5_88), (6, .int x6_88), (7, .int s0_88), (8, .int x8_91)]) hx hb dX12_payment_192 hl (by decide) rfl (fun ls hl => ?_)
                  refine lv_aload_n hx hb dX12_payment_194 rfl (lv_at hl 1 rfl) ?_
                  refine gf_12_taken0 hx hb hts in12 hown hK hP (hts (.fieldLink RX12 81 "CoinsOfLastModel" "taken0" "[I") (List.mem_of_getElem? (i := 5) rfl)) dX12_payment_195 ?_
                  refine lv_iload hx hb dX12_payment_198 (lv_at hl 5 rfl) ?_
                  refine lv_iload hx hb dX12_payment_200 (lv_at hl 0 rfl) ?_
                  refine lv_iconst (v := (-1 : Int32)) hx hb dX12_payment_202 (by decide) ?_
                  refine lv_icmp_eq (tgt := 233) hx hb dX12_payment_203 (by decide) (fun c_129 => ?_) (fun c_129 => ?_)
                  · have hZ := jx_i_pos c_129 hZ
                    exact j233i143 x8_91 x6_88 S_92 _ hk_93 _ _ hZ hP hD hS _ (lv_sub hl [1, 2, 3, 4, 5, 6, 7] rfl)
                  · have hZ := jx_i_neg c_129 hZ
                    refine lv_iload hx hb dX12_payment_206 (lv_at hl 7 rfl) ?_
                    refine lv_iload hx hb dX12_payment_208 (lv_at hl 0 rfl) ?_
                    refine lv_iadd hx hb dX12_payment_210 ?_
                    refine lv_aload_n hx hb dX12_payment_211 rfl (lv_at hl 1 rfl) ?_
                    refine gf_12_coins hx hb hts in12 hown hK hP (hts (.fieldLink RX12 78 "CoinsOfLastModel" "coins" "[I") (List.mem_of_getElem? (i := 1) rfl)) dX12_payment_212 ?_
                    refine lv_sipush (v := (1921 : Int32)) hx hb dX12_payment_215 (by decide) ?_
                    refine lv_iload hx hb dX12_payment_218 (lv_at hl 5 rfl) ?_
                    refine lv_imul hx hb dX12_payment_220 ?_
                    refine lv_iload hx hb dX12_payment_221 (lv_at hl 4 rfl) ?_
                    refine lv_iadd hx hb dX12_payment_223 ?_
                    obtain ⟨c_138, hZ⟩ := jx_a_some hZ
                    refine M_iald hx hb hK hP wM_23 c_138 dX12_payment_224 ?_
                    refine lv_icmp_ne (tgt := 233) hx hb dX12_payment_225 (by decide) (fun c_139 => ?_) (fun c_139 => ?_)
                    · have hZ := jx_i_neg c_139 hZ
                      exact j233i143 x8_91 x6_88 S_92 _ hk_93 _ _ hZ hP hD hS _ (lv_sub hl [1, 2, 3, 4, 5, 6, 7] rfl)
                    · have hZ := jx_i_pos c_139 hZ
                      refine lv_iload hx hb dX12_payment_228 (lv_at hl 7 rfl) ?_
                      refine lv_goto (tgt := 240) hx hb dX12_payment_230 (by decide) ?_
                      exact j240i143 x8_91 x6_88 x8_91 S_92 _ hk_93 _ _ hZ hP hD hS _ (lv_sub hl [1, 2, 3, 4, 5, 6, 7] rfl)
          exact l_93 FU (0 : Int32) S_90 _ _ hw hP hD hS _ (lv_sub hl [2, 3, 4, 5, 6, 1, 0] rfl)
        unfold b_X12_payment_93 at hZ
        refine lv_iload hx hb dX12_payment_93 (lv_at hl 4 rfl) ?_
        refine lv_aload_n hx hb dX12_payment_95 rfl (lv_at hl 0 rfl) ?_
        refine gf_12_sorts hx hb hts in12 hown hK hP (hts (.fieldLink RX12 114 "CoinsOfLastModel" "sorts" "I") (List.mem_of_getElem? (i := 2) rfl)) dX12_payment_96 ?_
        refine lv_icmp_ge (tgt := 273) hx hb dX12_payment_99 (by decide) (fun c_82 => ?_) (fun c_82 => ?_)
        · have hZ := jx_i_pos c_82 hZ
          have ho := Option.some.inj hZ
          subst ho
          have hE := hza_16
          rw [← (show S_15 = r_16 from hk_16)] at hE
          have hZ : f_X12_payment_273 x4_12 S_15 = some Z := hE
          exact j273 x4_12 S_15 _ _ hZ hP hD hS _ (lv_sub hl [2] rfl)
        · have hZ := jx_i_neg c_82 hZ
          refine lv_iload hx hb dX12_payment_102 (lv_at hl 2 rfl) ?_
          refine lv_iconst (v := (-1 : Int32)) hx hb dX12_payment_104 (by decide) ?_
          refine lv_icmp_eq (tgt := 273) hx hb dX12_payment_105 (by decide) (fun c_84 => ?_) (fun c_84 => ?_)
          · have hZ := jx_i_pos c_84 hZ
            have ho := Option.some.inj hZ
            subst ho
            have hE := hza_16
            rw [← (show S_15 = r_16 from hk_16)] at hE
            have hZ : f_X12_payment_273 x4_12 S_15 = some Z := hE
            exact j273 x4_12 S_15 _ _ hZ hP hD hS _ (lv_sub hl [2] rfl)
          · have hZ := jx_i_neg c_84 hZ
            refine lv_aload_n hx hb dX12_payment_108 rfl (lv_at hl 0 rfl) ?_
            refine gf_12_landOf hx hb hts in12 hown hK hP (hts (.fieldLink RX12 7 "CoinsOfLastModel" "landOf" "[I") (List.mem_of_getElem? (i := 3) rfl)) dX12_payment_109 ?_
            refine lv_iload hx hb dX12_payment_112 (lv_at hl 4 rfl) ?_
            obtain ⟨c_86, hZ⟩ := jx_a_some hZ
            refine M_iald hx hb hK hP wM_1 c_86 dX12_payment_114 ?_
            refine lv_iload_n hx hb dX12_payment_115 rfl (lv_at hl 1 rfl) ?_
            refine lv_icmp_ne (tgt := 129) hx hb dX12_payment_116 (by decide) (fun c_87 => ?_) (fun c_87 => ?_)
            · have hZ := jx_i_neg c_87 hZ
              refine lv_iconst (v := (0 : Int32)) hx hb dX12_payment_129 (by decide) ?_
              exact j130i93 x5_13 x6_14 (0 : Int32) S_15 _ hk_16 _ _ hZ hP hD hS _ (lv_sub hl [0, 1, 2, 3, 4] rfl)
            · have hZ := jx_i_pos c_87 hZ
              refine lv_aload_n hx hb dX12_payment_119 rfl (lv_at hl 0 rfl) ?_
              refine gf_12_purse hx hb hts in12 hown hK hP (hts (.fieldLink RX12 22 "CoinsOfLastModel" "purse" "[I") (List.mem_of_getElem? (i := 4) rfl)) dX12_payment_120 ?_
              refine lv_iload hx hb dX12_payment_123 (lv_at hl 4 rfl) ?_
              obtain ⟨c_143, hZ⟩ := jx_a_some hZ
              refine M_iald hx hb hK hP wM_5 c_143 dX12_payment_125 ?_
              refine lv_goto (tgt := 130) hx hb dX12_payment_126 (by decide) ?_
              exact j130i93 x5_13 x6_14 (S_15.1 5 (Int32.toNatClampNeg x6_14)) S_15 _ hk_16 _ _ hZ hP hD hS _ (lv_sub hl [0, 1, 2, 3, 4] rfl)
    exact l_16 FU x2_10 (0 : Int32) S_10 _ _ hw hP hD hS _ (lv_sub hl [3, 4, 2, 1, 0] rfl)
  have j52 : ∀ (x1_5 : Int32) (x2_5 : Int32) (x3_5 : Int32) (S_5 : St)  (H : Heap) (locs : List Loc) (hZ : f_X12_payment_52 x1_5 x2_5 x3_5 S_5 = some Z) (hP : va_P D vwCl (W_M q k S_5) H) (hD : va_D A (W_M q k S_5)) (hS : va_S A s.heap H locs) (ls : Array Slot) (hl : lv_has ls 10 [(0, .ref (q 0)), (1, .int x1_5), (2, .int x2_5), (3, .int x3_5)]), W p l e ({ frames := 2, cells := 0, slots := 0, locals := 50 } : Room) s m ([.ref (q 0), .int x1, .int x2, .int x3] : List Value).toArray below meth c H locs 0 0 (MQ below (va_Qi (fun r u => (r, u) = Z) (fun u t => va_P D vwCl (W_M q k u) t.heap) A) ([.ref (q 0), .int x1, .int x2, .int x3] : List Value).toArray s 0 0 A) (F0 m 52 ls []) := by
    intro x1_5 x2_5 x3_5 S_5   H locs hZ hP hD hS ls hl
    unfold f_X12_payment_52 at hZ
    refine lv_aload_n hx hb dX12_payment_52 rfl (lv_at hl 0 rfl) ?_
    refine gf_12_sorts hx hb hts in12 hown hK hP (hts (.fieldLink RX12 114 "CoinsOfLastModel" "sorts" "I") (List.mem_of_getElem? (i := 2) rfl)) dX12_payment_53 ?_
    refine lv_iconst (v := (1 : Int32)) hx hb dX12_payment_56 (by decide) ?_
    refine lv_isub hx hb dX12_payment_57 ?_
    obtain ⟨x4_6, e_x4_6, hZ⟩ := jx_l_some hZ
    refine tx_i e_x4_6 ?_
    refine lv_istore (lv' := [(4, .int x4_6), (0, .ref (q 0)), (1, .int x1_5), (2, .int x2_5), (3, .int x3_5)]) hx hb dX12_payment_58 hl (by decide) rfl (fun ls hl => ?_)
    obtain ⟨r_9, hw, hza_9⟩ := jx_b_some hZ
    have l_9 : ∀ (nn : Nat) (x4_7 : Int32) (S_8 : St) (H : Heap) (locs : List Loc) (hw : jx_w (g_X12_payment_60 x1_5 x2_5 x3_5) nn (x4_7, S_8) = some r_9) (hP : va_P D vwCl (W_M q k S_8) H) (hD : va_D A (W_M q k S_8)) (hS : va_S A s.heap H locs) (ls : Array Slot) (hl : lv_has ls 10 [(0, .ref (q 0)), (1, .int x1_5), (2, .int x2_5), (3, .int x3_5), (4, .int x4_7)]), W p l e ({ frames := 2, cells := 0, slots := 0, locals := 50 } : Room) s m ([.ref (q 0), .int x1, .int x2, .int x3] : List Value).toArray below meth c H locs 0 0 (MQ below (va_Qi (fun r u => (r, u) = Z) (fun u t => va_P D vwCl (W_M q k u) t.heap) A) ([.ref (q 0), .int x1, .int x2, .int x3] : List Value).toArray s 0 0 A) (F0 m 60 ls []) := by
      intro nn
      induction nn with
      | zero =>
        intro x4_7 S_8 H locs hw hP hD hS ls hl
        exact jx_w_zero hw
      | succ n_9 ih_9 =>
        intro x4_7 S_8 H locs hw hP hD hS ls hl
        obtain ⟨o_9, hZ, hk_9⟩ := jx_w_succ hw
        have hZ : b_X12_payment_60 x1_5 x2_5 x3_5 x4_7 S_8 = some o_9 := hZ
        unfold b_X12_payment_60 at hZ
        refine lv_iload hx hb dX12_payment_60 (lv_at hl 4 rfl) ?_
        refine lv_if_lt (tgt := 79) hx hb dX12_payment_62 (by decide) (fun c_151 => ?_) (fun c_151 => ?_)
        · have hZ := jx_i_pos c_151 hZ
          have ho := Option.some.inj hZ
          subst ho
          have hE := hza_9
          rw [← (show S_8 = r_9 from hk_9)] at hE
          have hZ : f_X12_payment_79 x1_5 x2_5 S_8 = some Z := hE
          exact j79 x1_5 x2_5 S_8 _ _ hZ hP hD hS _ (lv_sub hl [0, 1, 2] rfl)
        · have hZ := jx_i_neg c_151 hZ
          refine lv_aload_n hx hb dX12_payment_65 rfl (lv_at hl 0 rfl) ?_
          refine lv_iload hx hb dX12_payment_66 (lv_at hl 4 rfl) ?_
          refine lv_iload_n hx hb dX12_payment_68 rfl (lv_at hl 1 rfl) ?_
          refine lv_iload_n hx hb dX12_payment_69 rfl (lv_at hl 3 rfl) ?_
          obtain ⟨S_153, hc_154, hZ⟩ := jx_b_some hZ
          refine call_Vv SM_ok sameM ⟨hx, hb, hml, hown, hts⟩ (c_X12_fills l D q k x4_7 x1_5 x3_5 S_8 _ S_153  hc_154) (cwV 3 hts gX12_payment_X12_fills rfl rfl rfl hd_X12_fills ⟨Nat.le_of_ble_eq_true rfl, Nat.le_of_ble_eq_true rfl⟩) hK hP hD hS hA hsp (va_recv hK hP (ci := 12) (q0 := 0) rfl wM_0) (As := [.int x4_7, .int x1_5, .int x3_5]) rfl hl.1 rfl (Nat.le_of_ble_eq_true rfl) dX12_payment_70 ⟨Nat.zero_le _, Nat.zero_le _⟩ (fun H locs hP hD hS => ?_)
          obtain ⟨x4_155, e_x4_155, hZ⟩ := jx_l_some hZ
          refine lv_iinc (v := x4_155) (lv' := [(4, .int x4_155), (0, .ref (q 0)), (1, .int x1_5), (2, .int x2_5), (3, .int x3_5)]) hx hb dX12_payment_73 hl (k := 4) rfl (by rw [e_x4_155]; rfl) (by decide) rfl (fun ls hl => ?_)
          refine lv_goto (tgt := 60) hx hb dX12_payment_76 (by decide) ?_
          have ho := Option.some.inj hZ
          subst ho
          exact ih_9 x4_155 S_153 _ _ hk_9 hP hD hS _ (lv_sub hl [1, 2, 3, 4, 0] rfl)
    exact l_9 FU x4_6 S_5 _ _ hw hP hD hS _ (lv_sub hl [1, 2, 3, 4, 0] rfl)
  unfold f_X12_payment at hZ
  refine lv_iload_n hx hb dX12_payment_0 rfl (lv_at hl 2 rfl) ?_
  refine lv_sipush (v := (1920 : Int32)) hx hb dX12_payment_1 (by decide) ?_
  refine lv_icmp_le (tgt := 9) hx hb dX12_payment_4 (by decide) (fun c_1 => ?_) (fun c_1 => ?_)
  · have hZ := jx_i_pos c_1 hZ
    refine lv_iconst (v := (0 : Int32)) hx hb dX12_payment_9 (by decide) ?_
    refine lv_istore (lv' := [(4, .int (0 : Int32)), (0, .ref (q 0)), (1, .int x1), (2, .int x2), (3, .int x3)]) hx hb dX12_payment_10 hl (by decide) rfl (fun ls hl => ?_)
    obtain ⟨r_4, hw, hza_4⟩ := jx_b_some hZ
    have l_4 : ∀ (nn : Nat) (x4_2 : Int32) (S_3 : St) (H : Heap) (locs : List Loc) (hw : jx_w (g_X12_payment_12 x1 x2 x3) nn (x4_2, S_3) = some r_4) (hP : va_P D vwCl (W_M q k S_3) H) (hD : va_D A (W_M q k S_3)) (hS : va_S A s.heap H locs) (ls : Array Slot) (hl : lv_has ls 10 [(0, .ref (q 0)), (1, .int x1), (2, .int x2), (3, .int x3), (4, .int x4_2)]), W p l e ({ frames := 2, cells := 0, slots := 0, locals := 50 } : Room) s m ([.ref (q 0), .int x1, .int x2, .int x3] : List Value).toArray below meth c H locs 0 0 (MQ below (va_Qi (fun r u => (r, u) = Z) (fun u t => va_P D vwCl (W_M q k u) t.heap) A) ([.ref (q 0), .int x1, .int x2, .int x3] : List Value).toArray s 0 0 A) (F0 m 12 ls []) := by
      intro nn
      induction nn with
      | zero =>
        intro x4_2 S_3 H locs hw hP hD hS ls hl
        exact jx_w_zero hw
      | succ n_4 ih_4 =>
        intro x4_2 S_3 H locs hw hP hD hS ls hl
        obtain ⟨o_4, hZ, hk_4⟩ := jx_w_succ hw
        have hZ : b_X12_payment_12 x1 x2 x3 x4_2 S_3 = some o_4 := hZ
        have j45i12 : ∀ (x4_169 : Int32) (s1_169 : Int32) (s2_169 : Int32) (S_169 : St)  (o_4 : (Int32 × St) ⊕ (St)) (hk_4 : jx_k (g_X12_payment_12 x1 x2 x3) n_4 r_4 o_4) (H : Heap) (locs : List Loc) (hZ : f_X12_payment_45i12 x1 x2 x3 x4_169 s1_169 s2_169 S_169 = some o_4) (hP : va_P D vwCl (W_M q k S_169) H) (hD : va_D A (W_M q k S_169)) (hS : va_S A s.heap H locs) (ls : Array Slot) (hl : lv_has ls 10 [(0, .ref (q 0)), (1, .int x1), (2, .int x2), (3, .int x3), (4, .int x4_169)]), W p l e ({ frames := 2, cells := 0, slots := 0, locals := 50 } : Room) s m ([.ref (q 0), .int x1, .int x2, .int x3] : List Value).toArray below meth c H locs 0 0 (MQ below (va_Qi (fun r u => (r, u) = Z) (fun u t => va_P D vwCl (W_M q k u) t.heap) A) ([.ref (q 0), .int x1, .int x2, .int x3] : List Value).toArray s 0 0 A) (F0 m 45 ls [.int s2_169, .int s1_169, .ref (q 23)]) := by
          intro x4_169 s1_169 s2_169 S_169  o_4 hk_4 H locs hZ hP hD hS ls hl
          unfold f_X12_payment_45i12 at hZ
          obtain ⟨c_170, hZ⟩ := jx_a_some hZ
          obtain ⟨S_171, e_S_171, hZ⟩ := jx_l_some hZ
          refine M_iast hx hb hK hP hD hS wM_23 (fun _ => wMs_23) c_170 e_S_171 dX12_payment_45 (fun H locs hP hD hS => ?_)
          obtain ⟨x4_172, e_x4_172, hZ⟩ := jx_l_some hZ
          refine lv_iinc (v := x4_172) (lv' := [(4, .int x4_172), (0, .ref (q 0)), (1, .int x1), (2, .int x2), (3, .int x3)]) hx hb dX12_payment_46 hl (k := 4) rfl (by rw [e_x4_172]; rfl) (by decide) rfl (fun ls hl => ?_)
          refine lv_goto (tgt := 12) hx hb dX12_payment_49 (by decide) ?_
          have ho := Option.some.inj hZ
          subst ho
          exact ih_4 x4_172 S_171 _ _ hk_4 hP hD hS _ (lv_sub hl [1, 2, 3, 4, 0] rfl)
        unfold b_X12_payment_12 at hZ
        refine lv_iload hx hb dX12_payment_12 (lv_at hl 4 rfl) ?_
        refine lv_sipush (v := (1920 : Int32)) hx hb dX12_payment_14 (by decide) ?_
        refine lv_icmp_gt (tgt := 52) hx hb dX12_payment_17 (by decide) (fun c_166 => ?_) (fun c_166 => ?_)
        · have hZ := jx_i_pos c_166 hZ
          have ho := Option.some.inj hZ
          subst ho
          have hE := hza_4
          rw [← (show S_3 = r_4 from hk_4)] at hE
          have hZ : f_X12_payment_52 x1 x2 x3 S_3 = some Z := hE
          exact j52 x1 x2 x3 S_3 _ _ hZ hP hD hS _ (lv_sub hl [0, 1, 2, 3] rfl)
        · have hZ := jx_i_neg c_166 hZ
          refine lv_aload_n hx hb dX12_payment_20 rfl (lv_at hl 0 rfl) ?_
          refine gf_12_coins hx hb hts in12 hown hK hP (hts (.fieldLink RX12 78 "CoinsOfLastModel" "coins" "[I") (List.mem_of_getElem? (i := 1) rfl)) dX12_payment_21 ?_
          refine lv_sipush (v := (1921 : Int32)) hx hb dX12_payment_24 (by decide) ?_
          refine lv_aload_n hx hb dX12_payment_27 rfl (lv_at hl 0 rfl) ?_
          refine gf_12_sorts hx hb hts in12 hown hK hP (hts (.fieldLink RX12 114 "CoinsOfLastModel" "sorts" "I") (List.mem_of_getElem? (i := 2) rfl)) dX12_payment_28 ?_
          refine lv_imul hx hb dX12_payment_31 ?_
          refine lv_iload hx hb dX12_payment_32 (lv_at hl 4 rfl) ?_
          refine lv_iadd hx hb dX12_payment_34 ?_
          refine lv_iload hx hb dX12_payment_35 (lv_at hl 4 rfl) ?_
          refine lv_if_ne (tgt := 44) hx hb dX12_payment_37 (by decide) (fun c_168 => ?_) (fun c_168 => ?_)
          · have hZ := jx_i_neg c_168 hZ
            refine lv_iconst (v := (-1 : Int32)) hx hb dX12_payment_44 (by decide) ?_
            exact j45i12 x4_2 (((1921 : Int32) * (S_3.1 0 0)) + x4_2) (-1 : Int32) S_3 _ hk_4 _ _ hZ hP hD hS _ (lv_sub hl [0, 1, 2, 3, 4] rfl)
          · have hZ := jx_i_pos c_168 hZ
            refine lv_iconst (v := (0 : Int32)) hx hb dX12_payment_40 (by decide) ?_
            refine lv_goto (tgt := 45) hx hb dX12_payment_41 (by decide) ?_
            exact j45i12 x4_2 (((1921 : Int32) * (S_3.1 0 0)) + x4_2) (0 : Int32) S_3 _ hk_4 _ _ hZ hP hD hS _ (lv_sub hl [0, 1, 2, 3, 4] rfl)
    exact l_4 FU (0 : Int32) S _ _ hw hP hD hS _ (lv_sub hl [1, 2, 3, 4, 0] rfl)
  · have hZ := jx_i_neg c_1 hZ
    refine lv_iconst (v := (-1 : Int32)) hx hb dX12_payment_7 (by decide) ?_
    exact leave_i hx hb hr hlocks hP hS hZ dX12_payment_8
-- X12_isAmount
def f_X12_isAmount (x0 : Int32) (S : St) : Option (Int32 × St) :=
  (if x0 < 0 then some ((0 : Int32), S) else jx_d (10000 : Int32) (jx_b2 (f_X12_isLand (x0 / (10000 : Int32)) S) (fun r_5 S_3 => (if r_5 = 0 then some ((0 : Int32), S_3) else some ((1 : Int32), S_3)))))
set_option maxHeartbeats 4000000 in
set_option maxRecDepth 100000 in
theorem c_X12_isAmount (l : Launch) (D : va_G) (q : Nat → Nat) (k : CI) (x0 : Int32) (S : St) (sz : Nat) (Z : Int32 × St) (hZ : f_X12_isAmount x0 S = some Z) : MetI W_M SM l yX12_isAmount wsX12_isAmount { frames := 2, cells := 0, slots := 0, locals := 42 } [.int x0] D q k S sz Z := by
  refine enter (cc := cX12_isAmount) (maxL := 1) (ret := some .boolean) (by decide) rfl (Nat.le_of_ble_eq_true rfl) ?_
  intro p e s m below meth c A ls hx hb hr hts hown hlocks hml hP hK hD hA hS hsp hAe hl
  have hown : s.vm.findClass RX12 = some m.cls := hown
  have hl : lv_has ls 1 [(0, .int x0)] := hl
  unfold f_X12_isAmount at hZ
  refine lv_iload_n hx hb dX12_isAmount_0 rfl (lv_at hl 0 rfl) ?_
  refine lv_if_lt (tgt := 19) hx hb dX12_isAmount_1 (by decide) (fun c_1 => ?_) (fun c_1 => ?_)
  · have hZ := jx_i_pos c_1 hZ
    refine lv_iconst (v := (0 : Int32)) hx hb dX12_isAmount_19 (by decide) ?_
    exact leave_z hx hb hr hlocks rfl hP hS hZ dX12_isAmount_20
  · have hZ := jx_i_neg c_1 hZ
    refine lv_iload_n hx hb dX12_isAmount_4 rfl (lv_at hl 0 rfl) ?_
    refine lv_sipush (v := (10000 : Int32)) hx hb dX12_isAmount_5 (by decide) ?_
    obtain ⟨c_2, hZ⟩ := jx_d_some hZ
    refine lv_idiv hx hb dX12_isAmount_8 c_2 ?_
    obtain ⟨r_5, S_3, hc_4, hZ⟩ := jx_b2_some hZ
    refine call_Si SM_ok sameM ⟨hx, hb, hml, hown, hts⟩ (c_X12_isLand l D q k (x0 / (10000 : Int32)) S _ (r_5, S_3)  hc_4) (va_cwS 1 hts gX12_isAmount_X12_isLand rfl rfl rfl hd_X12_isLand ⟨Nat.le_of_ble_eq_true rfl, Nat.le_of_ble_eq_true rfl⟩) hK hP hD hS hA hsp (As := [.int (x0 / (10000 : Int32))]) rfl hl.1 rfl (Nat.le_of_ble_eq_true rfl) dX12_isAmount_9 ⟨Nat.zero_le _, Nat.zero_le _⟩ (fun H locs hP hD hS => ?_)
    refine lv_if_eq (tgt := 19) hx hb dX12_isAmount_12 (by decide) (fun c_6 => ?_) (fun c_6 => ?_)
    · have hZ := jx_i_pos c_6 hZ
      refine lv_iconst (v := (0 : Int32)) hx hb dX12_isAmount_19 (by decide) ?_
      exact leave_z hx hb hr hlocks rfl hP hS hZ dX12_isAmount_20
    · have hZ := jx_i_neg c_6 hZ
      refine lv_iconst (v := (1 : Int32)) hx hb dX12_isAmount_15 (by decide) ?_
      refine lv_goto (tgt := 20) hx hb dX12_isAmount_16 (by decide) ?_
      exact leave_z hx hb hr hlocks rfl hP hS hZ dX12_isAmount_20
theorem hd_X12_isAmount : yX12_isAmount.cls ≠ "java/lang/invoke/MethodHandle" ∧ yX12_isAmount.cls ≠ "java/lang/invoke/VarHandle" ∧ (parseMethodDescriptor yX12_isAmount.desc).map (fun d => d.parameters.length) = some 1 := by decide +kernel
theorem hd_X12_payment : yX12_payment.cls = RX12 ∧ yX12_payment.cls ≠ "java/lang/invoke/MethodHandle" ∧ yX12_payment.cls ≠ "java/lang/invoke/VarHandle" ∧ (parseMethodDescriptor yX12_payment.desc).map (fun d => d.parameters.length) = some 3 := by decide +kernel
-- X12_paid
def f_X12_paid (x1 : Int32) (x2 : Int32) (x3 : Int32) (S : St) : Option (Int32 × St) :=
  jx_b2 (f_X12_isAmount x1 S) (fun r_3 S_1 => (if r_3 = 0 then some ((-1 : Int32), S_1) else jx_b2 (f_X12_in x2 (0 : Int32) (1 : Int32) S_1) (fun r_7 S_5 => (if r_7 = 0 then some ((-1 : Int32), S_5) else jx_b2 (f_X12_in x3 (-1 : Int32) ((S_5.1 0 0) - (1 : Int32)) S_5) (fun r_11 S_9 => (if r_11 = 0 then some ((-1 : Int32), S_9) else jx_d (10000 : Int32) (jx_d (10000 : Int32) (jx_b2 (f_X12_payment (x1 / (10000 : Int32)) (x1 - x1 / (10000 : Int32) * (10000 : Int32)) x2 S_9) (fun r_17 S_15 => (if r_17 = (-1 : Int32) then some ((-2 : Int32), S_15) else (if x3 = (-1 : Int32) then some (r_17, S_15) else jx_a x3 8 (some ((S_15.1 24 (Int32.toNatClampNeg x3)), S_15)))))))))))))
set_option maxHeartbeats 4000000 in
set_option maxRecDepth 100000 in
theorem c_X12_paid (l : Launch) (D : va_G) (q : Nat → Nat) (k : CI) (x1 : Int32) (x2 : Int32) (x3 : Int32) (S : St) (sz : Nat) (Z : Int32 × St) (hZ : f_X12_paid x1 x2 x3 S = some Z) : MetI W_M SM l yX12_paid wsX12_paid { frames := 3, cells := 0, slots := 0, locals := 79 } [.ref (q 0), .int x1, .int x2, .int x3] D q k S sz Z := by
  refine enter (cc := cX12_paid) (maxL := 5) (ret := some .int) (by decide) rfl (Nat.le_of_ble_eq_true rfl) ?_
  intro p e s m below meth c A ls hx hb hr hts hown hlocks hml hP hK hD hA hS hsp hAe hl
  have hown : s.vm.findClass RX12 = some m.cls := hown
  have hl : lv_has ls 5 [(0, .ref (q 0)), (1, .int x1), (2, .int x2), (3, .int x3)] := hl
  have in12 : ∀ w ∈ wsX120, w ∈ wsX12_paid := fun _ h => (List.mem_cons_of_mem _ (List.mem_append_right _ h))
  unfold f_X12_paid at hZ
  refine lv_iload_n hx hb dX12_paid_0 rfl (lv_at hl 1 rfl) ?_
  obtain ⟨r_3, S_1, hc_2, hZ⟩ := jx_b2_some hZ
  refine call_Si SM_ok sameM ⟨hx, hb, hml, hown, hts⟩ (c_X12_isAmount l D q k x1 S _ (r_3, S_1)  hc_2) (va_cwS 1 hts gX12_paid_X12_isAmount rfl rfl rfl hd_X12_isAmount ⟨Nat.le_of_ble_eq_true rfl, Nat.le_of_ble_eq_true rfl⟩) hK hP hD hS hA hsp (As := [.int x1]) rfl hl.1 rfl (Nat.le_of_ble_eq_true rfl) dX12_paid_1 ⟨Nat.zero_le _, Nat.zero_le _⟩ (fun H locs hP hD hS => ?_)
  refine lv_if_eq (tgt := 30) hx hb dX12_paid_4 (by decide) (fun c_4 => ?_) (fun c_4 => ?_)
  · have hZ := jx_i_pos c_4 hZ
    refine lv_iconst (v := (-1 : Int32)) hx hb dX12_paid_30 (by decide) ?_
    exact leave_i hx hb hr hlocks hP hS hZ dX12_paid_31
  · have hZ := jx_i_neg c_4 hZ
    refine lv_iload_n hx hb dX12_paid_7 rfl (lv_at hl 2 rfl) ?_
    refine lv_iconst (v := (0 : Int32)) hx hb dX12_paid_8 (by decide) ?_
    refine lv_iconst (v := (1 : Int32)) hx hb dX12_paid_9 (by decide) ?_
    obtain ⟨r_7, S_5, hc_6, hZ⟩ := jx_b2_some hZ
    refine call_Si SM_ok sameM ⟨hx, hb, hml, hown, hts⟩ (c_X12_in l D q k x2 (0 : Int32) (1 : Int32) S_1 _ (r_7, S_5)  hc_6) (va_cwS 3 hts gX12_paid_X12_in rfl rfl rfl hd_X12_in ⟨Nat.le_of_ble_eq_true rfl, Nat.le_of_ble_eq_true rfl⟩) hK hP hD hS hA hsp (As := [.int x2, .int (0 : Int32), .int (1 : Int32)]) rfl hl.1 rfl (Nat.le_of_ble_eq_true rfl) dX12_paid_10 ⟨Nat.zero_le _, Nat.zero_le _⟩ (fun H locs hP hD hS => ?_)
    refine lv_if_eq (tgt := 30) hx hb dX12_paid_13 (by decide) (fun c_8 => ?_) (fun c_8 => ?_)
    · have hZ := jx_i_pos c_8 hZ
      refine lv_iconst (v := (-1 : Int32)) hx hb dX12_paid_30 (by decide) ?_
      exact leave_i hx hb hr hlocks hP hS hZ dX12_paid_31
    · have hZ := jx_i_neg c_8 hZ
      refine lv_iload_n hx hb dX12_paid_16 rfl (lv_at hl 3 rfl) ?_
      refine lv_iconst (v := (-1 : Int32)) hx hb dX12_paid_17 (by decide) ?_
      refine lv_aload_n hx hb dX12_paid_18 rfl (lv_at hl 0 rfl) ?_
      refine gf_12_sorts hx hb hts in12 hown hK hP (hts (.fieldLink RX12 114 "CoinsOfLastModel" "sorts" "I") (List.mem_of_getElem? (i := 1) rfl)) dX12_paid_19 ?_
      refine lv_iconst (v := (1 : Int32)) hx hb dX12_paid_22 (by decide) ?_
      refine lv_isub hx hb dX12_paid_23 ?_
      obtain ⟨r_11, S_9, hc_10, hZ⟩ := jx_b2_some hZ
      refine call_Si SM_ok sameM ⟨hx, hb, hml, hown, hts⟩ (c_X12_in l D q k x3 (-1 : Int32) ((S_5.1 0 0) - (1 : Int32)) S_5 _ (r_11, S_9)  hc_10) (va_cwS 3 hts gX12_paid_X12_in rfl rfl rfl hd_X12_in ⟨Nat.le_of_ble_eq_true rfl, Nat.le_of_ble_eq_true rfl⟩) hK hP hD hS hA hsp (As := [.int x3, .int (-1 : Int32), .int ((S_5.1 0 0) - (1 : Int32))]) rfl hl.1 rfl (Nat.le_of_ble_eq_true rfl) dX12_paid_24 ⟨Nat.zero_le _, Nat.zero_le _⟩ (fun H locs hP hD hS => ?_)
      refine lv_if_ne (tgt := 32) hx hb dX12_paid_27 (by decide) (fun c_12 => ?_) (fun c_12 => ?_)
      · have hZ := jx_i_neg c_12 hZ
        refine lv_aload_n hx hb dX12_paid_32 rfl (lv_at hl 0 rfl) ?_
        refine lv_iload_n hx hb dX12_paid_33 rfl (lv_at hl 1 rfl) ?_
        refine lv_sipush (v := (10000 : Int32)) hx hb dX12_paid_34 (by decide) ?_
        obtain ⟨c_13, hZ⟩ := jx_d_some hZ
        refine lv_idiv hx hb dX12_paid_37 c_13 ?_
        refine lv_iload_n hx hb dX12_paid_38 rfl (lv_at hl 1 rfl) ?_
        refine lv_sipush (v := (10000 : Int32)) hx hb dX12_paid_39 (by decide) ?_
        obtain ⟨c_14, hZ⟩ := jx_d_some hZ
        refine lv_irem hx hb dX12_paid_42 c_14 ?_
        refine lv_iload_n hx hb dX12_paid_43 rfl (lv_at hl 2 rfl) ?_
        obtain ⟨r_17, S_15, hc_16, hZ⟩ := jx_b2_some hZ
        refine call_Vi SM_ok sameM ⟨hx, hb, hml, hown, hts⟩ (c_X12_payment l D q k (x1 / (10000 : Int32)) (x1 - x1 / (10000 : Int32) * (10000 : Int32)) x2 S_9 _ (r_17, S_15)  hc_16) (cwV 3 hts gX12_paid_X12_payment rfl rfl rfl hd_X12_payment ⟨Nat.le_of_ble_eq_true rfl, Nat.le_of_ble_eq_true rfl⟩) hK hP hD hS hA hsp (va_recv hK hP (ci := 12) (q0 := 0) rfl wM_0) (As := [.int (x1 / (10000 : Int32)), .int (x1 - x1 / (10000 : Int32) * (10000 : Int32)), .int x2]) rfl hl.1 rfl (Nat.le_of_ble_eq_true rfl) dX12_paid_44 ⟨Nat.zero_le _, Nat.zero_le _⟩ (fun H locs hP hD hS => ?_)
        refine lv_istore (lv' := [(4, .int r_17), (0, .ref (q 0)), (1, .int x1), (2, .int x2), (3, .int x3)]) hx hb dX12_paid_47 hl (by decide) rfl (fun ls hl => ?_)
        refine lv_iload hx hb dX12_paid_49 (lv_at hl 0 rfl) ?_
        refine lv_iconst (v := (-1 : Int32)) hx hb dX12_paid_51 (by decide) ?_
        refine lv_icmp_ne (tgt := 60) hx hb dX12_paid_52 (by decide) (fun c_18 => ?_) (fun c_18 => ?_)
        · have hZ := jx_i_neg c_18 hZ
          refine lv_iload_n hx hb dX12_paid_60 rfl (lv_at hl 4 rfl) ?_
          refine lv_iconst (v := (-1 : Int32)) hx hb dX12_paid_61 (by decide) ?_
          refine lv_icmp_ne (tgt := 70) hx hb dX12_paid_62 (by decide) (fun c_19 => ?_) (fun c_19 => ?_)
          · have hZ := jx_i_neg c_19 hZ
            refine lv_aload_n hx hb dX12_paid_70 rfl (lv_at hl 1 rfl) ?_
            refine gf_12_taken0 hx hb hts in12 hown hK hP (hts (.fieldLink RX12 81 "CoinsOfLastModel" "taken0" "[I") (List.mem_of_getElem? (i := 2) rfl)) dX12_paid_71 ?_
            refine lv_iload_n hx hb dX12_paid_74 rfl (lv_at hl 4 rfl) ?_
            obtain ⟨c_20, hZ⟩ := jx_a_some hZ
            refine M_iald hx hb hK hP wM_24 c_20 dX12_paid_75 ?_
            exact leave_i hx hb hr hlocks hP hS hZ dX12_paid_76
          · have hZ := jx_i_pos c_19 hZ
            refine lv_iload hx hb dX12_paid_65 (lv_at hl 0 rfl) ?_
            refine lv_goto (tgt := 76) hx hb dX12_paid_67 (by decide) ?_
            exact leave_i hx hb hr hlocks hP hS hZ dX12_paid_76
        · have hZ := jx_i_pos c_18 hZ
          refine lv_bipush (v := (-2 : Int32)) hx hb dX12_paid_55 (by decide) ?_
          refine lv_goto (tgt := 76) hx hb dX12_paid_57 (by decide) ?_
          exact leave_i hx hb hr hlocks hP hS hZ dX12_paid_76
      · have hZ := jx_i_pos c_12 hZ
        refine lv_iconst (v := (-1 : Int32)) hx hb dX12_paid_30 (by decide) ?_
        exact leave_i hx hb hr hlocks hP hS hZ dX12_paid_31
theorem hd_X12_canPay : yX12_canPay.cls = RX12 ∧ yX12_canPay.cls ≠ "java/lang/invoke/MethodHandle" ∧ yX12_canPay.cls ≠ "java/lang/invoke/VarHandle" ∧ (parseMethodDescriptor yX12_canPay.desc).map (fun d => d.parameters.length) = some 1 := by decide +kernel
theorem hd_X12_pays : yX12_pays.cls = RX12 ∧ yX12_pays.cls ≠ "java/lang/invoke/MethodHandle" ∧ yX12_pays.cls ≠ "java/lang/invoke/VarHandle" ∧ (parseMethodDescriptor yX12_pays.desc).map (fun d => d.parameters.length) = some 1 := by decide +kernel
-- X12_amounts
def f_X12_amounts_77 (x2_19 : Int32) (x3_19 : Int32) (x4_19 : Int32) (S_19 : St) : Option (Int32 × St) :=
  (if x2_19 = 0 then some (x3_19, S_19) else some (x4_19, S_19))
def b_X12_amounts_62 (x2 : Int32) (x3 : Int32) (x4 : Int32) (S : St) : Option ((Int32 × St) ⊕ ((Int32 × St))) :=
  jx_b2 (f_X12_canPay x4 S) (fun r_24 S_22 => (if r_24 = 0 then some (.inr (x4, S_22)) else jx_l (x4 + 1) (fun x4_27 => some (.inl (x4_27, S_22)))))
def g_X12_amounts_62 (x2 : Int32) (x3 : Int32) : (Int32 × St) → Option ((Int32 × St) ⊕ ((Int32 × St))) := fun z => b_X12_amounts_62 x2 x3 z.1 z.2
def f_X12_amounts_62 (x2_15 : Int32) (x3_15 : Int32) (x4_15 : Int32) (S_15 : St) : Option (Int32 × St) :=
  jx_b (jx_w (g_X12_amounts_62 x2_15 x3_15) FU (x4_15, S_15)) (fun z => f_X12_amounts_77 x2_15 x3_15 z.1 z.2)
def f_X12_amounts_54i31 (x2 : Int32) (x4 : Int32) (x5_41 : Int32) (s0_41 : Int32) (s1_41 : Int32) (S_41 : St) : Option ((Int32 × Int32 × St) ⊕ ((Int32 × St))) :=
  jx_l (s0_41 + s1_41) (fun x3_42 => jx_l (x5_41 + 1) (fun x5_43 => some (.inl (x3_42, x5_43, S_41))))
def b_X12_amounts_31 (x2 : Int32) (x4 : Int32) (x3 : Int32) (x5 : Int32) (S : St) : Option ((Int32 × Int32 × St) ⊕ ((Int32 × St))) :=
  (if (1920 : Int32) < x5 then some (.inr (x3, S)) else jx_b2 (f_X12_canPay x5 S) (fun r_39 S_37 => (if r_39 = 0 then f_X12_amounts_54i31 x2 x4 x5 x3 (0 : Int32) S_37 else f_X12_amounts_54i31 x2 x4 x5 x3 (1 : Int32) S_37)))
def g_X12_amounts_31 (x2 : Int32) (x4 : Int32) : (Int32 × Int32 × St) → Option ((Int32 × Int32 × St) ⊕ ((Int32 × St))) := fun z => b_X12_amounts_31 x2 x4 z.1 z.2.1 z.2.2
def f_X12_amounts (x1 : Int32) (x2 : Int32) (S : St) : Option (Int32 × St) :=
  jx_b2 (f_X12_isLand x1 S) (fun r_3 S_1 => (if r_3 = 0 then some ((-1 : Int32), S_1) else jx_b2 (f_X12_in x2 (0 : Int32) (1 : Int32) S_1) (fun r_7 S_5 => (if r_7 = 0 then some ((-1 : Int32), S_5) else jx_b (f_X12_pays x1 S_5) (fun S_9 => jx_b (jx_w (g_X12_amounts_31 x2 (1 : Int32)) FU ((0 : Int32), (1 : Int32), S_9)) (fun z => f_X12_amounts_62 x2 z.1 (1 : Int32) z.2))))))
set_option maxHeartbeats 4000000 in
set_option maxRecDepth 100000 in
theorem c_X12_amounts (l : Launch) (D : va_G) (q : Nat → Nat) (k : CI) (x1 : Int32) (x2 : Int32) (S : St) (sz : Nat) (Z : Int32 × St) (hZ : f_X12_amounts x1 x2 S = some Z) : MetI W_M SM l yX12_amounts wsX12_amounts { frames := 2, cells := 0, slots := 0, locals := 47 } [.ref (q 0), .int x1, .int x2] D q k S sz Z := by
  refine enter (cc := cX12_amounts) (maxL := 6) (ret := some .int) (by decide) rfl (Nat.le_of_ble_eq_true rfl) ?_
  intro p e s m below meth c A ls hx hb hr hts hown hlocks hml hP hK hD hA hS hsp hAe hl
  have hown : s.vm.findClass RX12 = some m.cls := hown
  have hl : lv_has ls 6 [(0, .ref (q 0)), (1, .int x1), (2, .int x2)] := hl
  have j77 : ∀ (x2_19 : Int32) (x3_19 : Int32) (x4_19 : Int32) (S_19 : St)  (H : Heap) (locs : List Loc) (hZ : f_X12_amounts_77 x2_19 x3_19 x4_19 S_19 = some Z) (hP : va_P D vwCl (W_M q k S_19) H) (hD : va_D A (W_M q k S_19)) (hS : va_S A s.heap H locs) (ls : Array Slot) (hl : lv_has ls 6 [(2, .int x2_19), (3, .int x3_19), (4, .int x4_19)]), W p l e ({ frames := 2, cells := 0, slots := 0, locals := 47 } : Room) s m ([.ref (q 0), .int x1, .int x2] : List Value).toArray below meth c H locs 0 0 (MQ below (va_Qi (fun r u => (r, u) = Z) (fun u t => va_P D vwCl (W_M q k u) t.heap) A) ([.ref (q 0), .int x1, .int x2] : List Value).toArray s 0 0 A) (F0 m 77 ls []) := by
    intro x2_19 x3_19 x4_19 S_19   H locs hZ hP hD hS ls hl
    unfold f_X12_amounts_77 at hZ
    refine lv_iload_n hx hb dX12_amounts_77 rfl (lv_at hl 0 rfl) ?_
    refine lv_if_ne (tgt := 85) hx hb dX12_amounts_78 (by decide) (fun c_20 => ?_) (fun c_20 => ?_)
    · have hZ := jx_i_neg c_20 hZ
      refine lv_iload hx hb dX12_amounts_85 (lv_at hl 2 rfl) ?_
      exact leave_i hx hb hr hlocks hP hS hZ dX12_amounts_87
    · have hZ := jx_i_pos c_20 hZ
      refine lv_iload_n hx hb dX12_amounts_81 rfl (lv_at hl 1 rfl) ?_
      refine lv_goto (tgt := 87) hx hb dX12_amounts_82 (by decide) ?_
      exact leave_i hx hb hr hlocks hP hS hZ dX12_amounts_87
  have j62 : ∀ (x2_15 : Int32) (x3_15 : Int32) (x4_15 : Int32) (S_15 : St)  (H : Heap) (locs : List Loc) (hZ : f_X12_amounts_62 x2_15 x3_15 x4_15 S_15 = some Z) (hP : va_P D vwCl (W_M q k S_15) H) (hD : va_D A (W_M q k S_15)) (hS : va_S A s.heap H locs) (ls : Array Slot) (hl : lv_has ls 6 [(0, .ref (q 0)), (2, .int x2_15), (3, .int x3_15), (4, .int x4_15)]), W p l e ({ frames := 2, cells := 0, slots := 0, locals := 47 } : Room) s m ([.ref (q 0), .int x1, .int x2] : List Value).toArray below meth c H locs 0 0 (MQ below (va_Qi (fun r u => (r, u) = Z) (fun u t => va_P D vwCl (W_M q k u) t.heap) A) ([.ref (q 0), .int x1, .int x2] : List Value).toArray s 0 0 A) (F0 m 62 ls []) := by
    intro x2_15 x3_15 x4_15 S_15   H locs hZ hP hD hS ls hl
    unfold f_X12_amounts_62 at hZ
    obtain ⟨r_18, hw, hza_18⟩ := jx_b_some hZ
    have l_18 : ∀ (nn : Nat) (x4_16 : Int32) (S_17 : St) (H : Heap) (locs : List Loc) (hw : jx_w (g_X12_amounts_62 x2_15 x3_15) nn (x4_16, S_17) = some r_18) (hP : va_P D vwCl (W_M q k S_17) H) (hD : va_D A (W_M q k S_17)) (hS : va_S A s.heap H locs) (ls : Array Slot) (hl : lv_has ls 6 [(0, .ref (q 0)), (2, .int x2_15), (3, .int x3_15), (4, .int x4_16)]), W p l e ({ frames := 2, cells := 0, slots := 0, locals := 47 } : Room) s m ([.ref (q 0), .int x1, .int x2] : List Value).toArray below meth c H locs 0 0 (MQ below (va_Qi (fun r u => (r, u) = Z) (fun u t => va_P D vwCl (W_M q k u) t.heap) A) ([.ref (q 0), .int x1, .int x2] : List Value).toArray s 0 0 A) (F0 m 62 ls []) := by
      intro nn
      induction nn with
      | zero =>
        intro x4_16 S_17 H locs hw hP hD hS ls hl
        exact jx_w_zero hw
      | succ n_18 ih_18 =>
        intro x4_16 S_17 H locs hw hP hD hS ls hl
        obtain ⟨o_18, hZ, hk_18⟩ := jx_w_succ hw
        have hZ : b_X12_amounts_62 x2_15 x3_15 x4_16 S_17 = some o_18 := hZ
        unfold b_X12_amounts_62 at hZ
        refine lv_aload_n hx hb dX12_amounts_62 rfl (lv_at hl 0 rfl) ?_
        refine lv_iload hx hb dX12_amounts_63 (lv_at hl 3 rfl) ?_
        obtain ⟨r_30, S_28, hc_29, hZ⟩ := jx_b2_some hZ
        refine call_Vi SM_ok sameM ⟨hx, hb, hml, hown, hts⟩ (c_X12_canPay l D q k x4_16 S_17 _ (r_30, S_28)  hc_29) (cwV 1 hts gX12_amounts_X12_canPay rfl rfl rfl hd_X12_canPay ⟨Nat.le_of_ble_eq_true rfl, Nat.le_of_ble_eq_true rfl⟩) hK hP hD hS hA hsp (va_recv hK hP (ci := 12) (q0 := 0) rfl wM_0) (As := [.int x4_16]) rfl hl.1 rfl (Nat.le_of_ble_eq_true rfl) dX12_amounts_65 ⟨Nat.zero_le _, Nat.zero_le _⟩ (fun H locs hP hD hS => ?_)
        refine lv_if_eq (tgt := 77) hx hb dX12_amounts_68 (by decide) (fun c_31 => ?_) (fun c_31 => ?_)
        · have hZ := jx_i_pos c_31 hZ
          have ho := Option.some.inj hZ
          subst ho
          have hE := hza_18
          rw [← (show (x4_16, S_28) = r_18 from hk_18)] at hE
          have hZ : f_X12_amounts_77 x2_15 x3_15 x4_16 S_28 = some Z := hE
          exact j77 x2_15 x3_15 x4_16 S_28 _ _ hZ hP hD hS _ (lv_sub hl [1, 2, 3] rfl)
        · have hZ := jx_i_neg c_31 hZ
          obtain ⟨x4_33, e_x4_33, hZ⟩ := jx_l_some hZ
          refine lv_iinc (v := x4_33) (lv' := [(4, .int x4_33), (0, .ref (q 0)), (2, .int x2_15), (3, .int x3_15)]) hx hb dX12_amounts_71 hl (k := 3) rfl (by rw [e_x4_33]; rfl) (by decide) rfl (fun ls hl => ?_)
          refine lv_goto (tgt := 62) hx hb dX12_amounts_74 (by decide) ?_
          have ho := Option.some.inj hZ
          subst ho
          exact ih_18 x4_33 S_28 _ _ hk_18 hP hD hS _ (lv_sub hl [1, 2, 3, 0] rfl)
    exact l_18 FU x4_15 S_15 _ _ hw hP hD hS _ (lv_sub hl [0, 1, 2, 3] rfl)
  unfold f_X12_amounts at hZ
  refine lv_iload_n hx hb dX12_amounts_0 rfl (lv_at hl 1 rfl) ?_
  obtain ⟨r_3, S_1, hc_2, hZ⟩ := jx_b2_some hZ
  refine call_Si SM_ok sameM ⟨hx, hb, hml, hown, hts⟩ (c_X12_isLand l D q k x1 S _ (r_3, S_1)  hc_2) (va_cwS 1 hts gX12_amounts_X12_isLand rfl rfl rfl hd_X12_isLand ⟨Nat.le_of_ble_eq_true rfl, Nat.le_of_ble_eq_true rfl⟩) hK hP hD hS hA hsp (As := [.int x1]) rfl hl.1 rfl (Nat.le_of_ble_eq_true rfl) dX12_amounts_1 ⟨Nat.zero_le _, Nat.zero_le _⟩ (fun H locs hP hD hS => ?_)
  refine lv_if_eq (tgt := 16) hx hb dX12_amounts_4 (by decide) (fun c_4 => ?_) (fun c_4 => ?_)
  · have hZ := jx_i_pos c_4 hZ
    refine lv_iconst (v := (-1 : Int32)) hx hb dX12_amounts_16 (by decide) ?_
    exact leave_i hx hb hr hlocks hP hS hZ dX12_amounts_17
  · have hZ := jx_i_neg c_4 hZ
    refine lv_iload_n hx hb dX12_amounts_7 rfl (lv_at hl 2 rfl) ?_
    refine lv_iconst (v := (0 : Int32)) hx hb dX12_amounts_8 (by decide) ?_
    refine lv_iconst (v := (1 : Int32)) hx hb dX12_amounts_9 (by decide) ?_
    obtain ⟨r_7, S_5, hc_6, hZ⟩ := jx_b2_some hZ
    refine call_Si SM_ok sameM ⟨hx, hb, hml, hown, hts⟩ (c_X12_in l D q k x2 (0 : Int32) (1 : Int32) S_1 _ (r_7, S_5)  hc_6) (va_cwS 3 hts gX12_amounts_X12_in rfl rfl rfl hd_X12_in ⟨Nat.le_of_ble_eq_true rfl, Nat.le_of_ble_eq_true rfl⟩) hK hP hD hS hA hsp (As := [.int x2, .int (0 : Int32), .int (1 : Int32)]) rfl hl.1 rfl (Nat.le_of_ble_eq_true rfl) dX12_amounts_10 ⟨Nat.zero_le _, Nat.zero_le _⟩ (fun H locs hP hD hS => ?_)
    refine lv_if_ne (tgt := 18) hx hb dX12_amounts_13 (by decide) (fun c_8 => ?_) (fun c_8 => ?_)
    · have hZ := jx_i_neg c_8 hZ
      refine lv_aload_n hx hb dX12_amounts_18 rfl (lv_at hl 0 rfl) ?_
      refine lv_iload_n hx hb dX12_amounts_19 rfl (lv_at hl 1 rfl) ?_
      obtain ⟨S_9, hc_10, hZ⟩ := jx_b_some hZ
      refine call_Vv SM_ok sameM ⟨hx, hb, hml, hown, hts⟩ (c_X12_pays l D q k x1 S_5 _ S_9  hc_10) (cwV 1 hts gX12_amounts_X12_pays rfl rfl rfl hd_X12_pays ⟨Nat.le_of_ble_eq_true rfl, Nat.le_of_ble_eq_true rfl⟩) hK hP hD hS hA hsp (va_recv hK hP (ci := 12) (q0 := 0) rfl wM_0) (As := [.int x1]) rfl hl.1 rfl (Nat.le_of_ble_eq_true rfl) dX12_amounts_20 ⟨Nat.zero_le _, Nat.zero_le _⟩ (fun H locs hP hD hS => ?_)
      refine lv_iconst (v := (0 : Int32)) hx hb dX12_amounts_23 (by decide) ?_
      refine lv_istore_n (lv' := [(3, .int (0 : Int32)), (0, .ref (q 0)), (1, .int x1), (2, .int x2)]) hx hb dX12_amounts_24 rfl hl (by decide) rfl (fun ls hl => ?_)
      refine lv_iconst (v := (1 : Int32)) hx hb dX12_amounts_25 (by decide) ?_
      refine lv_istore (lv' := [(4, .int (1 : Int32)), (3, .int (0 : Int32)), (0, .ref (q 0)), (1, .int x1), (2, .int x2)]) hx hb dX12_amounts_26 hl (by decide) rfl (fun ls hl => ?_)
      refine lv_iconst (v := (1 : Int32)) hx hb dX12_amounts_28 (by decide) ?_
      refine lv_istore (lv' := [(5, .int (1 : Int32)), (4, .int (1 : Int32)), (3, .int (0 : Int32)), (0, .ref (q 0)), (1, .int x1), (2, .int x2)]) hx hb dX12_amounts_29 hl (by decide) rfl (fun ls hl => ?_)
      obtain ⟨r_14, hw, hza_14⟩ := jx_b_some hZ
      have l_14 : ∀ (nn : Nat) (x3_11 : Int32) (x5_12 : Int32) (S_13 : St) (H : Heap) (locs : List Loc) (hw : jx_w (g_X12_amounts_31 x2 (1 : Int32)) nn (x3_11, x5_12, S_13) = some r_14) (hP : va_P D vwCl (W_M q k S_13) H) (hD : va_D A (W_M q k S_13)) (hS : va_S A s.heap H locs) (ls : Array Slot) (hl : lv_has ls 6 [(0, .ref (q 0)), (2, .int x2), (3, .int x3_11), (4, .int (1 : Int32)), (5, .int x5_12)]), W p l e ({ frames := 2, cells := 0, slots := 0, locals := 47 } : Room) s m ([.ref (q 0), .int x1, .int x2] : List Value).toArray below meth c H locs 0 0 (MQ below (va_Qi (fun r u => (r, u) = Z) (fun u t => va_P D vwCl (W_M q k u) t.heap) A) ([.ref (q 0), .int x1, .int x2] : List Value).toArray s 0 0 A) (F0 m 31 ls []) := by
        intro nn
        induction nn with
        | zero =>
          intro x3_11 x5_12 S_13 H locs hw hP hD hS ls hl
          exact jx_w_zero hw
        | succ n_14 ih_14 =>
          intro x3_11 x5_12 S_13 H locs hw hP hD hS ls hl
          obtain ⟨o_14, hZ, hk_14⟩ := jx_w_succ hw
          have hZ : b_X12_amounts_31 x2 (1 : Int32) x3_11 x5_12 S_13 = some o_14 := hZ
          have j54i31 : ∀ (x5_52 : Int32) (s0_52 : Int32) (s1_52 : Int32) (S_52 : St)  (o_14 : (Int32 × Int32 × St) ⊕ ((Int32 × St))) (hk_14 : jx_k (g_X12_amounts_31 x2 (1 : Int32)) n_14 r_14 o_14) (H : Heap) (locs : List Loc) (hZ : f_X12_amounts_54i31 x2 (1 : Int32) x5_52 s0_52 s1_52 S_52 = some o_14) (hP : va_P D vwCl (W_M q k S_52) H) (hD : va_D A (W_M q k S_52)) (hS : va_S A s.heap H locs) (ls : Array Slot) (hl : lv_has ls 6 [(0, .ref (q 0)), (2, .int x2), (4, .int (1 : Int32)), (5, .int x5_52)]), W p l e ({ frames := 2, cells := 0, slots := 0, locals := 47 } : Room) s m ([.ref (q 0), .int x1, .int x2] : List Value).toArray below meth c H locs 0 0 (MQ below (va_Qi (fun r u => (r, u) = Z) (fun u t => va_P D vwCl (W_M q k u) t.heap) A) ([.ref (q 0), .int x1, .int x2] : List Value).toArray s 0 0 A) (F0 m 54 ls [.int s1_52, .int s0_52]) := by
            intro x5_52 s0_52 s1_52 S_52  o_14 hk_14 H locs hZ hP hD hS ls hl
            unfold f_X12_amounts_54i31 at hZ
            refine lv_iadd hx hb dX12_amounts_54 ?_
            obtain ⟨x3_53, e_x3_53, hZ⟩ := jx_l_some hZ
            refine tx_i e_x3_53 ?_
            refine lv_istore_n (lv' := [(3, .int x3_53), (0, .ref (q 0)), (2, .int x2), (4, .int (1 : Int32)), (5, .int x5_52)]) hx hb dX12_amounts_55 rfl hl (by decide) rfl (fun ls hl => ?_)
            obtain ⟨x5_54, e_x5_54, hZ⟩ := jx_l_some hZ
            refine lv_iinc (v := x5_54) (lv' := [(5, .int x5_54), (3, .int x3_53), (0, .ref (q 0)), (2, .int x2), (4, .int (1 : Int32))]) hx hb dX12_amounts_56 hl (k := 4) rfl (by rw [e_x5_54]; rfl) (by decide) rfl (fun ls hl => ?_)
            refine lv_goto (tgt := 31) hx hb dX12_amounts_59 (by decide) ?_
            have ho := Option.some.inj hZ
            subst ho
            exact ih_14 x3_53 x5_54 S_52 _ _ hk_14 hP hD hS _ (lv_sub hl [2, 3, 1, 4, 0] rfl)
          unfold b_X12_amounts_31 at hZ
          refine lv_iload hx hb dX12_amounts_31 (lv_at hl 4 rfl) ?_
          refine lv_sipush (v := (1920 : Int32)) hx hb dX12_amounts_33 (by decide) ?_
          refine lv_icmp_gt (tgt := 62) hx hb dX12_amounts_36 (by decide) (fun c_46 => ?_) (fun c_46 => ?_)
          · have hZ := jx_i_pos c_46 hZ
            have ho := Option.some.inj hZ
            subst ho
            have hE := hza_14
            rw [← (show (x3_11, S_13) = r_14 from hk_14)] at hE
            have hZ : f_X12_amounts_62 x2 x3_11 (1 : Int32) S_13 = some Z := hE
            exact j62 x2 x3_11 (1 : Int32) S_13 _ _ hZ hP hD hS _ (lv_sub hl [0, 1, 2, 3] rfl)
          · have hZ := jx_i_neg c_46 hZ
            refine lv_iload_n hx hb dX12_amounts_39 rfl (lv_at hl 2 rfl) ?_
            refine lv_aload_n hx hb dX12_amounts_40 rfl (lv_at hl 0 rfl) ?_
            refine lv_iload hx hb dX12_amounts_41 (lv_at hl 4 rfl) ?_
            obtain ⟨r_50, S_48, hc_49, hZ⟩ := jx_b2_some hZ
            refine call_Vi SM_ok sameM ⟨hx, hb, hml, hown, hts⟩ (c_X12_canPay l D q k x5_12 S_13 _ (r_50, S_48)  hc_49) (cwV 1 hts gX12_amounts_X12_canPay rfl rfl rfl hd_X12_canPay ⟨Nat.le_of_ble_eq_true rfl, Nat.le_of_ble_eq_true rfl⟩) hK hP hD hS hA hsp (va_recv hK hP (ci := 12) (q0 := 0) rfl wM_0) (As := [.int x5_12]) rfl hl.1 rfl (Nat.le_of_ble_eq_true rfl) dX12_amounts_43 ⟨Nat.zero_le _, Nat.zero_le _⟩ (fun H locs hP hD hS => ?_)
            refine lv_if_eq (tgt := 53) hx hb dX12_amounts_46 (by decide) (fun c_51 => ?_) (fun c_51 => ?_)
            · have hZ := jx_i_pos c_51 hZ
              refine lv_iconst (v := (0 : Int32)) hx hb dX12_amounts_53 (by decide) ?_
              exact j54i31 x5_12 x3_11 (0 : Int32) S_48 _ hk_14 _ _ hZ hP hD hS _ (lv_sub hl [0, 1, 3, 4] rfl)
            · have hZ := jx_i_neg c_51 hZ
              refine lv_iconst (v := (1 : Int32)) hx hb dX12_amounts_49 (by decide) ?_
              refine lv_goto (tgt := 54) hx hb dX12_amounts_50 (by decide) ?_
              exact j54i31 x5_12 x3_11 (1 : Int32) S_48 _ hk_14 _ _ hZ hP hD hS _ (lv_sub hl [0, 1, 3, 4] rfl)
      exact l_14 FU (0 : Int32) (1 : Int32) S_9 _ _ hw hP hD hS _ (lv_sub hl [3, 5, 2, 1, 0] rfl)
    · have hZ := jx_i_pos c_8 hZ
      refine lv_iconst (v := (-1 : Int32)) hx hb dX12_amounts_16 (by decide) ?_
      exact leave_i hx hb hr hlocks hP hS hZ dX12_amounts_17
-- X12_values
def f_X12_values_163 (S_8 : St) : Option (St) :=
  some S_8
def f_X12_values_157i32 (x1 : Int32) (x2_15 : Int32) (S_15 : St) : Option ((Int32 × St) ⊕ (St)) :=
  jx_l (x2_15 + 1) (fun x2_16 => some (.inl (x2_16, S_15)))
def f_X12_values_151i42 (x1 : Int32) (x2 : Int32) (x3_27 : Int32) (S_27 : St) : Option ((Int32 × St) ⊕ (St)) :=
  jx_l (x3_27 + 1) (fun x3_28 => some (.inl (x3_28, S_27)))
def f_X12_values_144i67 (x1 : Int32) (x2 : Int32) (x3 : Int32) (x4_39 : Int32) (s1_39 : Int32) (s2_39 : Int32) (S_39 : St) : Option ((Int32 × St) ⊕ (St)) :=
  jx_a s1_39 1921 (jx_l (u1 S_39 25 (Int32.toNatClampNeg s1_39) s2_39) (fun S_41 => jx_l (x4_39 + (-1)) (fun x4_42 => some (.inl (x4_42, S_41)))))
def f_X12_values_137i67 (x1 : Int32) (x2 : Int32) (x3 : Int32) (x4_37 : Int32) (s1_37 : Int32) (S_37 : St) : Option ((Int32 × St) ⊕ (St)) :=
  jx_a x4_37 1921 (f_X12_values_144i67 x1 x2 x3 x4_37 s1_37 (S_37.1 25 (Int32.toNatClampNeg x4_37)) S_37)
def b_X12_values_67 (x1 : Int32) (x2 : Int32) (x3 : Int32) (x4 : Int32) (S : St) : Option ((Int32 × St) ⊕ (St)) :=
  jx_a x2 10 ((if x4 < (S.1 7 (Int32.toNatClampNeg x2)) then some (.inr S) else jx_a x2 10 (jx_a (x4 - (S.1 7 (Int32.toNatClampNeg x2))) 1921 (jx_l (S.1 25 (Int32.toNatClampNeg (x4 - (S.1 7 (Int32.toNatClampNeg x2))))) (fun x5_35 => (if x5_35 = (-1 : Int32) then f_X12_values_137i67 x1 x2 x3 x4 x4 S else jx_a x2 10 (jx_a x4 1921 ((if (x5_35 + (S.1 8 (Int32.toNatClampNeg x2))) ≤ (S.1 25 (Int32.toNatClampNeg x4)) then f_X12_values_137i67 x1 x2 x3 x4 x4 S else jx_a x2 10 (f_X12_values_144i67 x1 x2 x3 x4 x4 (x5_35 + (S.1 8 (Int32.toNatClampNeg x2))) S))))))))))
def g_X12_values_67 (x1 : Int32) (x2 : Int32) (x3 : Int32) : (Int32 × St) → Option ((Int32 × St) ⊕ (St)) := fun z => b_X12_values_67 x1 x2 x3 z.1 z.2
def b_X12_values_42 (x1 : Int32) (x2 : Int32) (x3 : Int32) (S : St) : Option ((Int32 × St) ⊕ (St)) :=
  jx_a x2 10 ((if (S.1 9 (Int32.toNatClampNeg x2)) ≤ x3 then some (.inr S) else jx_a x2 10 ((if (S.1 6 (Int32.toNatClampNeg x2)) = x1 then jx_b (jx_w (g_X12_values_67 x1 x2 x3) FU ((1920 : Int32), S)) (fun z => f_X12_values_151i42 x1 x2 x3 z) else some (.inr S)))))
def g_X12_values_42 (x1 : Int32) (x2 : Int32) : (Int32 × St) → Option ((Int32 × St) ⊕ (St)) := fun z => b_X12_values_42 x1 x2 z.1 z.2
def b_X12_values_32 (x1 : Int32) (x2 : Int32) (S : St) : Option ((Int32 × St) ⊕ (St)) :=
  (if (S.1 0 6) ≤ x2 then some (.inr S) else jx_b (jx_w (g_X12_values_42 x1 x2) FU ((0 : Int32), S)) (fun z => f_X12_values_157i32 x1 x2 z))
def g_X12_values_32 (x1 : Int32) : (Int32 × St) → Option ((Int32 × St) ⊕ (St)) := fun z => b_X12_values_32 x1 z.1 z.2
def f_X12_values_30 (x1_4 : Int32) (S_4 : St) : Option (St) :=
  jx_b (jx_w (g_X12_values_32 x1_4) FU ((0 : Int32), S_4)) (fun z => f_X12_values_163 z)
def f_X12_values_23i2 (x1 : Int32) (x2_246 : Int32) (s1_246 : Int32) (s2_246 : Int32) (S_246 : St) : Option ((Int32 × St) ⊕ (St)) :=
  jx_a s1_246 1921 (jx_l (u1 S_246 25 (Int32.toNatClampNeg s1_246) s2_246) (fun S_248 => jx_l (x2_246 + 1) (fun x2_249 => some (.inl (x2_249, S_248)))))
def b_X12_values_2 (x1 : Int32) (x2 : Int32) (S : St) : Option ((Int32 × St) ⊕ (St)) :=
  (if (1920 : Int32) < x2 then some (.inr S) else (if x2 = 0 then f_X12_values_23i2 x1 x2 x2 (0 : Int32) S else f_X12_values_23i2 x1 x2 x2 (-1 : Int32) S))
def g_X12_values_2 (x1 : Int32) : (Int32 × St) → Option ((Int32 × St) ⊕ (St)) := fun z => b_X12_values_2 x1 z.1 z.2
def f_X12_values (x1 : Int32) (S : St) : Option (St) :=
  jx_b (jx_w (g_X12_values_2 x1) FU ((0 : Int32), S)) (fun z => f_X12_values_30 x1 z)
set_option maxHeartbeats 4000000 in
set_option maxRecDepth 100000 in
theorem c_X12_values (l : Launch) (D : va_G) (q : Nat → Nat) (k : CI) (x1 : Int32) (S : St) (sz : Nat) (Z : St) (hZ : f_X12_values x1 S = some Z) : MetV W_M SM l yX12_values wsX12_values { frames := 0, cells := 0, slots := 0, locals := 0 } [.ref (q 0), .int x1] D q k S sz Z := by
  refine enter (cc := cX12_values) (maxL := 6) (ret := none) (by decide) rfl (Nat.le_of_ble_eq_true rfl) ?_
  intro p e s m below meth c A ls hx hb hr hts hown hlocks hml hP hK hD hA hS hsp hAe hl
  have hown : s.vm.findClass RX12 = some m.cls := hown
  have hl : lv_has ls 6 [(0, .ref (q 0)), (1, .int x1)] := hl
  have in12 : ∀ w ∈ wsX120, w ∈ wsX12_values := fun _ h => (List.mem_cons_of_mem _ (List.mem_append_right _ h))
  have j163 : ∀ (S_8 : St)  (H : Heap) (locs : List Loc) (hZ : f_X12_values_163 S_8 = some Z) (hP : va_P D vwCl (W_M q k S_8) H) (hD : va_D A (W_M q k S_8)) (hS : va_S A s.heap H locs) (ls : Array Slot) (hl : lv_has ls 6 []), W p l e ({ frames := 0, cells := 0, slots := 0, locals := 0 } : Room) s m ([.ref (q 0), .int x1] : List Value).toArray below meth c H locs 0 0 (MQ below (va_Qv (fun u => u = Z) (fun u t => va_P D vwCl (W_M q k u) t.heap) A) ([.ref (q 0), .int x1] : List Value).toArray s 0 0 A) (F0 m 163 ls []) := by
    intro S_8   H locs hZ hP hD hS ls hl
    unfold f_X12_values_163 at hZ
    exact leave_v hx hb hr hlocks hP hS hZ dX12_values_163
  have j30 : ∀ (x1_4 : Int32) (S_4 : St)  (H : Heap) (locs : List Loc) (hZ : f_X12_values_30 x1_4 S_4 = some Z) (hP : va_P D vwCl (W_M q k S_4) H) (hD : va_D A (W_M q k S_4)) (hS : va_S A s.heap H locs) (ls : Array Slot) (hl : lv_has ls 6 [(0, .ref (q 0)), (1, .int x1_4)]), W p l e ({ frames := 0, cells := 0, slots := 0, locals := 0 } : Room) s m ([.ref (q 0), .int x1] : List Value).toArray below meth c H locs 0 0 (MQ below (va_Qv (fun u => u = Z) (fun u t => va_P D vwCl (W_M q k u) t.heap) A) ([.ref (q 0), .int x1] : List Value).toArray s 0 0 A) (F0 m 30 ls []) := by
    intro x1_4 S_4   H locs hZ hP hD hS ls hl
    unfold f_X12_values_30 at hZ
    refine lv_iconst (v := (0 : Int32)) hx hb dX12_values_30 (by decide) ?_
    refine lv_istore_n (lv' := [(2, .int (0 : Int32)), (0, .ref (q 0)), (1, .int x1_4)]) hx hb dX12_values_31 rfl hl (by decide) rfl (fun ls hl => ?_)
    obtain ⟨r_7, hw, hza_7⟩ := jx_b_some hZ
    have l_7 : ∀ (nn : Nat) (x2_5 : Int32) (S_6 : St) (H : Heap) (locs : List Loc) (hw : jx_w (g_X12_values_32 x1_4) nn (x2_5, S_6) = some r_7) (hP : va_P D vwCl (W_M q k S_6) H) (hD : va_D A (W_M q k S_6)) (hS : va_S A s.heap H locs) (ls : Array Slot) (hl : lv_has ls 6 [(0, .ref (q 0)), (1, .int x1_4), (2, .int x2_5)]), W p l e ({ frames := 0, cells := 0, slots := 0, locals := 0 } : Room) s m ([.ref (q 0), .int x1] : List Value).toArray below meth c H locs 0 0 (MQ below (va_Qv (fun u => u = Z) (fun u t => va_P D vwCl (W_M q k u) t.heap) A) ([.ref (q 0), .int x1] : List Value).toArray s 0 0 A) (F0 m 32 ls []) := by
      intro nn
      induction nn with
      | zero =>
        intro x2_5 S_6 H locs hw hP hD hS ls hl
        exact jx_w_zero hw
      | succ n_7 ih_7 =>
        intro x2_5 S_6 H locs hw hP hD hS ls hl
        obtain ⟨o_7, hZ, hk_7⟩ := jx_w_succ hw
        have hZ : b_X12_values_32 x1_4 x2_5 S_6 = some o_7 := hZ
        have j157i32 : ∀ (x2_131 : Int32) (S_131 : St)  (o_7 : (Int32 × St) ⊕ (St)) (hk_7 : jx_k (g_X12_values_32 x1_4) n_7 r_7 o_7) (H : Heap) (locs : List Loc) (hZ : f_X12_values_157i32 x1_4 x2_131 S_131 = some o_7) (hP : va_P D vwCl (W_M q k S_131) H) (hD : va_D A (W_M q k S_131)) (hS : va_S A s.heap H locs) (ls : Array Slot) (hl : lv_has ls 6 [(0, .ref (q 0)), (1, .int x1_4), (2, .int x2_131)]), W p l e ({ frames := 0, cells := 0, slots := 0, locals := 0 } : Room) s m ([.ref (q 0), .int x1] : List Value).toArray below meth c H locs 0 0 (MQ below (va_Qv (fun u => u = Z) (fun u t => va_P D vwCl (W_M q k u) t.heap) A) ([.ref (q 0), .int x1] : List Value).toArray s 0 0 A) (F0 m 157 ls []) := by
          intro x2_131 S_131  o_7 hk_7 H locs hZ hP hD hS ls hl
          unfold f_X12_values_157i32 at hZ
          obtain ⟨x2_132, e_x2_132, hZ⟩ := jx_l_some hZ
          refine lv_iinc (v := x2_132) (lv' := [(2, .int x2_132), (0, .ref (q 0)), (1, .int x1_4)]) hx hb dX12_values_157 hl (k := 2) rfl (by rw [e_x2_132]; rfl) (by decide) rfl (fun ls hl => ?_)
          refine lv_goto (tgt := 32) hx hb dX12_values_160 (by decide) ?_
          have ho := Option.some.inj hZ
          subst ho
          exact ih_7 x2_132 S_131 _ _ hk_7 hP hD hS _ (lv_sub hl [1, 2, 0] rfl)
        unfold b_X12_values_32 at hZ
        refine lv_iload_n hx hb dX12_values_32 rfl (lv_at hl 2 rfl) ?_
        refine lv_aload_n hx hb dX12_values_33 rfl (lv_at hl 0 rfl) ?_
        refine gf_12_things hx hb hts in12 hown hK hP (hts (.fieldLink RX12 122 "CoinsOfLastModel" "things" "I") (List.mem_of_getElem? (i := 2) rfl)) dX12_values_34 ?_
        refine lv_icmp_ge (tgt := 163) hx hb dX12_values_37 (by decide) (fun c_126 => ?_) (fun c_126 => ?_)
        · have hZ := jx_i_pos c_126 hZ
          have ho := Option.some.inj hZ
          subst ho
          have hE := hza_7
          rw [← (show S_6 = r_7 from hk_7)] at hE
          have hZ : f_X12_values_163 S_6 = some Z := hE
          exact j163 S_6 _ _ hZ hP hD hS _ (lv_sub hl [] rfl)
        · have hZ := jx_i_neg c_126 hZ
          refine lv_iconst (v := (0 : Int32)) hx hb dX12_values_40 (by decide) ?_
          refine lv_istore_n (lv' := [(3, .int (0 : Int32)), (0, .ref (q 0)), (1, .int x1_4), (2, .int x2_5)]) hx hb dX12_values_41 rfl hl (by decide) rfl (fun ls hl => ?_)
          obtain ⟨r_130, hw, hza_130⟩ := jx_b_some hZ
          have l_130 : ∀ (nn : Nat) (x3_128 : Int32) (S_129 : St) (H : Heap) (locs : List Loc) (hw : jx_w (g_X12_values_42 x1_4 x2_5) nn (x3_128, S_129) = some r_130) (hP : va_P D vwCl (W_M q k S_129) H) (hD : va_D A (W_M q k S_129)) (hS : va_S A s.heap H locs) (ls : Array Slot) (hl : lv_has ls 6 [(0, .ref (q 0)), (1, .int x1_4), (2, .int x2_5), (3, .int x3_128)]), W p l e ({ frames := 0, cells := 0, slots := 0, locals := 0 } : Room) s m ([.ref (q 0), .int x1] : List Value).toArray below meth c H locs 0 0 (MQ below (va_Qv (fun u => u = Z) (fun u t => va_P D vwCl (W_M q k u) t.heap) A) ([.ref (q 0), .int x1] : List Value).toArray s 0 0 A) (F0 m 42 ls []) := by
            intro nn
            induction nn with
            | zero =>
              intro x3_128 S_129 H locs hw hP hD hS ls hl
              exact jx_w_zero hw
            | succ n_130 ih_130 =>
              intro x3_128 S_129 H locs hw hP hD hS ls hl
              obtain ⟨o_130, hZ, hk_130⟩ := jx_w_succ hw
              have hZ : b_X12_values_42 x1_4 x2_5 x3_128 S_129 = some o_130 := hZ
              have j151i42 : ∀ (x3_197 : Int32) (S_197 : St)  (o_130 : (Int32 × St) ⊕ (St)) (hk_130 : jx_k (g_X12_values_42 x1_4 x2_5) n_130 r_130 o_130) (H : Heap) (locs : List Loc) (hZ : f_X12_values_151i42 x1_4 x2_5 x3_197 S_197 = some o_130) (hP : va_P D vwCl (W_M q k S_197) H) (hD : va_D A (W_M q k S_197)) (hS : va_S A s.heap H locs) (ls : Array Slot) (hl : lv_has ls 6 [(0, .ref (q 0)), (1, .int x1_4), (2, .int x2_5), (3, .int x3_197)]), W p l e ({ frames := 0, cells := 0, slots := 0, locals := 0 } : Room) s m ([.ref (q 0), .int x1] : List Value).toArray below meth c H locs 0 0 (MQ below (va_Qv (fun u => u = Z) (fun u t => va_P D vwCl (W_M q k u) t.heap) A) ([.ref (q 0), .int x1] : List Value).toArray s 0 0 A) (F0 m 151 ls []) := by
                intro x3_197 S_197  o_130 hk_130 H locs hZ hP hD hS ls hl
                unfold f_X12_values_151i42 at hZ
                obtain ⟨x3_198, e_x3_198, hZ⟩ := jx_l_some hZ
                refine lv_iinc (v := x3_198) (lv' := [(3, .int x3_198), (0, .ref (q 0)), (1, .int x1_4), (2, .int x2_5)]) hx hb dX12_values_151 hl (k := 3) rfl (by rw [e_x3_198]; rfl) (by decide) rfl (fun ls hl => ?_)
                refine lv_goto (tgt := 42) hx hb dX12_values_154 (by decide) ?_
                have ho := Option.some.inj hZ
                subst ho
                exact ih_130 x3_198 S_197 _ _ hk_130 hP hD hS _ (lv_sub hl [1, 2, 3, 0] rfl)
              unfold b_X12_values_42 at hZ
              refine lv_iload_n hx hb dX12_values_42 rfl (lv_at hl 3 rfl) ?_
              refine lv_aload_n hx hb dX12_values_43 rfl (lv_at hl 0 rfl) ?_
              refine gf_12_many hx hb hts in12 hown hK hP (hts (.fieldLink RX12 34 "CoinsOfLastModel" "many" "[I") (List.mem_of_getElem? (i := 3) rfl)) dX12_values_44 ?_
              refine lv_iload_n hx hb dX12_values_47 rfl (lv_at hl 2 rfl) ?_
              obtain ⟨c_188, hZ⟩ := jx_a_some hZ
              refine M_iald hx hb hK hP wM_9 c_188 dX12_values_48 ?_
              refine lv_icmp_ge (tgt := 157) hx hb dX12_values_49 (by decide) (fun c_189 => ?_) (fun c_189 => ?_)
              · have hZ := jx_i_pos c_189 hZ
                have ho := Option.some.inj hZ
                subst ho
                have hE := hza_130
                rw [← (show S_129 = r_130 from hk_130)] at hE
                have hZ : f_X12_values_157i32 x1_4 x2_5 S_129 = some o_7 := hE
                exact j157i32 x2_5 S_129 _ hk_7 _ _ hZ hP hD hS _ (lv_sub hl [0, 1, 2] rfl)
              · have hZ := jx_i_neg c_189 hZ
                refine lv_aload_n hx hb dX12_values_52 rfl (lv_at hl 0 rfl) ?_
                refine gf_12_thingLand hx hb hts in12 hown hK hP (hts (.fieldLink RX12 25 "CoinsOfLastModel" "thingLand" "[I") (List.mem_of_getElem? (i := 4) rfl)) dX12_values_53 ?_
                refine lv_iload_n hx hb dX12_values_56 rfl (lv_at hl 2 rfl) ?_
                obtain ⟨c_191, hZ⟩ := jx_a_some hZ
                refine M_iald hx hb hK hP wM_6 c_191 dX12_values_57 ?_
                refine lv_iload_n hx hb dX12_values_58 rfl (lv_at hl 1 rfl) ?_
                refine lv_icmp_ne (tgt := 157) hx hb dX12_values_59 (by decide) (fun c_192 => ?_) (fun c_192 => ?_)
                · have hZ := jx_i_neg c_192 hZ
                  have ho := Option.some.inj hZ
                  subst ho
                  have hE := hza_130
                  rw [← (show S_129 = r_130 from hk_130)] at hE
                  have hZ : f_X12_values_157i32 x1_4 x2_5 S_129 = some o_7 := hE
                  exact j157i32 x2_5 S_129 _ hk_7 _ _ hZ hP hD hS _ (lv_sub hl [0, 1, 2] rfl)
                · have hZ := jx_i_pos c_192 hZ
                  refine lv_sipush (v := (1920 : Int32)) hx hb dX12_values_62 (by decide) ?_
                  refine lv_istore (lv' := [(4, .int (1920 : Int32)), (0, .ref (q 0)), (1, .int x1_4), (2, .int x2_5), (3, .int x3_128)]) hx hb dX12_values_65 hl (by decide) rfl (fun ls hl => ?_)
                  obtain ⟨r_196, hw, hza_196⟩ := jx_b_some hZ
                  have l_196 : ∀ (nn : Nat) (x4_194 : Int32) (S_195 : St) (H : Heap) (locs : List Loc) (hw : jx_w (g_X12_values_67 x1_4 x2_5 x3_128) nn (x4_194, S_195) = some r_196) (hP : va_P D vwCl (W_M q k S_195) H) (hD : va_D A (W_M q k S_195)) (hS : va_S A s.heap H locs) (ls : Array Slot) (hl : lv_has ls 6 [(0, .ref (q 0)), (1, .int x1_4), (2, .int x2_5), (3, .int x3_128), (4, .int x4_194)]), W p l e ({ frames := 0, cells := 0, slots := 0, locals := 0 } : Room) s m ([.ref (q 0), .int x1] : List Value).toArray below meth c H locs 0 0 (MQ below (va_Qv (fun u => u = Z) (fun u t => va_P D vwCl (W_M q k u) t.heap) A) ([.ref (q 0), .int x1] : List Value).toArray s 0 0 A) (F0 m 67 ls []) := by
                    intro nn
                    induction nn with
                    | zero =>
                      intro x4_194 S_195 H locs hw hP hD hS ls hl
                      exact jx_w_zero hw
                    | succ n_196 ih_196 =>
                      intro x4_194 S_195 H locs hw hP hD hS ls hl
                      obtain ⟨o_196, hZ, hk_196⟩ := jx_w_succ hw
                      have hZ : b_X12_values_67 x1_4 x2_5 x3_128 x4_194 S_195 = some o_196 := hZ
                      have j144i67 : ∀ (x4_230 : Int32) (s1_230 : Int32) (s2_230 : Int32) (S_230 : St)  (o_196 : (Int32 × St) ⊕ (St)) (hk_196 : jx_k (g_X12_values_67 x1_4 x2_5 x3_128) n_196 r_196 o_196) (H : Heap) (locs : List Loc) (hZ : f_X12_values_144i67 x1_4 x2_5 x3_128 x4_230 s1_230 s2_230 S_230 = some o_196) (hP : va_P D vwCl (W_M q k S_230) H) (hD : va_D A (W_M q k S_230)) (hS : va_S A s.heap H locs) (ls : Array Slot) (hl : lv_has ls 6 [(0, .ref (q 0)), (1, .int x1_4), (2, .int x2_5), (3, .int x3_128), (4, .int x4_230)]), W p l e ({ frames := 0, cells := 0, slots := 0, locals := 0 } : Room) s m ([.ref (q 0), .int x1] : List Value).toArray below meth c H locs 0 0 (MQ below (va_Qv (fun u => u = Z) (fun u t => va_P D vwCl (W_M q k u) t.heap) A) ([.ref (q 0), .int x1] : List Value).toArray s 0 0 A) (F0 m 144 ls [.int s2_230, .int s1_230, .ref (q 25)]) := by
                        intro x4_230 s1_230 s2_230 S_230  o_196 hk_196 H locs hZ hP hD hS ls hl
                        unfold f_X12_values_144i67 at hZ
                        obtain ⟨c_231, hZ⟩ := jx_a_some hZ
                        obtain ⟨S_232, e_S_232, hZ⟩ := jx_l_some hZ
                        refine M_iast hx hb hK hP hD hS wM_25 (fun _ => wMs_25) c_231 e_S_232 dX12_values_144 (fun H locs hP hD hS => ?_)
                        obtain ⟨x4_233, e_x4_233, hZ⟩ := jx_l_some hZ
                        refine lv_iinc (v := x4_233) (lv' := [(4, .int x4_233), (0, .ref (q 0)), (1, .int x1_4), (2, .int x2_5), (3, .int x3_128)]) hx hb dX12_values_145 hl (k := 4) rfl (by rw [e_x4_233]; rfl) (by decide) rfl (fun ls hl => ?_)
                        refine lv_goto (tgt := 67) hx hb dX12_values_148 (by decide) ?_
                        have ho := Option.some.inj hZ
                        subst ho
                        exact ih_196 x4_233 S_232 _ _ hk_196 hP hD hS _ (lv_sub hl [1, 2, 3, 4, 0] rfl)
                      have j137i67 : ∀ (x4_228 : Int32) (s1_228 : Int32) (S_228 : St)  (o_196 : (Int32 × St) ⊕ (St)) (hk_196 : jx_k (g_X12_values_67 x1_4 x2_5 x3_128) n_196 r_196 o_196) (H : Heap) (locs : List Loc) (hZ : f_X12_values_137i67 x1_4 x2_5 x3_128 x4_228 s1_228 S_228 = some o_196) (hP : va_P D vwCl (W_M q k S_228) H) (hD : va_D A (W_M q k S_228)) (hS : va_S A s.heap H locs) (ls : Array Slot) (hl : lv_has ls 6 [(0, .ref (q 0)), (1, .int x1_4), (2, .int x2_5), (3, .int x3_128), (4, .int x4_228)]), W p l e ({ frames := 0, cells := 0, slots := 0, locals := 0 } : Room) s m ([.ref (q 0), .int x1] : List Value).toArray below meth c H locs 0 0 (MQ below (va_Qv (fun u => u = Z) (fun u t => va_P D vwCl (W_M q k u) t.heap) A) ([.ref (q 0), .int x1] : List Value).toArray s 0 0 A) (F0 m 137 ls [.int s1_228, .ref (q 25)]) := by
                        intro x4_228 s1_228 S_228  o_196 hk_196 H locs hZ hP hD hS ls hl
                        unfold f_X12_values_137i67 at hZ
                        refine lv_aload_n hx hb dX12_values_137 rfl (lv_at hl 0 rfl) ?_
                        refine gf_12_best hx hb hts in12 hown hK hP (hts (.fieldLink RX12 84 "CoinsOfLastModel" "best" "[I") (List.mem_of_getElem? (i := 1) rfl)) dX12_values_138 ?_
                        refine lv_iload hx hb dX12_values_141 (lv_at hl 4 rfl) ?_
                        obtain ⟨c_229, hZ⟩ := jx_a_some hZ
                        refine M_iald hx hb hK hP wM_25 c_229 dX12_values_143 ?_
                        exact j144i67 x4_228 s1_228 (S_228.1 25 (Int32.toNatClampNeg x4_228)) S_228 _ hk_196 _ _ hZ hP hD hS _ (lv_sub hl [0, 1, 2, 3, 4] rfl)
                      unfold b_X12_values_67 at hZ
                      refine lv_iload hx hb dX12_values_67 (lv_at hl 4 rfl) ?_
                      refine lv_aload_n hx hb dX12_values_69 rfl (lv_at hl 0 rfl) ?_
                      refine gf_12_price hx hb hts in12 hown hK hP (hts (.fieldLink RX12 28 "CoinsOfLastModel" "price" "[I") (List.mem_of_getElem? (i := 5) rfl)) dX12_values_70 ?_
                      refine lv_iload_n hx hb dX12_values_73 rfl (lv_at hl 2 rfl) ?_
                      obtain ⟨c_221, hZ⟩ := jx_a_some hZ
                      refine M_iald hx hb hK hP wM_7 c_221 dX12_values_74 ?_
                      refine lv_icmp_lt (tgt := 151) hx hb dX12_values_75 (by decide) (fun c_222 => ?_) (fun c_222 => ?_)
                      · have hZ := jx_i_pos c_222 hZ
                        have ho := Option.some.inj hZ
                        subst ho
                        have hE := hza_196
                        rw [← (show S_195 = r_196 from hk_196)] at hE
                        have hZ : f_X12_values_151i42 x1_4 x2_5 x3_128 S_195 = some o_130 := hE
                        exact j151i42 x3_128 S_195 _ hk_130 _ _ hZ hP hD hS _ (lv_sub hl [0, 1, 2, 3] rfl)
                      · have hZ := jx_i_neg c_222 hZ
                        refine lv_aload_n hx hb dX12_values_78 rfl (lv_at hl 0 rfl) ?_
                        refine gf_12_best hx hb hts in12 hown hK hP (hts (.fieldLink RX12 84 "CoinsOfLastModel" "best" "[I") (List.mem_of_getElem? (i := 1) rfl)) dX12_values_79 ?_
                        refine lv_iload hx hb dX12_values_82 (lv_at hl 4 rfl) ?_
                        refine lv_aload_n hx hb dX12_values_84 rfl (lv_at hl 0 rfl) ?_
                        refine gf_12_price hx hb hts in12 hown hK hP (hts (.fieldLink RX12 28 "CoinsOfLastModel" "price" "[I") (List.mem_of_getElem? (i := 5) rfl)) dX12_values_85 ?_
                        refine lv_iload_n hx hb dX12_values_88 rfl (lv_at hl 2 rfl) ?_
                        obtain ⟨c_224, hZ⟩ := jx_a_some hZ
                        refine M_iald hx hb hK hP wM_7 c_224 dX12_values_89 ?_
                        refine lv_isub hx hb dX12_values_90 ?_
                        obtain ⟨c_225, hZ⟩ := jx_a_some hZ
                        refine M_iald hx hb hK hP wM_25 c_225 dX12_values_91 ?_
                        obtain ⟨x5_226, e_x5_226, hZ⟩ := jx_l_some hZ
                        refine tx_i e_x5_226 ?_
                        refine lv_istore (lv' := [(5, .int x5_226), (0, .ref (q 0)), (1, .int x1_4), (2, .int x2_5), (3, .int x3_128), (4, .int x4_194)]) hx hb dX12_values_92 hl (by decide) rfl (fun ls hl => ?_)
                        refine lv_aload_n hx hb dX12_values_94 rfl (lv_at hl 1 rfl) ?_
                        refine gf_12_best hx hb hts in12 hown hK hP (hts (.fieldLink RX12 84 "CoinsOfLastModel" "best" "[I") (List.mem_of_getElem? (i := 1) rfl)) dX12_values_95 ?_
                        refine lv_iload hx hb dX12_values_98 (lv_at hl 5 rfl) ?_
                        refine lv_iload hx hb dX12_values_100 (lv_at hl 0 rfl) ?_
                        refine lv_iconst (v := (-1 : Int32)) hx hb dX12_values_102 (by decide) ?_
                        refine lv_icmp_eq (tgt := 137) hx hb dX12_values_103 (by decide) (fun c_227 => ?_) (fun c_227 => ?_)
                        · have hZ := jx_i_pos c_227 hZ
                          exact j137i67 x4_194 x4_194 S_195 _ hk_196 _ _ hZ hP hD hS _ (lv_sub hl [1, 2, 3, 4, 5] rfl)
                        · have hZ := jx_i_neg c_227 hZ
                          refine lv_iload hx hb dX12_values_106 (lv_at hl 0 rfl) ?_
                          refine lv_aload_n hx hb dX12_values_108 rfl (lv_at hl 1 rfl) ?_
                          refine gf_12_value hx hb hts in12 hown hK hP (hts (.fieldLink RX12 31 "CoinsOfLastModel" "value" "[I") (List.mem_of_getElem? (i := 6) rfl)) dX12_values_109 ?_
                          refine lv_iload_n hx hb dX12_values_112 rfl (lv_at hl 3 rfl) ?_
                          obtain ⟨c_236, hZ⟩ := jx_a_some hZ
                          refine M_iald hx hb hK hP wM_8 c_236 dX12_values_113 ?_
                          refine lv_iadd hx hb dX12_values_114 ?_
                          refine lv_aload_n hx hb dX12_values_115 rfl (lv_at hl 1 rfl) ?_
                          refine gf_12_best hx hb hts in12 hown hK hP (hts (.fieldLink RX12 84 "CoinsOfLastModel" "best" "[I") (List.mem_of_getElem? (i := 1) rfl)) dX12_values_116 ?_
                          refine lv_iload hx hb dX12_values_119 (lv_at hl 5 rfl) ?_
                          obtain ⟨c_237, hZ⟩ := jx_a_some hZ
                          refine M_iald hx hb hK hP wM_25 c_237 dX12_values_121 ?_
                          refine lv_icmp_le (tgt := 137) hx hb dX12_values_122 (by decide) (fun c_238 => ?_) (fun c_238 => ?_)
                          · have hZ := jx_i_pos c_238 hZ
                            exact j137i67 x4_194 x4_194 S_195 _ hk_196 _ _ hZ hP hD hS _ (lv_sub hl [1, 2, 3, 4, 5] rfl)
                          · have hZ := jx_i_neg c_238 hZ
                            refine lv_iload hx hb dX12_values_125 (lv_at hl 0 rfl) ?_
                            refine lv_aload_n hx hb dX12_values_127 rfl (lv_at hl 1 rfl) ?_
                            refine gf_12_value hx hb hts in12 hown hK hP (hts (.fieldLink RX12 31 "CoinsOfLastModel" "value" "[I") (List.mem_of_getElem? (i := 6) rfl)) dX12_values_128 ?_
                            refine lv_iload_n hx hb dX12_values_131 rfl (lv_at hl 3 rfl) ?_
                            obtain ⟨c_240, hZ⟩ := jx_a_some hZ
                            refine M_iald hx hb hK hP wM_8 c_240 dX12_values_132 ?_
                            refine lv_iadd hx hb dX12_values_133 ?_
                            refine lv_goto (tgt := 144) hx hb dX12_values_134 (by decide) ?_
                            exact j144i67 x4_194 x4_194 (x5_226 + (S_195.1 8 (Int32.toNatClampNeg x2_5))) S_195 _ hk_196 _ _ hZ hP hD hS _ (lv_sub hl [1, 2, 3, 4, 5] rfl)
                  exact l_196 FU (1920 : Int32) S_129 _ _ hw hP hD hS _ (lv_sub hl [1, 2, 3, 4, 0] rfl)
          exact l_130 FU (0 : Int32) S_6 _ _ hw hP hD hS _ (lv_sub hl [1, 2, 3, 0] rfl)
    exact l_7 FU (0 : Int32) S_4 _ _ hw hP hD hS _ (lv_sub hl [1, 2, 0] rfl)
  unfold f_X12_values at hZ
  refine lv_iconst (v := (0 : Int32)) hx hb dX12_values_0 (by decide) ?_
  refine lv_istore_n (lv' := [(2, .int (0 : Int32)), (0, .ref (q 0)), (1, .int x1)]) hx hb dX12_values_1 rfl hl (by decide) rfl (fun ls hl => ?_)
  obtain ⟨r_3, hw, hza_3⟩ := jx_b_some hZ
  have l_3 : ∀ (nn : Nat) (x2_1 : Int32) (S_2 : St) (H : Heap) (locs : List Loc) (hw : jx_w (g_X12_values_2 x1) nn (x2_1, S_2) = some r_3) (hP : va_P D vwCl (W_M q k S_2) H) (hD : va_D A (W_M q k S_2)) (hS : va_S A s.heap H locs) (ls : Array Slot) (hl : lv_has ls 6 [(0, .ref (q 0)), (1, .int x1), (2, .int x2_1)]), W p l e ({ frames := 0, cells := 0, slots := 0, locals := 0 } : Room) s m ([.ref (q 0), .int x1] : List Value).toArray below meth c H locs 0 0 (MQ below (va_Qv (fun u => u = Z) (fun u t => va_P D vwCl (W_M q k u) t.heap) A) ([.ref (q 0), .int x1] : List Value).toArray s 0 0 A) (F0 m 2 ls []) := by
    intro nn
    induction nn with
    | zero =>
      intro x2_1 S_2 H locs hw hP hD hS ls hl
      exact jx_w_zero hw
    | succ n_3 ih_3 =>
      intro x2_1 S_2 H locs hw hP hD hS ls hl
      obtain ⟨o_3, hZ, hk_3⟩ := jx_w_succ hw
      have hZ : b_X12_values_2 x1 x2_1 S_2 = some o_3 := hZ
      have j23i2 : ∀ (x2_255 : Int32) (s1_255 : Int32) (s2_255 : Int32) (S_255 : St)  (o_3 : (Int32 × St) ⊕ (St)) (hk_3 : jx_k (g_X12_values_2 x1) n_3 r_3 o_3) (H : Heap) (locs : List Loc) (hZ : f_X12_values_23i2 x1 x2_255 s1_255 s2_255 S_255 = some o_3) (hP : va_P D vwCl (W_M q k S_255) H) (hD : va_D A (W_M q k S_255)) (hS : va_S A s.heap H locs) (ls : Array Slot) (hl : lv_has ls 6 [(0, .ref (q 0)), (1, .int x1), (2, .int x2_255)]), W p l e ({ frames := 0, cells := 0, slots := 0, locals := 0 } : Room) s m ([.ref (q 0), .int x1] : List Value).toArray below meth c H locs 0 0 (MQ below (va_Qv (fun u => u = Z) (fun u t => va_P D vwCl (W_M q k u) t.heap) A) ([.ref (q 0), .int x1] : List Value).toArray s 0 0 A) (F0 m 23 ls [.int s2_255, .int s1_255, .ref (q 25)]) := by
        intro x2_255 s1_255 s2_255 S_255  o_3 hk_3 H locs hZ hP hD hS ls hl
        unfold f_X12_values_23i2 at hZ
        obtain ⟨c_256, hZ⟩ := jx_a_some hZ
        obtain ⟨S_257, e_S_257, hZ⟩ := jx_l_some hZ
        refine M_iast hx hb hK hP hD hS wM_25 (fun _ => wMs_25) c_256 e_S_257 dX12_values_23 (fun H locs hP hD hS => ?_)
        obtain ⟨x2_258, e_x2_258, hZ⟩ := jx_l_some hZ
        refine lv_iinc (v := x2_258) (lv' := [(2, .int x2_258), (0, .ref (q 0)), (1, .int x1)]) hx hb dX12_values_24 hl (k := 2) rfl (by rw [e_x2_258]; rfl) (by decide) rfl (fun ls hl => ?_)
        refine lv_goto (tgt := 2) hx hb dX12_values_27 (by decide) ?_
        have ho := Option.some.inj hZ
        subst ho
        exact ih_3 x2_258 S_257 _ _ hk_3 hP hD hS _ (lv_sub hl [1, 2, 0] rfl)
      unfold b_X12_values_2 at hZ
      refine lv_iload_n hx hb dX12_values_2 rfl (lv_at hl 2 rfl) ?_
      refine lv_sipush (v := (1920 : Int32)) hx hb dX12_values_3 (by decide) ?_
      refine lv_icmp_gt (tgt := 30) hx hb dX12_values_6 (by decide) (fun c_252 => ?_) (fun c_252 => ?_)
      · have hZ := jx_i_pos c_252 hZ
        have ho := Option.some.inj hZ
        subst ho
        have hE := hza_3
        rw [← (show S_2 = r_3 from hk_3)] at hE
        have hZ : f_X12_values_30 x1 S_2 = some Z := hE
        exact j30 x1 S_2 _ _ hZ hP hD hS _ (lv_sub hl [0, 1] rfl)
      · have hZ := jx_i_neg c_252 hZ
        refine lv_aload_n hx hb dX12_values_9 rfl (lv_at hl 0 rfl) ?_
        refine gf_12_best hx hb hts in12 hown hK hP (hts (.fieldLink RX12 84 "CoinsOfLastModel" "best" "[I") (List.mem_of_getElem? (i := 1) rfl)) dX12_values_10 ?_
        refine lv_iload_n hx hb dX12_values_13 rfl (lv_at hl 2 rfl) ?_
        refine lv_iload_n hx hb dX12_values_14 rfl (lv_at hl 2 rfl) ?_
        refine lv_if_ne (tgt := 22) hx hb dX12_values_15 (by decide) (fun c_254 => ?_) (fun c_254 => ?_)
        · have hZ := jx_i_neg c_254 hZ
          refine lv_iconst (v := (-1 : Int32)) hx hb dX12_values_22 (by decide) ?_
          exact j23i2 x2_1 x2_1 (-1 : Int32) S_2 _ hk_3 _ _ hZ hP hD hS _ (lv_sub hl [0, 1, 2] rfl)
        · have hZ := jx_i_pos c_254 hZ
          refine lv_iconst (v := (0 : Int32)) hx hb dX12_values_18 (by decide) ?_
          refine lv_goto (tgt := 23) hx hb dX12_values_19 (by decide) ?_
          exact j23i2 x2_1 x2_1 (0 : Int32) S_2 _ hk_3 _ _ hZ hP hD hS _ (lv_sub hl [0, 1, 2] rfl)
  exact l_3 FU (0 : Int32) S _ _ hw hP hD hS _ (lv_sub hl [1, 2, 0] rfl)
theorem hd_X12_values : yX12_values.cls = RX12 ∧ yX12_values.cls ≠ "java/lang/invoke/MethodHandle" ∧ yX12_values.cls ≠ "java/lang/invoke/VarHandle" ∧ (parseMethodDescriptor yX12_values.desc).map (fun d => d.parameters.length) = some 1 := by decide +kernel
-- X12_spend
def f_X12_spend_107 (x1_21 : Int32) (x3_21 : Int32) (x4_21 : Int32) (S_21 : St) : Option (Int32 × St) :=
  (if x3_21 = 0 then jx_b2 (f_X12_purseOf x1_21 S_21) (fun r_27 S_25 => some ((r_27 - x4_21), S_25)) else (if x3_21 = (1 : Int32) then jx_a x4_21 1921 (some ((S_21.1 25 (Int32.toNatClampNeg x4_21)), S_21)) else some (x4_21, S_21)))
def f_X12_spend_101i43 (x1 : Int32) (x2 : Int32) (x3 : Int32) (x4_33 : Int32) (x5_33 : Int32) (S_33 : St) : Option ((Int32 × Int32 × St) ⊕ ((Int32 × St))) :=
  jx_l (x5_33 + 1) (fun x5_34 => some (.inl (x4_33, x5_34, S_33)))
def f_X12_spend_99i43 (x1 : Int32) (x2 : Int32) (x3 : Int32) (x5_43 : Int32) (s0_43 : Int32) (S_43 : St) : Option ((Int32 × Int32 × St) ⊕ ((Int32 × St))) :=
  f_X12_spend_101i43 x1 x2 x3 s0_43 x5_43 S_43
def f_X12_spend_92i43 (x1 : Int32) (x2 : Int32) (x3 : Int32) (x5_42 : Int32) (S_42 : St) : Option ((Int32 × Int32 × St) ⊕ ((Int32 × St))) :=
  f_X12_spend_99i43 x1 x2 x3 x5_42 x5_42 S_42
def b_X12_spend_43 (x1 : Int32) (x2 : Int32) (x3 : Int32) (x4 : Int32) (x5 : Int32) (S : St) : Option ((Int32 × Int32 × St) ⊕ ((Int32 × St))) :=
  (if (1920 : Int32) < x5 then some (.inr (x4, S)) else jx_a x5 1921 ((if (S.1 25 (Int32.toNatClampNeg x5)) = (-1 : Int32) then f_X12_spend_101i43 x1 x2 x3 x4 x5 S else jx_b2 (f_X12_canPay x5 S) (fun r_38 S_36 => (if r_38 = 0 then f_X12_spend_101i43 x1 x2 x3 x4 x5 S_36 else (if x2 = 0 then f_X12_spend_92i43 x1 x2 x3 x5 S_36 else jx_a x5 1921 (jx_a x4 1921 ((if (S_36.1 25 (Int32.toNatClampNeg x5)) ≤ (S_36.1 25 (Int32.toNatClampNeg x4)) then f_X12_spend_99i43 x1 x2 x3 x5 x4 S_36 else f_X12_spend_92i43 x1 x2 x3 x5 S_36)))))))))
def g_X12_spend_43 (x1 : Int32) (x2 : Int32) (x3 : Int32) : (Int32 × Int32 × St) → Option ((Int32 × Int32 × St) ⊕ ((Int32 × St))) := fun z => b_X12_spend_43 x1 x2 x3 z.1 z.2.1 z.2.2
def f_X12_spend (x1 : Int32) (x2 : Int32) (x3 : Int32) (S : St) : Option (Int32 × St) :=
  jx_b2 (f_X12_isLand x1 S) (fun r_3 S_1 => (if r_3 = 0 then some ((-1 : Int32), S_1) else jx_b2 (f_X12_in x2 (0 : Int32) (1 : Int32) S_1) (fun r_7 S_5 => (if r_7 = 0 then some ((-1 : Int32), S_5) else jx_b2 (f_X12_in x3 (0 : Int32) (2 : Int32) S_5) (fun r_11 S_9 => (if r_11 = 0 then some ((-1 : Int32), S_9) else jx_b (f_X12_pays x1 S_9) (fun S_13 => jx_b (f_X12_values x1 S_13) (fun S_15 => jx_b (jx_w (g_X12_spend_43 x1 x2 x3) FU ((0 : Int32), (1 : Int32), S_15)) (fun z => f_X12_spend_107 x1 x3 z.1 z.2)))))))))
set_option maxHeartbeats 4000000 in
set_option maxRecDepth 100000 in
theorem c_X12_spend (l : Launch) (D : va_G) (q : Nat → Nat) (k : CI) (x1 : Int32) (x2 : Int32) (x3 : Int32) (S : St) (sz : Nat) (Z : Int32 × St) (hZ : f_X12_spend x1 x2 x3 S = some Z) : MetI W_M SM l yX12_spend wsX12_spend { frames := 2, cells := 0, slots := 0, locals := 47 } [.ref (q 0), .int x1, .int x2, .int x3] D q k S sz Z := by
  refine enter (cc := cX12_spend) (maxL := 6) (ret := some .int) (by decide) rfl (Nat.le_of_ble_eq_true rfl) ?_
  intro p e s m below meth c A ls hx hb hr hts hown hlocks hml hP hK hD hA hS hsp hAe hl
  have hown : s.vm.findClass RX12 = some m.cls := hown
  have hl : lv_has ls 6 [(0, .ref (q 0)), (1, .int x1), (2, .int x2), (3, .int x3)] := hl
  have in12 : ∀ w ∈ wsX120, w ∈ wsX12_spend := fun _ h => (List.mem_cons_of_mem _ (List.mem_append_right _ h))
  have j107 : ∀ (x1_21 : Int32) (x3_21 : Int32) (x4_21 : Int32) (S_21 : St)  (H : Heap) (locs : List Loc) (hZ : f_X12_spend_107 x1_21 x3_21 x4_21 S_21 = some Z) (hP : va_P D vwCl (W_M q k S_21) H) (hD : va_D A (W_M q k S_21)) (hS : va_S A s.heap H locs) (ls : Array Slot) (hl : lv_has ls 6 [(0, .ref (q 0)), (1, .int x1_21), (3, .int x3_21), (4, .int x4_21)]), W p l e ({ frames := 2, cells := 0, slots := 0, locals := 47 } : Room) s m ([.ref (q 0), .int x1, .int x2, .int x3] : List Value).toArray below meth c H locs 0 0 (MQ below (va_Qi (fun r u => (r, u) = Z) (fun u t => va_P D vwCl (W_M q k u) t.heap) A) ([.ref (q 0), .int x1, .int x2, .int x3] : List Value).toArray s 0 0 A) (F0 m 107 ls []) := by
    intro x1_21 x3_21 x4_21 S_21   H locs hZ hP hD hS ls hl
    unfold f_X12_spend_107 at hZ
    refine lv_iload_n hx hb dX12_spend_107 rfl (lv_at hl 2 rfl) ?_
    refine lv_if_ne (tgt := 122) hx hb dX12_spend_108 (by decide) (fun c_22 => ?_) (fun c_22 => ?_)
    · have hZ := jx_i_neg c_22 hZ
      refine lv_iload_n hx hb dX12_spend_122 rfl (lv_at hl 2 rfl) ?_
      refine lv_iconst (v := (1 : Int32)) hx hb dX12_spend_123 (by decide) ?_
      refine lv_icmp_ne (tgt := 137) hx hb dX12_spend_124 (by decide) (fun c_23 => ?_) (fun c_23 => ?_)
      · have hZ := jx_i_neg c_23 hZ
        refine lv_iload hx hb dX12_spend_137 (lv_at hl 3 rfl) ?_
        exact leave_i hx hb hr hlocks hP hS hZ dX12_spend_139
      · have hZ := jx_i_pos c_23 hZ
        refine lv_aload_n hx hb dX12_spend_127 rfl (lv_at hl 0 rfl) ?_
        refine gf_12_best hx hb hts in12 hown hK hP (hts (.fieldLink RX12 84 "CoinsOfLastModel" "best" "[I") (List.mem_of_getElem? (i := 1) rfl)) dX12_spend_128 ?_
        refine lv_iload hx hb dX12_spend_131 (lv_at hl 3 rfl) ?_
        obtain ⟨c_24, hZ⟩ := jx_a_some hZ
        refine M_iald hx hb hK hP wM_25 c_24 dX12_spend_133 ?_
        refine lv_goto (tgt := 139) hx hb dX12_spend_134 (by decide) ?_
        exact leave_i hx hb hr hlocks hP hS hZ dX12_spend_139
    · have hZ := jx_i_pos c_22 hZ
      refine lv_aload_n hx hb dX12_spend_111 rfl (lv_at hl 0 rfl) ?_
      refine lv_iload_n hx hb dX12_spend_112 rfl (lv_at hl 1 rfl) ?_
      obtain ⟨r_27, S_25, hc_26, hZ⟩ := jx_b2_some hZ
      refine call_Vi SM_ok sameM ⟨hx, hb, hml, hown, hts⟩ (c_X12_purseOf l D q k x1_21 S_21 _ (r_27, S_25)  hc_26) (cwV 1 hts gX12_spend_X12_purseOf rfl rfl rfl hd_X12_purseOf ⟨Nat.le_of_ble_eq_true rfl, Nat.le_of_ble_eq_true rfl⟩) hK hP hD hS hA hsp (va_recv hK hP (ci := 12) (q0 := 0) rfl wM_0) (As := [.int x1_21]) rfl hl.1 rfl (Nat.le_of_ble_eq_true rfl) dX12_spend_113 ⟨Nat.zero_le _, Nat.zero_le _⟩ (fun H locs hP hD hS => ?_)
      refine lv_iload hx hb dX12_spend_116 (lv_at hl 3 rfl) ?_
      refine lv_isub hx hb dX12_spend_118 ?_
      refine lv_goto (tgt := 139) hx hb dX12_spend_119 (by decide) ?_
      exact leave_i hx hb hr hlocks hP hS hZ dX12_spend_139
  unfold f_X12_spend at hZ
  refine lv_iload_n hx hb dX12_spend_0 rfl (lv_at hl 1 rfl) ?_
  obtain ⟨r_3, S_1, hc_2, hZ⟩ := jx_b2_some hZ
  refine call_Si SM_ok sameM ⟨hx, hb, hml, hown, hts⟩ (c_X12_isLand l D q k x1 S _ (r_3, S_1)  hc_2) (va_cwS 1 hts gX12_spend_X12_isLand rfl rfl rfl hd_X12_isLand ⟨Nat.le_of_ble_eq_true rfl, Nat.le_of_ble_eq_true rfl⟩) hK hP hD hS hA hsp (As := [.int x1]) rfl hl.1 rfl (Nat.le_of_ble_eq_true rfl) dX12_spend_1 ⟨Nat.zero_le _, Nat.zero_le _⟩ (fun H locs hP hD hS => ?_)
  refine lv_if_eq (tgt := 25) hx hb dX12_spend_4 (by decide) (fun c_4 => ?_) (fun c_4 => ?_)
  · have hZ := jx_i_pos c_4 hZ
    refine lv_iconst (v := (-1 : Int32)) hx hb dX12_spend_25 (by decide) ?_
    exact leave_i hx hb hr hlocks hP hS hZ dX12_spend_26
  · have hZ := jx_i_neg c_4 hZ
    refine lv_iload_n hx hb dX12_spend_7 rfl (lv_at hl 2 rfl) ?_
    refine lv_iconst (v := (0 : Int32)) hx hb dX12_spend_8 (by decide) ?_
    refine lv_iconst (v := (1 : Int32)) hx hb dX12_spend_9 (by decide) ?_
    obtain ⟨r_7, S_5, hc_6, hZ⟩ := jx_b2_some hZ
    refine call_Si SM_ok sameM ⟨hx, hb, hml, hown, hts⟩ (c_X12_in l D q k x2 (0 : Int32) (1 : Int32) S_1 _ (r_7, S_5)  hc_6) (va_cwS 3 hts gX12_spend_X12_in rfl rfl rfl hd_X12_in ⟨Nat.le_of_ble_eq_true rfl, Nat.le_of_ble_eq_true rfl⟩) hK hP hD hS hA hsp (As := [.int x2, .int (0 : Int32), .int (1 : Int32)]) rfl hl.1 rfl (Nat.le_of_ble_eq_true rfl) dX12_spend_10 ⟨Nat.zero_le _, Nat.zero_le _⟩ (fun H locs hP hD hS => ?_)
    refine lv_if_eq (tgt := 25) hx hb dX12_spend_13 (by decide) (fun c_8 => ?_) (fun c_8 => ?_)
    · have hZ := jx_i_pos c_8 hZ
      refine lv_iconst (v := (-1 : Int32)) hx hb dX12_spend_25 (by decide) ?_
      exact leave_i hx hb hr hlocks hP hS hZ dX12_spend_26
    · have hZ := jx_i_neg c_8 hZ
      refine lv_iload_n hx hb dX12_spend_16 rfl (lv_at hl 3 rfl) ?_
      refine lv_iconst (v := (0 : Int32)) hx hb dX12_spend_17 (by decide) ?_
      refine lv_iconst (v := (2 : Int32)) hx hb dX12_spend_18 (by decide) ?_
      obtain ⟨r_11, S_9, hc_10, hZ⟩ := jx_b2_some hZ
      refine call_Si SM_ok sameM ⟨hx, hb, hml, hown, hts⟩ (c_X12_in l D q k x3 (0 : Int32) (2 : Int32) S_5 _ (r_11, S_9)  hc_10) (va_cwS 3 hts gX12_spend_X12_in rfl rfl rfl hd_X12_in ⟨Nat.le_of_ble_eq_true rfl, Nat.le_of_ble_eq_true rfl⟩) hK hP hD hS hA hsp (As := [.int x3, .int (0 : Int32), .int (2 : Int32)]) rfl hl.1 rfl (Nat.le_of_ble_eq_true rfl) dX12_spend_19 ⟨Nat.zero_le _, Nat.zero_le _⟩ (fun H locs hP hD hS => ?_)
      refine lv_if_ne (tgt := 27) hx hb dX12_spend_22 (by decide) (fun c_12 => ?_) (fun c_12 => ?_)
      · have hZ := jx_i_neg c_12 hZ
        refine lv_aload_n hx hb dX12_spend_27 rfl (lv_at hl 0 rfl) ?_
        refine lv_iload_n hx hb dX12_spend_28 rfl (lv_at hl 1 rfl) ?_
        obtain ⟨S_13, hc_14, hZ⟩ := jx_b_some hZ
        refine call_Vv SM_ok sameM ⟨hx, hb, hml, hown, hts⟩ (c_X12_pays l D q k x1 S_9 _ S_13  hc_14) (cwV 1 hts gX12_spend_X12_pays rfl rfl rfl hd_X12_pays ⟨Nat.le_of_ble_eq_true rfl, Nat.le_of_ble_eq_true rfl⟩) hK hP hD hS hA hsp (va_recv hK hP (ci := 12) (q0 := 0) rfl wM_0) (As := [.int x1]) rfl hl.1 rfl (Nat.le_of_ble_eq_true rfl) dX12_spend_29 ⟨Nat.zero_le _, Nat.zero_le _⟩ (fun H locs hP hD hS => ?_)
        refine lv_aload_n hx hb dX12_spend_32 rfl (lv_at hl 0 rfl) ?_
        refine lv_iload_n hx hb dX12_spend_33 rfl (lv_at hl 1 rfl) ?_
        obtain ⟨S_15, hc_16, hZ⟩ := jx_b_some hZ
        refine call_Vv SM_ok sameM ⟨hx, hb, hml, hown, hts⟩ (c_X12_values l D q k x1 S_13 _ S_15  hc_16) (cwV 1 hts gX12_spend_X12_values rfl rfl rfl hd_X12_values ⟨Nat.le_of_ble_eq_true rfl, Nat.le_of_ble_eq_true rfl⟩) hK hP hD hS hA hsp (va_recv hK hP (ci := 12) (q0 := 0) rfl wM_0) (As := [.int x1]) rfl hl.1 rfl (Nat.le_of_ble_eq_true rfl) dX12_spend_34 ⟨Nat.zero_le _, Nat.zero_le _⟩ (fun H locs hP hD hS => ?_)
        refine lv_iconst (v := (0 : Int32)) hx hb dX12_spend_37 (by decide) ?_
        refine lv_istore (lv' := [(4, .int (0 : Int32)), (0, .ref (q 0)), (1, .int x1), (2, .int x2), (3, .int x3)]) hx hb dX12_spend_38 hl (by decide) rfl (fun ls hl => ?_)
        refine lv_iconst (v := (1 : Int32)) hx hb dX12_spend_40 (by decide) ?_
        refine lv_istore (lv' := [(5, .int (1 : Int32)), (4, .int (0 : Int32)), (0, .ref (q 0)), (1, .int x1), (2, .int x2), (3, .int x3)]) hx hb dX12_spend_41 hl (by decide) rfl (fun ls hl => ?_)
        obtain ⟨r_20, hw, hza_20⟩ := jx_b_some hZ
        have l_20 : ∀ (nn : Nat) (x4_17 : Int32) (x5_18 : Int32) (S_19 : St) (H : Heap) (locs : List Loc) (hw : jx_w (g_X12_spend_43 x1 x2 x3) nn (x4_17, x5_18, S_19) = some r_20) (hP : va_P D vwCl (W_M q k S_19) H) (hD : va_D A (W_M q k S_19)) (hS : va_S A s.heap H locs) (ls : Array Slot) (hl : lv_has ls 6 [(0, .ref (q 0)), (1, .int x1), (2, .int x2), (3, .int x3), (4, .int x4_17), (5, .int x5_18)]), W p l e ({ frames := 2, cells := 0, slots := 0, locals := 47 } : Room) s m ([.ref (q 0), .int x1, .int x2, .int x3] : List Value).toArray below meth c H locs 0 0 (MQ below (va_Qi (fun r u => (r, u) = Z) (fun u t => va_P D vwCl (W_M q k u) t.heap) A) ([.ref (q 0), .int x1, .int x2, .int x3] : List Value).toArray s 0 0 A) (F0 m 43 ls []) := by
          intro nn
          induction nn with
          | zero =>
            intro x4_17 x5_18 S_19 H locs hw hP hD hS ls hl
            exact jx_w_zero hw
          | succ n_20 ih_20 =>
            intro x4_17 x5_18 S_19 H locs hw hP hD hS ls hl
            obtain ⟨o_20, hZ, hk_20⟩ := jx_w_succ hw
            have hZ : b_X12_spend_43 x1 x2 x3 x4_17 x5_18 S_19 = some o_20 := hZ
            have j101i43 : ∀ (x4_56 : Int32) (x5_56 : Int32) (S_56 : St)  (o_20 : (Int32 × Int32 × St) ⊕ ((Int32 × St))) (hk_20 : jx_k (g_X12_spend_43 x1 x2 x3) n_20 r_20 o_20) (H : Heap) (locs : List Loc) (hZ : f_X12_spend_101i43 x1 x2 x3 x4_56 x5_56 S_56 = some o_20) (hP : va_P D vwCl (W_M q k S_56) H) (hD : va_D A (W_M q k S_56)) (hS : va_S A s.heap H locs) (ls : Array Slot) (hl : lv_has ls 6 [(0, .ref (q 0)), (1, .int x1), (2, .int x2), (3, .int x3), (4, .int x4_56), (5, .int x5_56)]), W p l e ({ frames := 2, cells := 0, slots := 0, locals := 47 } : Room) s m ([.ref (q 0), .int x1, .int x2, .int x3] : List Value).toArray below meth c H locs 0 0 (MQ below (va_Qi (fun r u => (r, u) = Z) (fun u t => va_P D vwCl (W_M q k u) t.heap) A) ([.ref (q 0), .int x1, .int x2, .int x3] : List Value).toArray s 0 0 A) (F0 m 101 ls []) := by
              intro x4_56 x5_56 S_56  o_20 hk_20 H locs hZ hP hD hS ls hl
              unfold f_X12_spend_101i43 at hZ
              obtain ⟨x5_57, e_x5_57, hZ⟩ := jx_l_some hZ
              refine lv_iinc (v := x5_57) (lv' := [(5, .int x5_57), (0, .ref (q 0)), (1, .int x1), (2, .int x2), (3, .int x3), (4, .int x4_56)]) hx hb dX12_spend_101 hl (k := 5) rfl (by rw [e_x5_57]; rfl) (by decide) rfl (fun ls hl => ?_)
              refine lv_goto (tgt := 43) hx hb dX12_spend_104 (by decide) ?_
              have ho := Option.some.inj hZ
              subst ho
              exact ih_20 x4_56 x5_57 S_56 _ _ hk_20 hP hD hS _ (lv_sub hl [1, 2, 3, 4, 5, 0] rfl)
            have j99i43 : ∀ (x5_66 : Int32) (s0_66 : Int32) (S_66 : St)  (o_20 : (Int32 × Int32 × St) ⊕ ((Int32 × St))) (hk_20 : jx_k (g_X12_spend_43 x1 x2 x3) n_20 r_20 o_20) (H : Heap) (locs : List Loc) (hZ : f_X12_spend_99i43 x1 x2 x3 x5_66 s0_66 S_66 = some o_20) (hP : va_P D vwCl (W_M q k S_66) H) (hD : va_D A (W_M q k S_66)) (hS : va_S A s.heap H locs) (ls : Array Slot) (hl : lv_has ls 6 [(0, .ref (q 0)), (1, .int x1), (2, .int x2), (3, .int x3), (5, .int x5_66)]), W p l e ({ frames := 2, cells := 0, slots := 0, locals := 47 } : Room) s m ([.ref (q 0), .int x1, .int x2, .int x3] : List Value).toArray below meth c H locs 0 0 (MQ below (va_Qi (fun r u => (r, u) = Z) (fun u t => va_P D vwCl (W_M q k u) t.heap) A) ([.ref (q 0), .int x1, .int x2, .int x3] : List Value).toArray s 0 0 A) (F0 m 99 ls [.int s0_66]) := by
              intro x5_66 s0_66 S_66  o_20 hk_20 H locs hZ hP hD hS ls hl
              unfold f_X12_spend_99i43 at hZ
              refine lv_istore (lv' := [(4, .int s0_66), (0, .ref (q 0)), (1, .int x1), (2, .int x2), (3, .int x3), (5, .int x5_66)]) hx hb dX12_spend_99 hl (by decide) rfl (fun ls hl => ?_)
              exact j101i43 s0_66 x5_66 S_66 _ hk_20 _ _ hZ hP hD hS _ (lv_sub hl [1, 2, 3, 4, 0, 5] rfl)
            have j92i43 : ∀ (x5_65 : Int32) (S_65 : St)  (o_20 : (Int32 × Int32 × St) ⊕ ((Int32 × St))) (hk_20 : jx_k (g_X12_spend_43 x1 x2 x3) n_20 r_20 o_20) (H : Heap) (locs : List Loc) (hZ : f_X12_spend_92i43 x1 x2 x3 x5_65 S_65 = some o_20) (hP : va_P D vwCl (W_M q k S_65) H) (hD : va_D A (W_M q k S_65)) (hS : va_S A s.heap H locs) (ls : Array Slot) (hl : lv_has ls 6 [(0, .ref (q 0)), (1, .int x1), (2, .int x2), (3, .int x3), (5, .int x5_65)]), W p l e ({ frames := 2, cells := 0, slots := 0, locals := 47 } : Room) s m ([.ref (q 0), .int x1, .int x2, .int x3] : List Value).toArray below meth c H locs 0 0 (MQ below (va_Qi (fun r u => (r, u) = Z) (fun u t => va_P D vwCl (W_M q k u) t.heap) A) ([.ref (q 0), .int x1, .int x2, .int x3] : List Value).toArray s 0 0 A) (F0 m 92 ls []) := by
              intro x5_65 S_65  o_20 hk_20 H locs hZ hP hD hS ls hl
              unfold f_X12_spend_92i43 at hZ
              refine lv_iload hx hb dX12_spend_92 (lv_at hl 4 rfl) ?_
              refine lv_goto (tgt := 99) hx hb dX12_spend_94 (by decide) ?_
              exact j99i43 x5_65 x5_65 S_65 _ hk_20 _ _ hZ hP hD hS _ (lv_sub hl [0, 1, 2, 3, 4] rfl)
            unfold b_X12_spend_43 at hZ
            refine lv_iload hx hb dX12_spend_43 (lv_at hl 5 rfl) ?_
            refine lv_sipush (v := (1920 : Int32)) hx hb dX12_spend_45 (by decide) ?_
            refine lv_icmp_gt (tgt := 107) hx hb dX12_spend_48 (by decide) (fun c_52 => ?_) (fun c_52 => ?_)
            · have hZ := jx_i_pos c_52 hZ
              have ho := Option.some.inj hZ
              subst ho
              have hE := hza_20
              rw [← (show (x4_17, S_19) = r_20 from hk_20)] at hE
              have hZ : f_X12_spend_107 x1 x3 x4_17 S_19 = some Z := hE
              exact j107 x1 x3 x4_17 S_19 _ _ hZ hP hD hS _ (lv_sub hl [0, 1, 3, 4] rfl)
            · have hZ := jx_i_neg c_52 hZ
              refine lv_aload_n hx hb dX12_spend_51 rfl (lv_at hl 0 rfl) ?_
              refine gf_12_best hx hb hts in12 hown hK hP (hts (.fieldLink RX12 84 "CoinsOfLastModel" "best" "[I") (List.mem_of_getElem? (i := 1) rfl)) dX12_spend_52 ?_
              refine lv_iload hx hb dX12_spend_55 (lv_at hl 5 rfl) ?_
              obtain ⟨c_54, hZ⟩ := jx_a_some hZ
              refine M_iald hx hb hK hP wM_25 c_54 dX12_spend_57 ?_
              refine lv_iconst (v := (-1 : Int32)) hx hb dX12_spend_58 (by decide) ?_
              refine lv_icmp_eq (tgt := 101) hx hb dX12_spend_59 (by decide) (fun c_55 => ?_) (fun c_55 => ?_)
              · have hZ := jx_i_pos c_55 hZ
                exact j101i43 x4_17 x5_18 S_19 _ hk_20 _ _ hZ hP hD hS _ (lv_sub hl [0, 1, 2, 3, 4, 5] rfl)
              · have hZ := jx_i_neg c_55 hZ
                refine lv_aload_n hx hb dX12_spend_62 rfl (lv_at hl 0 rfl) ?_
                refine lv_iload hx hb dX12_spend_63 (lv_at hl 5 rfl) ?_
                obtain ⟨r_61, S_59, hc_60, hZ⟩ := jx_b2_some hZ
                refine call_Vi SM_ok sameM ⟨hx, hb, hml, hown, hts⟩ (c_X12_canPay l D q k x5_18 S_19 _ (r_61, S_59)  hc_60) (cwV 1 hts gX12_spend_X12_canPay rfl rfl rfl hd_X12_canPay ⟨Nat.le_of_ble_eq_true rfl, Nat.le_of_ble_eq_true rfl⟩) hK hP hD hS hA hsp (va_recv hK hP (ci := 12) (q0 := 0) rfl wM_0) (As := [.int x5_18]) rfl hl.1 rfl (Nat.le_of_ble_eq_true rfl) dX12_spend_65 ⟨Nat.zero_le _, Nat.zero_le _⟩ (fun H locs hP hD hS => ?_)
                refine lv_if_eq (tgt := 101) hx hb dX12_spend_68 (by decide) (fun c_62 => ?_) (fun c_62 => ?_)
                · have hZ := jx_i_pos c_62 hZ
                  exact j101i43 x4_17 x5_18 S_59 _ hk_20 _ _ hZ hP hD hS _ (lv_sub hl [0, 1, 2, 3, 4, 5] rfl)
                · have hZ := jx_i_neg c_62 hZ
                  refine lv_iload_n hx hb dX12_spend_71 rfl (lv_at hl 2 rfl) ?_
                  refine lv_if_eq (tgt := 92) hx hb dX12_spend_72 (by decide) (fun c_64 => ?_) (fun c_64 => ?_)
                  · have hZ := jx_i_pos c_64 hZ
                    exact j92i43 x5_18 S_59 _ hk_20 _ _ hZ hP hD hS _ (lv_sub hl [0, 1, 2, 3, 5] rfl)
                  · have hZ := jx_i_neg c_64 hZ
                    refine lv_aload_n hx hb dX12_spend_75 rfl (lv_at hl 0 rfl) ?_
                    refine gf_12_best hx hb hts in12 hown hK hP (hts (.fieldLink RX12 84 "CoinsOfLastModel" "best" "[I") (List.mem_of_getElem? (i := 1) rfl)) dX12_spend_76 ?_
                    refine lv_iload hx hb dX12_spend_79 (lv_at hl 5 rfl) ?_
                    obtain ⟨c_70, hZ⟩ := jx_a_some hZ
                    refine M_iald hx hb hK hP wM_25 c_70 dX12_spend_81 ?_
                    refine lv_aload_n hx hb dX12_spend_82 rfl (lv_at hl 0 rfl) ?_
                    refine gf_12_best hx hb hts in12 hown hK hP (hts (.fieldLink RX12 84 "CoinsOfLastModel" "best" "[I") (List.mem_of_getElem? (i := 1) rfl)) dX12_spend_83 ?_
                    refine lv_iload hx hb dX12_spend_86 (lv_at hl 4 rfl) ?_
                    obtain ⟨c_71, hZ⟩ := jx_a_some hZ
                    refine M_iald hx hb hK hP wM_25 c_71 dX12_spend_88 ?_
                    refine lv_icmp_le (tgt := 97) hx hb dX12_spend_89 (by decide) (fun c_72 => ?_) (fun c_72 => ?_)
                    · have hZ := jx_i_pos c_72 hZ
                      refine lv_iload hx hb dX12_spend_97 (lv_at hl 4 rfl) ?_
                      exact j99i43 x5_18 x4_17 S_59 _ hk_20 _ _ hZ hP hD hS _ (lv_sub hl [0, 1, 2, 3, 5] rfl)
                    · have hZ := jx_i_neg c_72 hZ
                      exact j92i43 x5_18 S_59 _ hk_20 _ _ hZ hP hD hS _ (lv_sub hl [0, 1, 2, 3, 5] rfl)
        exact l_20 FU (0 : Int32) (1 : Int32) S_15 _ _ hw hP hD hS _ (lv_sub hl [2, 3, 4, 5, 1, 0] rfl)
      · have hZ := jx_i_pos c_12 hZ
        refine lv_iconst (v := (-1 : Int32)) hx hb dX12_spend_25 (by decide) ?_
        exact leave_i hx hb hr hlocks hP hS hZ dX12_spend_26
