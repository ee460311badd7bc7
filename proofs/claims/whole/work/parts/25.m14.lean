-- X12_heap
def f_X12_heap_44 (x1_6 : Int32) (x2_6 : Int32) (x3_6 : Int32) (s0_6 : Int32) (S_6 : St) : Option (Int32 × St) :=
  (if s0_6 = 0 then some ((-1 : Int32), S_6) else jx_d (10000 : Int32) (jx_d (10000 : Int32) (jx_b2 (f_X12_heaps 12 (0 : Int32) (x1_6 / (10000 : Int32)) x2_6 x3_6 (x1_6 - x1_6 / (10000 : Int32) * (10000 : Int32)) S_6) (fun r_12 S_10 => some (r_12, S_10)))))
def f_X12_heap_43 (x1_5 : Int32) (x2_5 : Int32) (x3_5 : Int32) (S_5 : St) : Option (Int32 × St) :=
  f_X12_heap_44 x1_5 x2_5 x3_5 (0 : Int32) S_5
def f_X12_heap (x1 : Int32) (x2 : Int32) (x3 : Int32) (S : St) : Option (Int32 × St) :=
  jx_b2 (f_X12_isAmount x1 S) (fun r_3 S_1 => (if r_3 = 0 then f_X12_heap_43 x1 x2 x3 S_1 else jx_d (10000 : Int32) ((if (1200 : Int32) < (x1 - x1 / (10000 : Int32) * (10000 : Int32)) then f_X12_heap_43 x1 x2 x3 S_1 else jx_b2 (f_X12_in x2 (0 : Int32) (20 : Int32) S_1) (fun r_20 S_18 => (if r_20 = 0 then f_X12_heap_43 x1 x2 x3 S_18 else jx_b2 (f_X12_in x3 (0 : Int32) (1980 : Int32) S_18) (fun r_25 S_23 => (if r_25 = 0 then f_X12_heap_43 x1 x2 x3 S_23 else f_X12_heap_44 x1 x2 x3 (1 : Int32) S_23))))))))
set_option maxHeartbeats 4000000 in
set_option maxRecDepth 100000 in
theorem c_X12_heap (l : Launch) (D : va_G) (q : Nat → Nat) (k : CI) (x1 : Int32) (x2 : Int32) (x3 : Int32) (S : St) (sz : Nat) (Z : Int32 × St) (hZ : f_X12_heap x1 x2 x3 S = some Z) : MetI W_M SM l yX12_heap wsX12_heap { frames := 13, cells := 0, slots := 0, locals := 351 } [.ref (q 0), .int x1, .int x2, .int x3] D q k S sz Z := by
  refine enter (cc := cX12_heap) (maxL := 5) (ret := some .int) (by decide) rfl (Nat.le_of_ble_eq_true rfl) ?_
  intro p e s m below meth c A ls hx hb hr hts hown hlocks hml hP hK hD hA hS hsp hAe hl
  have hown : s.vm.findClass RX12 = some m.cls := hown
  have hl : lv_has ls 5 [(0, .ref (q 0)), (1, .int x1), (2, .int x2), (3, .int x3)] := hl
  have j44 : ∀ (x1_6 : Int32) (x2_6 : Int32) (x3_6 : Int32) (s0_6 : Int32) (S_6 : St)  (H : Heap) (locs : List Loc) (hZ : f_X12_heap_44 x1_6 x2_6 x3_6 s0_6 S_6 = some Z) (hP : va_P D vwCl (W_M q k S_6) H) (hD : va_D A (W_M q k S_6)) (hS : va_S A s.heap H locs) (ls : Array Slot) (hl : lv_has ls 5 [(0, .ref (q 0)), (1, .int x1_6), (2, .int x2_6), (3, .int x3_6)]), W p l e ({ frames := 13, cells := 0, slots := 0, locals := 351 } : Room) s m ([.ref (q 0), .int x1, .int x2, .int x3] : List Value).toArray below meth c H locs 0 0 (MQ below (va_Qi (fun r u => (r, u) = Z) (fun u t => va_P D vwCl (W_M q k u) t.heap) A) ([.ref (q 0), .int x1, .int x2, .int x3] : List Value).toArray s 0 0 A) (F0 m 44 ls [.int s0_6]) := by
    intro x1_6 x2_6 x3_6 s0_6 S_6   H locs hZ hP hD hS ls hl
    unfold f_X12_heap_44 at hZ
    refine lv_istore (lv' := [(4, .int s0_6), (0, .ref (q 0)), (1, .int x1_6), (2, .int x2_6), (3, .int x3_6)]) hx hb dX12_heap_44 hl (by decide) rfl (fun ls hl => ?_)
    refine lv_iload hx hb dX12_heap_46 (lv_at hl 0 rfl) ?_
    refine lv_if_eq (tgt := 71) hx hb dX12_heap_48 (by decide) (fun c_7 => ?_) (fun c_7 => ?_)
    · have hZ := jx_i_pos c_7 hZ
      refine lv_iconst (v := (-1 : Int32)) hx hb dX12_heap_71 (by decide) ?_
      exact leave_i hx hb hr hlocks hP hS hZ dX12_heap_72
    · have hZ := jx_i_neg c_7 hZ
      refine lv_aload_n hx hb dX12_heap_51 rfl (lv_at hl 1 rfl) ?_
      refine lv_iconst (v := (0 : Int32)) hx hb dX12_heap_52 (by decide) ?_
      refine lv_iload_n hx hb dX12_heap_53 rfl (lv_at hl 2 rfl) ?_
      refine lv_sipush (v := (10000 : Int32)) hx hb dX12_heap_54 (by decide) ?_
      obtain ⟨c_8, hZ⟩ := jx_d_some hZ
      refine lv_idiv hx hb dX12_heap_57 c_8 ?_
      refine lv_iload_n hx hb dX12_heap_58 rfl (lv_at hl 3 rfl) ?_
      refine lv_iload_n hx hb dX12_heap_59 rfl (lv_at hl 4 rfl) ?_
      refine lv_iload_n hx hb dX12_heap_60 rfl (lv_at hl 2 rfl) ?_
      refine lv_sipush (v := (10000 : Int32)) hx hb dX12_heap_61 (by decide) ?_
      obtain ⟨c_9, hZ⟩ := jx_d_some hZ
      refine lv_irem hx hb dX12_heap_64 c_9 ?_
      obtain ⟨r_12, S_10, hc_11, hZ⟩ := jx_b2_some hZ
      refine call_Vi SM_ok sameM ⟨hx, hb, hml, hown, hts⟩ (c_X12_heaps l D q k 12 (0 : Int32) (x1_6 / (10000 : Int32)) x2_6 x3_6 (x1_6 - x1_6 / (10000 : Int32) * (10000 : Int32)) S_6 _ (r_12, S_10)  hc_11) (cwV 5 hts gX12_heap_X12_heaps rfl rfl rfl hd_X12_heaps ⟨Nat.le_of_ble_eq_true rfl, Nat.le_of_ble_eq_true rfl⟩) hK hP hD hS hA hsp (va_recv hK hP (ci := 12) (q0 := 0) rfl wM_0) (As := [.int (0 : Int32), .int (x1_6 / (10000 : Int32)), .int x2_6, .int x3_6, .int (x1_6 - x1_6 / (10000 : Int32) * (10000 : Int32))]) rfl hl.1 rfl (Nat.le_of_ble_eq_true rfl) dX12_heap_65 ⟨Nat.zero_le _, Nat.zero_le _⟩ (fun H locs hP hD hS => ?_)
      refine lv_goto (tgt := 72) hx hb dX12_heap_68 (by decide) ?_
      exact leave_i hx hb hr hlocks hP hS hZ dX12_heap_72
  have j43 : ∀ (x1_5 : Int32) (x2_5 : Int32) (x3_5 : Int32) (S_5 : St)  (H : Heap) (locs : List Loc) (hZ : f_X12_heap_43 x1_5 x2_5 x3_5 S_5 = some Z) (hP : va_P D vwCl (W_M q k S_5) H) (hD : va_D A (W_M q k S_5)) (hS : va_S A s.heap H locs) (ls : Array Slot) (hl : lv_has ls 5 [(0, .ref (q 0)), (1, .int x1_5), (2, .int x2_5), (3, .int x3_5)]), W p l e ({ frames := 13, cells := 0, slots := 0, locals := 351 } : Room) s m ([.ref (q 0), .int x1, .int x2, .int x3] : List Value).toArray below meth c H locs 0 0 (MQ below (va_Qi (fun r u => (r, u) = Z) (fun u t => va_P D vwCl (W_M q k u) t.heap) A) ([.ref (q 0), .int x1, .int x2, .int x3] : List Value).toArray s 0 0 A) (F0 m 43 ls []) := by
    intro x1_5 x2_5 x3_5 S_5   H locs hZ hP hD hS ls hl
    unfold f_X12_heap_43 at hZ
    refine lv_iconst (v := (0 : Int32)) hx hb dX12_heap_43 (by decide) ?_
    exact j44 x1_5 x2_5 x3_5 (0 : Int32) S_5 _ _ hZ hP hD hS _ (lv_sub hl [0, 1, 2, 3] rfl)
  unfold f_X12_heap at hZ
  refine lv_iload_n hx hb dX12_heap_0 rfl (lv_at hl 1 rfl) ?_
  obtain ⟨r_3, S_1, hc_2, hZ⟩ := jx_b2_some hZ
  refine call_Si SM_ok sameM ⟨hx, hb, hml, hown, hts⟩ (c_X12_isAmount l D q k x1 S _ (r_3, S_1)  hc_2) (va_cwS 1 hts gX12_heap_X12_isAmount rfl rfl rfl hd_X12_isAmount ⟨Nat.le_of_ble_eq_true rfl, Nat.le_of_ble_eq_true rfl⟩) hK hP hD hS hA hsp (As := [.int x1]) rfl hl.1 rfl (Nat.le_of_ble_eq_true rfl) dX12_heap_1 ⟨Nat.zero_le _, Nat.zero_le _⟩ (fun H locs hP hD hS => ?_)
  refine lv_if_eq (tgt := 43) hx hb dX12_heap_4 (by decide) (fun c_4 => ?_) (fun c_4 => ?_)
  · have hZ := jx_i_pos c_4 hZ
    exact j43 x1 x2 x3 S_1 _ _ hZ hP hD hS _ (lv_sub hl [0, 1, 2, 3] rfl)
  · have hZ := jx_i_neg c_4 hZ
    refine lv_iload_n hx hb dX12_heap_7 rfl (lv_at hl 1 rfl) ?_
    refine lv_sipush (v := (10000 : Int32)) hx hb dX12_heap_8 (by decide) ?_
    obtain ⟨c_15, hZ⟩ := jx_d_some hZ
    refine lv_irem hx hb dX12_heap_11 c_15 ?_
    refine lv_sipush (v := (1200 : Int32)) hx hb dX12_heap_12 (by decide) ?_
    refine lv_icmp_gt (tgt := 43) hx hb dX12_heap_15 (by decide) (fun c_16 => ?_) (fun c_16 => ?_)
    · have hZ := jx_i_pos c_16 hZ
      exact j43 x1 x2 x3 S_1 _ _ hZ hP hD hS _ (lv_sub hl [0, 1, 2, 3] rfl)
    · have hZ := jx_i_neg c_16 hZ
      refine lv_iload_n hx hb dX12_heap_18 rfl (lv_at hl 2 rfl) ?_
      refine lv_iconst (v := (0 : Int32)) hx hb dX12_heap_19 (by decide) ?_
      refine lv_bipush (v := (20 : Int32)) hx hb dX12_heap_20 (by decide) ?_
      obtain ⟨r_20, S_18, hc_19, hZ⟩ := jx_b2_some hZ
      refine call_Si SM_ok sameM ⟨hx, hb, hml, hown, hts⟩ (c_X12_in l D q k x2 (0 : Int32) (20 : Int32) S_1 _ (r_20, S_18)  hc_19) (va_cwS 3 hts gX12_heap_X12_in rfl rfl rfl hd_X12_in ⟨Nat.le_of_ble_eq_true rfl, Nat.le_of_ble_eq_true rfl⟩) hK hP hD hS hA hsp (As := [.int x2, .int (0 : Int32), .int (20 : Int32)]) rfl hl.1 rfl (Nat.le_of_ble_eq_true rfl) dX12_heap_22 ⟨Nat.zero_le _, Nat.zero_le _⟩ (fun H locs hP hD hS => ?_)
      refine lv_if_eq (tgt := 43) hx hb dX12_heap_25 (by decide) (fun c_21 => ?_) (fun c_21 => ?_)
      · have hZ := jx_i_pos c_21 hZ
        exact j43 x1 x2 x3 S_18 _ _ hZ hP hD hS _ (lv_sub hl [0, 1, 2, 3] rfl)
      · have hZ := jx_i_neg c_21 hZ
        refine lv_iload_n hx hb dX12_heap_28 rfl (lv_at hl 3 rfl) ?_
        refine lv_iconst (v := (0 : Int32)) hx hb dX12_heap_29 (by decide) ?_
        refine lv_sipush (v := (1980 : Int32)) hx hb dX12_heap_30 (by decide) ?_
        obtain ⟨r_25, S_23, hc_24, hZ⟩ := jx_b2_some hZ
        refine call_Si SM_ok sameM ⟨hx, hb, hml, hown, hts⟩ (c_X12_in l D q k x3 (0 : Int32) (1980 : Int32) S_18 _ (r_25, S_23)  hc_24) (va_cwS 3 hts gX12_heap_X12_in rfl rfl rfl hd_X12_in ⟨Nat.le_of_ble_eq_true rfl, Nat.le_of_ble_eq_true rfl⟩) hK hP hD hS hA hsp (As := [.int x3, .int (0 : Int32), .int (1980 : Int32)]) rfl hl.1 rfl (Nat.le_of_ble_eq_true rfl) dX12_heap_33 ⟨Nat.zero_le _, Nat.zero_le _⟩ (fun H locs hP hD hS => ?_)
        refine lv_if_eq (tgt := 43) hx hb dX12_heap_36 (by decide) (fun c_26 => ?_) (fun c_26 => ?_)
        · have hZ := jx_i_pos c_26 hZ
          exact j43 x1 x2 x3 S_23 _ _ hZ hP hD hS _ (lv_sub hl [0, 1, 2, 3] rfl)
        · have hZ := jx_i_neg c_26 hZ
          refine lv_iconst (v := (1 : Int32)) hx hb dX12_heap_39 (by decide) ?_
          refine lv_goto (tgt := 44) hx hb dX12_heap_40 (by decide) ?_
          exact j44 x1 x2 x3 (1 : Int32) S_23 _ _ hZ hP hD hS _ (lv_sub hl [0, 1, 2, 3] rfl)
-- X12_give
def f_X12_give_86 (x2_11 : Int32) (S_11 : St) : Option (Int32 × St) :=
  some (x2_11, S_11)
def f_X12_give_79i17 (x1 : Int32) (x2 : Int32) (x3_22 : Int32) (s1_22 : Int32) (s2_22 : Int32) (S_22 : St) : Option ((Int32 × St) ⊕ (St)) :=
  jx_a s1_22 8 (jx_l (u1 S_22 5 (Int32.toNatClampNeg s1_22) s2_22) (fun S_24 => jx_l (x3_22 + 1) (fun x3_25 => some (.inl (x3_25, S_24)))))
def f_X12_give_50i17 (x1 : Int32) (x2 : Int32) (x3_17 : Int32) (s1_17 : Int32) (s2_17 : Int32) (S_17 : St) : Option ((Int32 × St) ⊕ (St)) :=
  jx_l (u1 S_17 0 16 (s1_17 + s2_17)) (fun S_18 => jx_a x3_17 8 ((if (S_18.1 1 (Int32.toNatClampNeg x3_17)) = x1 then f_X12_give_79i17 x1 x2 x3_17 x3_17 (0 : Int32) S_18 else jx_a x3_17 8 (f_X12_give_79i17 x1 x2 x3_17 x3_17 (S_18.1 5 (Int32.toNatClampNeg x3_17)) S_18))))
def b_X12_give_17 (x1 : Int32) (x2 : Int32) (x3 : Int32) (S : St) : Option ((Int32 × St) ⊕ (St)) :=
  (if (S.1 0 0) ≤ x3 then some (.inr S) else jx_a x3 8 ((if (S.1 1 (Int32.toNatClampNeg x3)) = x1 then jx_a x3 8 (f_X12_give_50i17 x1 x2 x3 (S.1 0 16) (S.1 5 (Int32.toNatClampNeg x3)) S) else f_X12_give_50i17 x1 x2 x3 (S.1 0 16) (0 : Int32) S)))
def g_X12_give_17 (x1 : Int32) (x2 : Int32) : (Int32 × St) → Option ((Int32 × St) ⊕ (St)) := fun z => b_X12_give_17 x1 x2 z.1 z.2
def f_X12_give (x1 : Int32) (S : St) : Option (Int32 × St) :=
  jx_b2 (f_X12_isLand x1 S) (fun r_3 S_1 => (if r_3 = 0 then some ((-1 : Int32), S_1) else jx_b2 (f_X12_purseOf x1 S_1) (fun r_7 S_5 => jx_b (jx_w (g_X12_give_17 x1 r_7) FU ((0 : Int32), S_5)) (fun z => f_X12_give_86 r_7 z))))
set_option maxHeartbeats 4000000 in
set_option maxRecDepth 100000 in
theorem c_X12_give (l : Launch) (D : va_G) (q : Nat → Nat) (k : CI) (x1 : Int32) (S : St) (sz : Nat) (Z : Int32 × St) (hZ : f_X12_give x1 S = some Z) : MetI W_M SM l yX12_give wsX12_give { frames := 2, cells := 0, slots := 0, locals := 42 } [.ref (q 0), .int x1] D q k S sz Z := by
  refine enter (cc := cX12_give) (maxL := 4) (ret := some .int) (by decide) rfl (Nat.le_of_ble_eq_true rfl) ?_
  intro p e s m below meth c A ls hx hb hr hts hown hlocks hml hP hK hD hA hS hsp hAe hl
  have hown : s.vm.findClass RX12 = some m.cls := hown
  have hl : lv_has ls 4 [(0, .ref (q 0)), (1, .int x1)] := hl
  have in12 : ∀ w ∈ wsX120, w ∈ wsX12_give := fun _ h => (List.mem_cons_of_mem _ (List.mem_append_right _ h))
  have j86 : ∀ (x2_11 : Int32) (S_11 : St)  (H : Heap) (locs : List Loc) (hZ : f_X12_give_86 x2_11 S_11 = some Z) (hP : va_P D vwCl (W_M q k S_11) H) (hD : va_D A (W_M q k S_11)) (hS : va_S A s.heap H locs) (ls : Array Slot) (hl : lv_has ls 4 [(2, .int x2_11)]), W p l e ({ frames := 2, cells := 0, slots := 0, locals := 42 } : Room) s m ([.ref (q 0), .int x1] : List Value).toArray below meth c H locs 0 0 (MQ below (va_Qi (fun r u => (r, u) = Z) (fun u t => va_P D vwCl (W_M q k u) t.heap) A) ([.ref (q 0), .int x1] : List Value).toArray s 0 0 A) (F0 m 86 ls []) := by
    intro x2_11 S_11   H locs hZ hP hD hS ls hl
    unfold f_X12_give_86 at hZ
    refine lv_iload_n hx hb dX12_give_86 rfl (lv_at hl 0 rfl) ?_
    exact leave_i hx hb hr hlocks hP hS hZ dX12_give_87
  unfold f_X12_give at hZ
  refine lv_iload_n hx hb dX12_give_0 rfl (lv_at hl 1 rfl) ?_
  obtain ⟨r_3, S_1, hc_2, hZ⟩ := jx_b2_some hZ
  refine call_Si SM_ok sameM ⟨hx, hb, hml, hown, hts⟩ (c_X12_isLand l D q k x1 S _ (r_3, S_1)  hc_2) (va_cwS 1 hts gX12_give_X12_isLand rfl rfl rfl hd_X12_isLand ⟨Nat.le_of_ble_eq_true rfl, Nat.le_of_ble_eq_true rfl⟩) hK hP hD hS hA hsp (As := [.int x1]) rfl hl.1 rfl (Nat.le_of_ble_eq_true rfl) dX12_give_1 ⟨Nat.zero_le _, Nat.zero_le _⟩ (fun H locs hP hD hS => ?_)
  refine lv_if_ne (tgt := 9) hx hb dX12_give_4 (by decide) (fun c_4 => ?_) (fun c_4 => ?_)
  · have hZ := jx_i_neg c_4 hZ
    refine lv_aload_n hx hb dX12_give_9 rfl (lv_at hl 0 rfl) ?_
    refine lv_iload_n hx hb dX12_give_10 rfl (lv_at hl 1 rfl) ?_
    obtain ⟨r_7, S_5, hc_6, hZ⟩ := jx_b2_some hZ
    refine call_Vi SM_ok sameM ⟨hx, hb, hml, hown, hts⟩ (c_X12_purseOf l D q k x1 S_1 _ (r_7, S_5)  hc_6) (cwV 1 hts gX12_give_X12_purseOf rfl rfl rfl hd_X12_purseOf ⟨Nat.le_of_ble_eq_true rfl, Nat.le_of_ble_eq_true rfl⟩) hK hP hD hS hA hsp (va_recv hK hP (ci := 12) (q0 := 0) rfl wM_0) (As := [.int x1]) rfl hl.1 rfl (Nat.le_of_ble_eq_true rfl) dX12_give_11 ⟨Nat.zero_le _, Nat.zero_le _⟩ (fun H locs hP hD hS => ?_)
    refine lv_istore_n (lv' := [(2, .int r_7), (0, .ref (q 0)), (1, .int x1)]) hx hb dX12_give_14 rfl hl (by decide) rfl (fun ls hl => ?_)
    refine lv_iconst (v := (0 : Int32)) hx hb dX12_give_15 (by decide) ?_
    refine lv_istore_n (lv' := [(3, .int (0 : Int32)), (2, .int r_7), (0, .ref (q 0)), (1, .int x1)]) hx hb dX12_give_16 rfl hl (by decide) rfl (fun ls hl => ?_)
    obtain ⟨r_10, hw, hza_10⟩ := jx_b_some hZ
    have l_10 : ∀ (nn : Nat) (x3_8 : Int32) (S_9 : St) (H : Heap) (locs : List Loc) (hw : jx_w (g_X12_give_17 x1 r_7) nn (x3_8, S_9) = some r_10) (hP : va_P D vwCl (W_M q k S_9) H) (hD : va_D A (W_M q k S_9)) (hS : va_S A s.heap H locs) (ls : Array Slot) (hl : lv_has ls 4 [(0, .ref (q 0)), (1, .int x1), (2, .int r_7), (3, .int x3_8)]), W p l e ({ frames := 2, cells := 0, slots := 0, locals := 42 } : Room) s m ([.ref (q 0), .int x1] : List Value).toArray below meth c H locs 0 0 (MQ below (va_Qi (fun r u => (r, u) = Z) (fun u t => va_P D vwCl (W_M q k u) t.heap) A) ([.ref (q 0), .int x1] : List Value).toArray s 0 0 A) (F0 m 17 ls []) := by
      intro nn
      induction nn with
      | zero =>
        intro x3_8 S_9 H locs hw hP hD hS ls hl
        exact jx_w_zero hw
      | succ n_10 ih_10 =>
        intro x3_8 S_9 H locs hw hP hD hS ls hl
        obtain ⟨o_10, hZ, hk_10⟩ := jx_w_succ hw
        have hZ : b_X12_give_17 x1 r_7 x3_8 S_9 = some o_10 := hZ
        have j79i17 : ∀ (x3_40 : Int32) (s1_40 : Int32) (s2_40 : Int32) (S_40 : St)  (o_10 : (Int32 × St) ⊕ (St)) (hk_10 : jx_k (g_X12_give_17 x1 r_7) n_10 r_10 o_10) (H : Heap) (locs : List Loc) (hZ : f_X12_give_79i17 x1 r_7 x3_40 s1_40 s2_40 S_40 = some o_10) (hP : va_P D vwCl (W_M q k S_40) H) (hD : va_D A (W_M q k S_40)) (hS : va_S A s.heap H locs) (ls : Array Slot) (hl : lv_has ls 4 [(0, .ref (q 0)), (1, .int x1), (2, .int r_7), (3, .int x3_40)]), W p l e ({ frames := 2, cells := 0, slots := 0, locals := 42 } : Room) s m ([.ref (q 0), .int x1] : List Value).toArray below meth c H locs 0 0 (MQ below (va_Qi (fun r u => (r, u) = Z) (fun u t => va_P D vwCl (W_M q k u) t.heap) A) ([.ref (q 0), .int x1] : List Value).toArray s 0 0 A) (F0 m 79 ls [.int s2_40, .int s1_40, .ref (q 5)]) := by
          intro x3_40 s1_40 s2_40 S_40  o_10 hk_10 H locs hZ hP hD hS ls hl
          unfold f_X12_give_79i17 at hZ
          obtain ⟨c_41, hZ⟩ := jx_a_some hZ
          obtain ⟨S_42, e_S_42, hZ⟩ := jx_l_some hZ
          refine M_iast hx hb hK hP hD hS wM_5 (fun _ => wMs_5) c_41 e_S_42 dX12_give_79 (fun H locs hP hD hS => ?_)
          obtain ⟨x3_43, e_x3_43, hZ⟩ := jx_l_some hZ
          refine lv_iinc (v := x3_43) (lv' := [(3, .int x3_43), (0, .ref (q 0)), (1, .int x1), (2, .int r_7)]) hx hb dX12_give_80 hl (k := 3) rfl (by rw [e_x3_43]; rfl) (by decide) rfl (fun ls hl => ?_)
          refine lv_goto (tgt := 17) hx hb dX12_give_83 (by decide) ?_
          have ho := Option.some.inj hZ
          subst ho
          exact ih_10 x3_43 S_42 _ _ hk_10 hP hD hS _ (lv_sub hl [1, 2, 3, 0] rfl)
        have j50i17 : ∀ (x3_35 : Int32) (s1_35 : Int32) (s2_35 : Int32) (S_35 : St)  (o_10 : (Int32 × St) ⊕ (St)) (hk_10 : jx_k (g_X12_give_17 x1 r_7) n_10 r_10 o_10) (H : Heap) (locs : List Loc) (hZ : f_X12_give_50i17 x1 r_7 x3_35 s1_35 s2_35 S_35 = some o_10) (hP : va_P D vwCl (W_M q k S_35) H) (hD : va_D A (W_M q k S_35)) (hS : va_S A s.heap H locs) (ls : Array Slot) (hl : lv_has ls 4 [(0, .ref (q 0)), (1, .int x1), (2, .int r_7), (3, .int x3_35)]), W p l e ({ frames := 2, cells := 0, slots := 0, locals := 42 } : Room) s m ([.ref (q 0), .int x1] : List Value).toArray below meth c H locs 0 0 (MQ below (va_Qi (fun r u => (r, u) = Z) (fun u t => va_P D vwCl (W_M q k u) t.heap) A) ([.ref (q 0), .int x1] : List Value).toArray s 0 0 A) (F0 m 50 ls [.int s2_35, .int s1_35, .ref (q 0)]) := by
          intro x3_35 s1_35 s2_35 S_35  o_10 hk_10 H locs hZ hP hD hS ls hl
          unfold f_X12_give_50i17 at hZ
          refine lv_iadd hx hb dX12_give_50 ?_
          obtain ⟨S_36, e_S_36, hZ⟩ := jx_l_some hZ
          refine pf_12_given hx hb hts in12 hown hK hP hD hS (hts (.fieldLink RX12 335 "CoinsOfLastModel" "given" "I") (List.mem_of_getElem? (i := 2) rfl)) e_S_36 dX12_give_51 (fun H locs hP hD hS => ?_)
          refine lv_aload_n hx hb dX12_give_54 rfl (lv_at hl 0 rfl) ?_
          refine gf_12_purse hx hb hts in12 hown hK hP (hts (.fieldLink RX12 22 "CoinsOfLastModel" "purse" "[I") (List.mem_of_getElem? (i := 4) rfl)) dX12_give_55 ?_
          refine lv_iload_n hx hb dX12_give_58 rfl (lv_at hl 3 rfl) ?_
          refine lv_aload_n hx hb dX12_give_59 rfl (lv_at hl 0 rfl) ?_
          refine gf_12_landOf hx hb hts in12 hown hK hP (hts (.fieldLink RX12 7 "CoinsOfLastModel" "landOf" "[I") (List.mem_of_getElem? (i := 3) rfl)) dX12_give_60 ?_
          refine lv_iload_n hx hb dX12_give_63 rfl (lv_at hl 3 rfl) ?_
          obtain ⟨c_37, hZ⟩ := jx_a_some hZ
          refine M_iald hx hb hK hP wM_1 c_37 dX12_give_64 ?_
          refine lv_iload_n hx hb dX12_give_65 rfl (lv_at hl 1 rfl) ?_
          refine lv_icmp_ne (tgt := 73) hx hb dX12_give_66 (by decide) (fun c_38 => ?_) (fun c_38 => ?_)
          · have hZ := jx_i_neg c_38 hZ
            refine lv_aload_n hx hb dX12_give_73 rfl (lv_at hl 0 rfl) ?_
            refine gf_12_purse hx hb hts in12 hown hK hP (hts (.fieldLink RX12 22 "CoinsOfLastModel" "purse" "[I") (List.mem_of_getElem? (i := 4) rfl)) dX12_give_74 ?_
            refine lv_iload_n hx hb dX12_give_77 rfl (lv_at hl 3 rfl) ?_
            obtain ⟨c_39, hZ⟩ := jx_a_some hZ
            refine M_iald hx hb hK hP wM_5 c_39 dX12_give_78 ?_
            exact j79i17 x3_35 x3_35 (S_36.1 5 (Int32.toNatClampNeg x3_35)) S_36 _ hk_10 _ _ hZ hP hD hS _ (lv_sub hl [0, 1, 2, 3] rfl)
          · have hZ := jx_i_pos c_38 hZ
            refine lv_iconst (v := (0 : Int32)) hx hb dX12_give_69 (by decide) ?_
            refine lv_goto (tgt := 79) hx hb dX12_give_70 (by decide) ?_
            exact j79i17 x3_35 x3_35 (0 : Int32) S_36 _ hk_10 _ _ hZ hP hD hS _ (lv_sub hl [0, 1, 2, 3] rfl)
        unfold b_X12_give_17 at hZ
        refine lv_iload_n hx hb dX12_give_17 rfl (lv_at hl 3 rfl) ?_
        refine lv_aload_n hx hb dX12_give_18 rfl (lv_at hl 0 rfl) ?_
        refine gf_12_sorts hx hb hts in12 hown hK hP (hts (.fieldLink RX12 114 "CoinsOfLastModel" "sorts" "I") (List.mem_of_getElem? (i := 1) rfl)) dX12_give_19 ?_
        refine lv_icmp_ge (tgt := 86) hx hb dX12_give_22 (by decide) (fun c_31 => ?_) (fun c_31 => ?_)
        · have hZ := jx_i_pos c_31 hZ
          have ho := Option.some.inj hZ
          subst ho
          have hE := hza_10
          rw [← (show S_9 = r_10 from hk_10)] at hE
          have hZ : f_X12_give_86 r_7 S_9 = some Z := hE
          exact j86 r_7 S_9 _ _ hZ hP hD hS _ (lv_sub hl [2] rfl)
        · have hZ := jx_i_neg c_31 hZ
          refine lv_aload_n hx hb dX12_give_25 rfl (lv_at hl 0 rfl) ?_
          refine lv_dup hx hb dX12_give_26 rfl ?_
          refine gf_12_given hx hb hts in12 hown hK hP (hts (.fieldLink RX12 335 "CoinsOfLastModel" "given" "I") (List.mem_of_getElem? (i := 2) rfl)) dX12_give_27 ?_
          refine lv_aload_n hx hb dX12_give_30 rfl (lv_at hl 0 rfl) ?_
          refine gf_12_landOf hx hb hts in12 hown hK hP (hts (.fieldLink RX12 7 "CoinsOfLastModel" "landOf" "[I") (List.mem_of_getElem? (i := 3) rfl)) dX12_give_31 ?_
          refine lv_iload_n hx hb dX12_give_34 rfl (lv_at hl 3 rfl) ?_
          obtain ⟨c_33, hZ⟩ := jx_a_some hZ
          refine M_iald hx hb hK hP wM_1 c_33 dX12_give_35 ?_
          refine lv_iload_n hx hb dX12_give_36 rfl (lv_at hl 1 rfl) ?_
          refine lv_icmp_ne (tgt := 49) hx hb dX12_give_37 (by decide) (fun c_34 => ?_) (fun c_34 => ?_)
          · have hZ := jx_i_neg c_34 hZ
            refine lv_iconst (v := (0 : Int32)) hx hb dX12_give_49 (by decide) ?_
            exact j50i17 x3_8 (S_9.1 0 16) (0 : Int32) S_9 _ hk_10 _ _ hZ hP hD hS _ (lv_sub hl [0, 1, 2, 3] rfl)
          · have hZ := jx_i_pos c_34 hZ
            refine lv_aload_n hx hb dX12_give_40 rfl (lv_at hl 0 rfl) ?_
            refine gf_12_purse hx hb hts in12 hown hK hP (hts (.fieldLink RX12 22 "CoinsOfLastModel" "purse" "[I") (List.mem_of_getElem? (i := 4) rfl)) dX12_give_41 ?_
            refine lv_iload_n hx hb dX12_give_44 rfl (lv_at hl 3 rfl) ?_
            obtain ⟨c_47, hZ⟩ := jx_a_some hZ
            refine M_iald hx hb hK hP wM_5 c_47 dX12_give_45 ?_
            refine lv_goto (tgt := 50) hx hb dX12_give_46 (by decide) ?_
            exact j50i17 x3_8 (S_9.1 0 16) (S_9.1 5 (Int32.toNatClampNeg x3_8)) S_9 _ hk_10 _ _ hZ hP hD hS _ (lv_sub hl [0, 1, 2, 3] rfl)
    exact l_10 FU (0 : Int32) S_5 _ _ hw hP hD hS _ (lv_sub hl [2, 3, 1, 0] rfl)
  · have hZ := jx_i_pos c_4 hZ
    refine lv_iconst (v := (-1 : Int32)) hx hb dX12_give_7 (by decide) ?_
    exact leave_i hx hb hr hlocks hP hS hZ dX12_give_8
-- X12_led
def f_X12_led (x1 : Int32) (S : St) : Option (Int32 × St) :=
  (if x1 = 0 then some ((S.1 0 14), S) else (if x1 = (1 : Int32) then some ((S.1 0 15), S) else (if x1 = (2 : Int32) then some ((S.1 0 16), S) else some ((-1 : Int32), S))))
set_option maxHeartbeats 4000000 in
set_option maxRecDepth 100000 in
theorem c_X12_led (l : Launch) (D : va_G) (q : Nat → Nat) (k : CI) (x1 : Int32) (S : St) (sz : Nat) (Z : Int32 × St) (hZ : f_X12_led x1 S = some Z) : MetI W_M SM l yX12_led wsX12_led { frames := 0, cells := 0, slots := 0, locals := 0 } [.ref (q 0), .int x1] D q k S sz Z := by
  refine enter (cc := cX12_led) (maxL := 2) (ret := some .int) (by decide) rfl (Nat.le_of_ble_eq_true rfl) ?_
  intro p e s m below meth c A ls hx hb hr hts hown hlocks hml hP hK hD hA hS hsp hAe hl
  have hown : s.vm.findClass RX12 = some m.cls := hown
  have hl : lv_has ls 2 [(0, .ref (q 0)), (1, .int x1)] := hl
  have in12 : ∀ w ∈ wsX120, w ∈ wsX12_led := fun _ h => (List.mem_cons_of_mem _ (List.mem_append_right _ h))
  unfold f_X12_led at hZ
  refine lv_iload_n hx hb dX12_led_0 rfl (lv_at hl 1 rfl) ?_
  refine lv_if_ne (tgt := 11) hx hb dX12_led_1 (by decide) (fun c_1 => ?_) (fun c_1 => ?_)
  · have hZ := jx_i_neg c_1 hZ
    refine lv_iload_n hx hb dX12_led_11 rfl (lv_at hl 1 rfl) ?_
    refine lv_iconst (v := (1 : Int32)) hx hb dX12_led_12 (by decide) ?_
    refine lv_icmp_ne (tgt := 23) hx hb dX12_led_13 (by decide) (fun c_2 => ?_) (fun c_2 => ?_)
    · have hZ := jx_i_neg c_2 hZ
      refine lv_iload_n hx hb dX12_led_23 rfl (lv_at hl 1 rfl) ?_
      refine lv_iconst (v := (2 : Int32)) hx hb dX12_led_24 (by decide) ?_
      refine lv_icmp_ne (tgt := 35) hx hb dX12_led_25 (by decide) (fun c_3 => ?_) (fun c_3 => ?_)
      · have hZ := jx_i_neg c_3 hZ
        refine lv_iconst (v := (-1 : Int32)) hx hb dX12_led_35 (by decide) ?_
        exact leave_i hx hb hr hlocks hP hS hZ dX12_led_36
      · have hZ := jx_i_pos c_3 hZ
        refine lv_aload_n hx hb dX12_led_28 rfl (lv_at hl 0 rfl) ?_
        refine gf_12_given hx hb hts in12 hown hK hP (hts (.fieldLink RX12 335 "CoinsOfLastModel" "given" "I") (List.mem_of_getElem? (i := 3) rfl)) dX12_led_29 ?_
        refine lv_goto (tgt := 36) hx hb dX12_led_32 (by decide) ?_
        exact leave_i hx hb hr hlocks hP hS hZ dX12_led_36
    · have hZ := jx_i_pos c_2 hZ
      refine lv_aload_n hx hb dX12_led_16 rfl (lv_at hl 0 rfl) ?_
      refine gf_12_spent hx hb hts in12 hown hK hP (hts (.fieldLink RX12 285 "CoinsOfLastModel" "spent" "I") (List.mem_of_getElem? (i := 2) rfl)) dX12_led_17 ?_
      refine lv_goto (tgt := 36) hx hb dX12_led_20 (by decide) ?_
      exact leave_i hx hb hr hlocks hP hS hZ dX12_led_36
  · have hZ := jx_i_pos c_1 hZ
    refine lv_aload_n hx hb dX12_led_4 rfl (lv_at hl 0 rfl) ?_
    refine gf_12_lost hx hb hts in12 hown hK hP (hts (.fieldLink RX12 282 "CoinsOfLastModel" "lost" "I") (List.mem_of_getElem? (i := 1) rfl)) dX12_led_5 ?_
    refine lv_goto (tgt := 36) hx hb dX12_led_8 (by decide) ?_
    exact leave_i hx hb hr hlocks hP hS hZ dX12_led_36
-- X12_image
def f_X12_image_73 (S_11 : St) : Option (Int32 × St) :=
  jx_a (0 : Int32) 3 (jx_l (u1 S_11 28 (Int32.toNatClampNeg (0 : Int32)) (S_11.1 0 14)) (fun S_13 => jx_a (1 : Int32) 3 (jx_l (u1 S_13 28 (Int32.toNatClampNeg (1 : Int32)) (S_13.1 0 15)) (fun S_15 => jx_a (2 : Int32) 3 (jx_l (u1 S_15 28 (Int32.toNatClampNeg (2 : Int32)) (S_15.1 0 16)) (fun S_17 => some ((S_17.1 0 0), S_17)))))))
def b_X12_image_49 (x1 : Int32) (S : St) : Option ((Int32 × St) ⊕ (St)) :=
  (if (10 : Int32) ≤ x1 then some (.inr S) else jx_a x1 10 (jx_a x1 10 (jx_l (u1 S 27 (Int32.toNatClampNeg x1) (S.1 9 (Int32.toNatClampNeg x1))) (fun S_23 => jx_l (x1 + 1) (fun x1_24 => some (.inl (x1_24, S_23)))))))
def g_X12_image_49 : (Int32 × St) → Option ((Int32 × St) ⊕ (St)) := fun z => b_X12_image_49 z.1 z.2
def f_X12_image_47 (S_7 : St) : Option (Int32 × St) :=
  jx_b (jx_w (g_X12_image_49) FU ((0 : Int32), S_7)) (fun z => f_X12_image_73 z)
def b_X12_image_23 (x1 : Int32) (S : St) : Option ((Int32 × St) ⊕ (St)) :=
  (if (8 : Int32) ≤ x1 then some (.inr S) else jx_a x1 8 (jx_a x1 8 (jx_l (u1 S 26 (Int32.toNatClampNeg x1) (S.1 5 (Int32.toNatClampNeg x1))) (fun S_36 => jx_l (x1 + 1) (fun x1_37 => some (.inl (x1_37, S_36)))))))
def g_X12_image_23 : (Int32 × St) → Option ((Int32 × St) ⊕ (St)) := fun z => b_X12_image_23 z.1 z.2
def f_X12_image (S : St) : Option (Int32 × St) :=
  jx_l (u1 S 0 42 (1 : Int32)) (fun S_1 => jx_l (u1 S_1 0 43 (S_1.1 0 0)) (fun S_2 => jx_l (u1 S_2 0 44 (S_2.1 0 6)) (fun S_3 => jx_b (jx_w (g_X12_image_23) FU ((0 : Int32), S_3)) (fun z => f_X12_image_47 z))))
set_option maxHeartbeats 4000000 in
set_option maxRecDepth 100000 in
theorem c_X12_image (l : Launch) (D : va_G) (q : Nat → Nat) (k : CI) (S : St) (sz : Nat) (Z : Int32 × St) (hZ : f_X12_image S = some Z) : MetI W_M SM l yX12_image wsX12_image { frames := 0, cells := 0, slots := 0, locals := 0 } [.ref (q 0)] D q k S sz Z := by
  refine enter (cc := cX12_image) (maxL := 2) (ret := some .int) (by decide) rfl (Nat.le_of_ble_eq_true rfl) ?_
  intro p e s m below meth c A ls hx hb hr hts hown hlocks hml hP hK hD hA hS hsp hAe hl
  have hown : s.vm.findClass RX12 = some m.cls := hown
  have hl : lv_has ls 2 [(0, .ref (q 0))] := hl
  have in12 : ∀ w ∈ wsX120, w ∈ wsX12_image := fun _ h => (List.mem_cons_of_mem _ (List.mem_append_right _ h))
  have j73 : ∀ (S_11 : St)  (H : Heap) (locs : List Loc) (hZ : f_X12_image_73 S_11 = some Z) (hP : va_P D vwCl (W_M q k S_11) H) (hD : va_D A (W_M q k S_11)) (hS : va_S A s.heap H locs) (ls : Array Slot) (hl : lv_has ls 2 [(0, .ref (q 0))]), W p l e ({ frames := 0, cells := 0, slots := 0, locals := 0 } : Room) s m ([.ref (q 0)] : List Value).toArray below meth c H locs 0 0 (MQ below (va_Qi (fun r u => (r, u) = Z) (fun u t => va_P D vwCl (W_M q k u) t.heap) A) ([.ref (q 0)] : List Value).toArray s 0 0 A) (F0 m 73 ls []) := by
    intro S_11   H locs hZ hP hD hS ls hl
    unfold f_X12_image_73 at hZ
    refine lv_aload_n hx hb dX12_image_73 rfl (lv_at hl 0 rfl) ?_
    refine gf_12_imageLed hx hb hts in12 hown hK hP (hts (.fieldLink RX12 93 "CoinsOfLastModel" "imageLed" "[I") (List.mem_of_getElem? (i := 10) rfl)) dX12_image_74 ?_
    refine lv_iconst (v := (0 : Int32)) hx hb dX12_image_77 (by decide) ?_
    refine lv_aload_n hx hb dX12_image_78 rfl (lv_at hl 0 rfl) ?_
    refine gf_12_lost hx hb hts in12 hown hK hP (hts (.fieldLink RX12 282 "CoinsOfLastModel" "lost" "I") (List.mem_of_getElem? (i := 11) rfl)) dX12_image_79 ?_
    obtain ⟨c_12, hZ⟩ := jx_a_some hZ
    obtain ⟨S_13, e_S_13, hZ⟩ := jx_l_some hZ
    refine M_iast hx hb hK hP hD hS wM_28 (fun _ => wMs_28) c_12 e_S_13 dX12_image_82 (fun H locs hP hD hS => ?_)
    refine lv_aload_n hx hb dX12_image_83 rfl (lv_at hl 0 rfl) ?_
    refine gf_12_imageLed hx hb hts in12 hown hK hP (hts (.fieldLink RX12 93 "CoinsOfLastModel" "imageLed" "[I") (List.mem_of_getElem? (i := 10) rfl)) dX12_image_84 ?_
    refine lv_iconst (v := (1 : Int32)) hx hb dX12_image_87 (by decide) ?_
    refine lv_aload_n hx hb dX12_image_88 rfl (lv_at hl 0 rfl) ?_
    refine gf_12_spent hx hb hts in12 hown hK hP (hts (.fieldLink RX12 285 "CoinsOfLastModel" "spent" "I") (List.mem_of_getElem? (i := 12) rfl)) dX12_image_89 ?_
    obtain ⟨c_14, hZ⟩ := jx_a_some hZ
    obtain ⟨S_15, e_S_15, hZ⟩ := jx_l_some hZ
    refine M_iast hx hb hK hP hD hS wM_28 (fun _ => wMs_28) c_14 e_S_15 dX12_image_92 (fun H locs hP hD hS => ?_)
    refine lv_aload_n hx hb dX12_image_93 rfl (lv_at hl 0 rfl) ?_
    refine gf_12_imageLed hx hb hts in12 hown hK hP (hts (.fieldLink RX12 93 "CoinsOfLastModel" "imageLed" "[I") (List.mem_of_getElem? (i := 10) rfl)) dX12_image_94 ?_
    refine lv_iconst (v := (2 : Int32)) hx hb dX12_image_97 (by decide) ?_
    refine lv_aload_n hx hb dX12_image_98 rfl (lv_at hl 0 rfl) ?_
    refine gf_12_given hx hb hts in12 hown hK hP (hts (.fieldLink RX12 335 "CoinsOfLastModel" "given" "I") (List.mem_of_getElem? (i := 13) rfl)) dX12_image_99 ?_
    obtain ⟨c_16, hZ⟩ := jx_a_some hZ
    obtain ⟨S_17, e_S_17, hZ⟩ := jx_l_some hZ
    refine M_iast hx hb hK hP hD hS wM_28 (fun _ => wMs_28) c_16 e_S_17 dX12_image_102 (fun H locs hP hD hS => ?_)
    refine lv_aload_n hx hb dX12_image_103 rfl (lv_at hl 0 rfl) ?_
    refine gf_12_sorts hx hb hts in12 hown hK hP (hts (.fieldLink RX12 114 "CoinsOfLastModel" "sorts" "I") (List.mem_of_getElem? (i := 2) rfl)) dX12_image_104 ?_
    exact leave_i hx hb hr hlocks hP hS hZ dX12_image_107
  have j47 : ∀ (S_7 : St)  (H : Heap) (locs : List Loc) (hZ : f_X12_image_47 S_7 = some Z) (hP : va_P D vwCl (W_M q k S_7) H) (hD : va_D A (W_M q k S_7)) (hS : va_S A s.heap H locs) (ls : Array Slot) (hl : lv_has ls 2 [(0, .ref (q 0))]), W p l e ({ frames := 0, cells := 0, slots := 0, locals := 0 } : Room) s m ([.ref (q 0)] : List Value).toArray below meth c H locs 0 0 (MQ below (va_Qi (fun r u => (r, u) = Z) (fun u t => va_P D vwCl (W_M q k u) t.heap) A) ([.ref (q 0)] : List Value).toArray s 0 0 A) (F0 m 47 ls []) := by
    intro S_7   H locs hZ hP hD hS ls hl
    unfold f_X12_image_47 at hZ
    refine lv_iconst (v := (0 : Int32)) hx hb dX12_image_47 (by decide) ?_
    refine lv_istore_n (lv' := [(1, .int (0 : Int32)), (0, .ref (q 0))]) hx hb dX12_image_48 rfl hl (by decide) rfl (fun ls hl => ?_)
    obtain ⟨r_10, hw, hza_10⟩ := jx_b_some hZ
    have l_10 : ∀ (nn : Nat) (x1_8 : Int32) (S_9 : St) (H : Heap) (locs : List Loc) (hw : jx_w (g_X12_image_49) nn (x1_8, S_9) = some r_10) (hP : va_P D vwCl (W_M q k S_9) H) (hD : va_D A (W_M q k S_9)) (hS : va_S A s.heap H locs) (ls : Array Slot) (hl : lv_has ls 2 [(0, .ref (q 0)), (1, .int x1_8)]), W p l e ({ frames := 0, cells := 0, slots := 0, locals := 0 } : Room) s m ([.ref (q 0)] : List Value).toArray below meth c H locs 0 0 (MQ below (va_Qi (fun r u => (r, u) = Z) (fun u t => va_P D vwCl (W_M q k u) t.heap) A) ([.ref (q 0)] : List Value).toArray s 0 0 A) (F0 m 49 ls []) := by
      intro nn
      induction nn with
      | zero =>
        intro x1_8 S_9 H locs hw hP hD hS ls hl
        exact jx_w_zero hw
      | succ n_10 ih_10 =>
        intro x1_8 S_9 H locs hw hP hD hS ls hl
        obtain ⟨o_10, hZ, hk_10⟩ := jx_w_succ hw
        have hZ : b_X12_image_49 x1_8 S_9 = some o_10 := hZ
        unfold b_X12_image_49 at hZ
        refine lv_iload_n hx hb dX12_image_49 rfl (lv_at hl 1 rfl) ?_
        refine lv_bipush (v := (10 : Int32)) hx hb dX12_image_50 (by decide) ?_
        refine lv_icmp_ge (tgt := 73) hx hb dX12_image_52 (by decide) (fun c_25 => ?_) (fun c_25 => ?_)
        · have hZ := jx_i_pos c_25 hZ
          have ho := Option.some.inj hZ
          subst ho
          have hE := hza_10
          rw [← (show S_9 = r_10 from hk_10)] at hE
          have hZ : f_X12_image_73 S_9 = some Z := hE
          exact j73 S_9 _ _ hZ hP hD hS _ (lv_sub hl [0] rfl)
        · have hZ := jx_i_neg c_25 hZ
          refine lv_aload_n hx hb dX12_image_55 rfl (lv_at hl 0 rfl) ?_
          refine gf_12_imageMany hx hb hts in12 hown hK hP (hts (.fieldLink RX12 90 "CoinsOfLastModel" "imageMany" "[I") (List.mem_of_getElem? (i := 8) rfl)) dX12_image_56 ?_
          refine lv_iload_n hx hb dX12_image_59 rfl (lv_at hl 1 rfl) ?_
          refine lv_aload_n hx hb dX12_image_60 rfl (lv_at hl 0 rfl) ?_
          refine gf_12_many hx hb hts in12 hown hK hP (hts (.fieldLink RX12 34 "CoinsOfLastModel" "many" "[I") (List.mem_of_getElem? (i := 9) rfl)) dX12_image_61 ?_
          refine lv_iload_n hx hb dX12_image_64 rfl (lv_at hl 1 rfl) ?_
          obtain ⟨c_27, hZ⟩ := jx_a_some hZ
          refine M_iald hx hb hK hP wM_9 c_27 dX12_image_65 ?_
          obtain ⟨c_28, hZ⟩ := jx_a_some hZ
          obtain ⟨S_29, e_S_29, hZ⟩ := jx_l_some hZ
          refine M_iast hx hb hK hP hD hS wM_27 (fun _ => wMs_27) c_28 e_S_29 dX12_image_66 (fun H locs hP hD hS => ?_)
          obtain ⟨x1_30, e_x1_30, hZ⟩ := jx_l_some hZ
          refine lv_iinc (v := x1_30) (lv' := [(1, .int x1_30), (0, .ref (q 0))]) hx hb dX12_image_67 hl (k := 1) rfl (by rw [e_x1_30]; rfl) (by decide) rfl (fun ls hl => ?_)
          refine lv_goto (tgt := 49) hx hb dX12_image_70 (by decide) ?_
          have ho := Option.some.inj hZ
          subst ho
          exact ih_10 x1_30 S_29 _ _ hk_10 hP hD hS _ (lv_sub hl [1, 0] rfl)
    exact l_10 FU (0 : Int32) S_7 _ _ hw hP hD hS _ (lv_sub hl [1, 0] rfl)
  unfold f_X12_image at hZ
  refine lv_aload_n hx hb dX12_image_0 rfl (lv_at hl 0 rfl) ?_
  refine lv_iconst (v := (1 : Int32)) hx hb dX12_image_1 (by decide) ?_
  obtain ⟨S_1, e_S_1, hZ⟩ := jx_l_some hZ
  refine pf_12_hasImage hx hb hts in12 hown hK hP hD hS (hts (.fieldLink RX12 338 "CoinsOfLastModel" "hasImage" "Z") (List.mem_of_getElem? (i := 1) rfl)) rfl rfl e_S_1 dX12_image_2 (fun H locs hP hD hS => ?_)
  refine lv_aload_n hx hb dX12_image_5 rfl (lv_at hl 0 rfl) ?_
  refine lv_aload_n hx hb dX12_image_6 rfl (lv_at hl 0 rfl) ?_
  refine gf_12_sorts hx hb hts in12 hown hK hP (hts (.fieldLink RX12 114 "CoinsOfLastModel" "sorts" "I") (List.mem_of_getElem? (i := 2) rfl)) dX12_image_7 ?_
  obtain ⟨S_2, e_S_2, hZ⟩ := jx_l_some hZ
  refine pf_12_imageSorts hx hb hts in12 hown hK hP hD hS (hts (.fieldLink RX12 342 "CoinsOfLastModel" "imageSorts" "I") (List.mem_of_getElem? (i := 3) rfl)) e_S_2 dX12_image_10 (fun H locs hP hD hS => ?_)
  refine lv_aload_n hx hb dX12_image_13 rfl (lv_at hl 0 rfl) ?_
  refine lv_aload_n hx hb dX12_image_14 rfl (lv_at hl 0 rfl) ?_
  refine gf_12_things hx hb hts in12 hown hK hP (hts (.fieldLink RX12 122 "CoinsOfLastModel" "things" "I") (List.mem_of_getElem? (i := 4) rfl)) dX12_image_15 ?_
  obtain ⟨S_3, e_S_3, hZ⟩ := jx_l_some hZ
  refine pf_12_imageThings hx hb hts in12 hown hK hP hD hS (hts (.fieldLink RX12 345 "CoinsOfLastModel" "imageThings" "I") (List.mem_of_getElem? (i := 5) rfl)) e_S_3 dX12_image_18 (fun H locs hP hD hS => ?_)
  refine lv_iconst (v := (0 : Int32)) hx hb dX12_image_21 (by decide) ?_
  refine lv_istore_n (lv' := [(1, .int (0 : Int32)), (0, .ref (q 0))]) hx hb dX12_image_22 rfl hl (by decide) rfl (fun ls hl => ?_)
  obtain ⟨r_6, hw, hza_6⟩ := jx_b_some hZ
  have l_6 : ∀ (nn : Nat) (x1_4 : Int32) (S_5 : St) (H : Heap) (locs : List Loc) (hw : jx_w (g_X12_image_23) nn (x1_4, S_5) = some r_6) (hP : va_P D vwCl (W_M q k S_5) H) (hD : va_D A (W_M q k S_5)) (hS : va_S A s.heap H locs) (ls : Array Slot) (hl : lv_has ls 2 [(0, .ref (q 0)), (1, .int x1_4)]), W p l e ({ frames := 0, cells := 0, slots := 0, locals := 0 } : Room) s m ([.ref (q 0)] : List Value).toArray below meth c H locs 0 0 (MQ below (va_Qi (fun r u => (r, u) = Z) (fun u t => va_P D vwCl (W_M q k u) t.heap) A) ([.ref (q 0)] : List Value).toArray s 0 0 A) (F0 m 23 ls []) := by
    intro nn
    induction nn with
    | zero =>
      intro x1_4 S_5 H locs hw hP hD hS ls hl
      exact jx_w_zero hw
    | succ n_6 ih_6 =>
      intro x1_4 S_5 H locs hw hP hD hS ls hl
      obtain ⟨o_6, hZ, hk_6⟩ := jx_w_succ hw
      have hZ : b_X12_image_23 x1_4 S_5 = some o_6 := hZ
      unfold b_X12_image_23 at hZ
      refine lv_iload_n hx hb dX12_image_23 rfl (lv_at hl 1 rfl) ?_
      refine lv_bipush (v := (8 : Int32)) hx hb dX12_image_24 (by decide) ?_
      refine lv_icmp_ge (tgt := 47) hx hb dX12_image_26 (by decide) (fun c_38 => ?_) (fun c_38 => ?_)
      · have hZ := jx_i_pos c_38 hZ
        have ho := Option.some.inj hZ
        subst ho
        have hE := hza_6
        rw [← (show S_5 = r_6 from hk_6)] at hE
        have hZ : f_X12_image_47 S_5 = some Z := hE
        exact j47 S_5 _ _ hZ hP hD hS _ (lv_sub hl [0] rfl)
      · have hZ := jx_i_neg c_38 hZ
        refine lv_aload_n hx hb dX12_image_29 rfl (lv_at hl 0 rfl) ?_
        refine gf_12_imagePurse hx hb hts in12 hown hK hP (hts (.fieldLink RX12 87 "CoinsOfLastModel" "imagePurse" "[I") (List.mem_of_getElem? (i := 6) rfl)) dX12_image_30 ?_
        refine lv_iload_n hx hb dX12_image_33 rfl (lv_at hl 1 rfl) ?_
        refine lv_aload_n hx hb dX12_image_34 rfl (lv_at hl 0 rfl) ?_
        refine gf_12_purse hx hb hts in12 hown hK hP (hts (.fieldLink RX12 22 "CoinsOfLastModel" "purse" "[I") (List.mem_of_getElem? (i := 7) rfl)) dX12_image_35 ?_
        refine lv_iload_n hx hb dX12_image_38 rfl (lv_at hl 1 rfl) ?_
        obtain ⟨c_40, hZ⟩ := jx_a_some hZ
        refine M_iald hx hb hK hP wM_5 c_40 dX12_image_39 ?_
        obtain ⟨c_41, hZ⟩ := jx_a_some hZ
        obtain ⟨S_42, e_S_42, hZ⟩ := jx_l_some hZ
        refine M_iast hx hb hK hP hD hS wM_26 (fun _ => wMs_26) c_41 e_S_42 dX12_image_40 (fun H locs hP hD hS => ?_)
        obtain ⟨x1_43, e_x1_43, hZ⟩ := jx_l_some hZ
        refine lv_iinc (v := x1_43) (lv' := [(1, .int x1_43), (0, .ref (q 0))]) hx hb dX12_image_41 hl (k := 1) rfl (by rw [e_x1_43]; rfl) (by decide) rfl (fun ls hl => ?_)
        refine lv_goto (tgt := 23) hx hb dX12_image_44 (by decide) ?_
        have ho := Option.some.inj hZ
        subst ho
        exact ih_6 x1_43 S_42 _ _ hk_6 hP hD hS _ (lv_sub hl [1, 0] rfl)
  exact l_6 FU (0 : Int32) S_3 _ _ hw hP hD hS _ (lv_sub hl [1, 0] rfl)
-- X12_back
def f_X12_back_76 (S_9 : St) : Option (Int32 × St) :=
  jx_a (0 : Int32) 3 (jx_l (u1 S_9 0 14 (S_9.1 28 (Int32.toNatClampNeg (0 : Int32)))) (fun S_11 => jx_a (1 : Int32) 3 (jx_l (u1 S_11 0 15 (S_11.1 28 (Int32.toNatClampNeg (1 : Int32)))) (fun S_13 => jx_a (2 : Int32) 3 (jx_l (u1 S_13 0 16 (S_13.1 28 (Int32.toNatClampNeg (2 : Int32)))) (fun S_15 => some ((S_15.1 0 0), S_15)))))))
def b_X12_back_50 (x1 : Int32) (S : St) : Option ((Int32 × St) ⊕ (St)) :=
  (if (S.1 0 44) ≤ x1 then some (.inr S) else jx_a x1 10 (jx_a x1 10 (jx_l (u1 S 9 (Int32.toNatClampNeg x1) (S.1 27 (Int32.toNatClampNeg x1))) (fun S_21 => jx_l (x1 + 1) (fun x1_22 => some (.inl (x1_22, S_21)))))))
def g_X12_back_50 : (Int32 × St) → Option ((Int32 × St) ⊕ (St)) := fun z => b_X12_back_50 z.1 z.2
def f_X12_back_48 (S_5 : St) : Option (Int32 × St) :=
  jx_b (jx_w (g_X12_back_50) FU ((0 : Int32), S_5)) (fun z => f_X12_back_76 z)
def f_X12_back_41i12 (x1_33 : Int32) (s1_33 : Int32) (s2_33 : Int32) (S_33 : St) : Option ((Int32 × St) ⊕ (St)) :=
  jx_a s1_33 8 (jx_l (u1 S_33 5 (Int32.toNatClampNeg s1_33) s2_33) (fun S_35 => jx_l (x1_33 + 1) (fun x1_36 => some (.inl (x1_36, S_35)))))
def b_X12_back_12 (x1 : Int32) (S : St) : Option ((Int32 × St) ⊕ (St)) :=
  (if (8 : Int32) ≤ x1 then some (.inr S) else (if (S.1 0 43) ≤ x1 then f_X12_back_41i12 x1 x1 (0 : Int32) S else jx_a x1 8 (f_X12_back_41i12 x1 x1 (S.1 26 (Int32.toNatClampNeg x1)) S)))
def g_X12_back_12 : (Int32 × St) → Option ((Int32 × St) ⊕ (St)) := fun z => b_X12_back_12 z.1 z.2
def f_X12_back (S : St) : Option (Int32 × St) :=
  (if (S.1 0 42) = 0 then some ((-5 : Int32), S) else jx_b (jx_w (g_X12_back_12) FU ((0 : Int32), S)) (fun z => f_X12_back_48 z))
set_option maxHeartbeats 4000000 in
set_option maxRecDepth 100000 in
theorem c_X12_back (l : Launch) (D : va_G) (q : Nat → Nat) (k : CI) (S : St) (sz : Nat) (Z : Int32 × St) (hZ : f_X12_back S = some Z) : MetI W_M SM l yX12_back wsX12_back { frames := 0, cells := 0, slots := 0, locals := 0 } [.ref (q 0)] D q k S sz Z := by
  refine enter (cc := cX12_back) (maxL := 2) (ret := some .int) (by decide) rfl (Nat.le_of_ble_eq_true rfl) ?_
  intro p e s m below meth c A ls hx hb hr hts hown hlocks hml hP hK hD hA hS hsp hAe hl
  have hown : s.vm.findClass RX12 = some m.cls := hown
  have hl : lv_has ls 2 [(0, .ref (q 0))] := hl
  have in12 : ∀ w ∈ wsX120, w ∈ wsX12_back := fun _ h => (List.mem_cons_of_mem _ (List.mem_append_right _ h))
  have j76 : ∀ (S_9 : St)  (H : Heap) (locs : List Loc) (hZ : f_X12_back_76 S_9 = some Z) (hP : va_P D vwCl (W_M q k S_9) H) (hD : va_D A (W_M q k S_9)) (hS : va_S A s.heap H locs) (ls : Array Slot) (hl : lv_has ls 2 [(0, .ref (q 0))]), W p l e ({ frames := 0, cells := 0, slots := 0, locals := 0 } : Room) s m ([.ref (q 0)] : List Value).toArray below meth c H locs 0 0 (MQ below (va_Qi (fun r u => (r, u) = Z) (fun u t => va_P D vwCl (W_M q k u) t.heap) A) ([.ref (q 0)] : List Value).toArray s 0 0 A) (F0 m 76 ls []) := by
    intro S_9   H locs hZ hP hD hS ls hl
    unfold f_X12_back_76 at hZ
    refine lv_aload_n hx hb dX12_back_76 rfl (lv_at hl 0 rfl) ?_
    refine lv_aload_n hx hb dX12_back_77 rfl (lv_at hl 0 rfl) ?_
    refine gf_12_imageLed hx hb hts in12 hown hK hP (hts (.fieldLink RX12 93 "CoinsOfLastModel" "imageLed" "[I") (List.mem_of_getElem? (i := 8) rfl)) dX12_back_78 ?_
    refine lv_iconst (v := (0 : Int32)) hx hb dX12_back_81 (by decide) ?_
    obtain ⟨c_10, hZ⟩ := jx_a_some hZ
    refine M_iald hx hb hK hP wM_28 c_10 dX12_back_82 ?_
    obtain ⟨S_11, e_S_11, hZ⟩ := jx_l_some hZ
    refine pf_12_lost hx hb hts in12 hown hK hP hD hS (hts (.fieldLink RX12 282 "CoinsOfLastModel" "lost" "I") (List.mem_of_getElem? (i := 9) rfl)) e_S_11 dX12_back_83 (fun H locs hP hD hS => ?_)
    refine lv_aload_n hx hb dX12_back_86 rfl (lv_at hl 0 rfl) ?_
    refine lv_aload_n hx hb dX12_back_87 rfl (lv_at hl 0 rfl) ?_
    refine gf_12_imageLed hx hb hts in12 hown hK hP (hts (.fieldLink RX12 93 "CoinsOfLastModel" "imageLed" "[I") (List.mem_of_getElem? (i := 8) rfl)) dX12_back_88 ?_
    refine lv_iconst (v := (1 : Int32)) hx hb dX12_back_91 (by decide) ?_
    obtain ⟨c_12, hZ⟩ := jx_a_some hZ
    refine M_iald hx hb hK hP wM_28 c_12 dX12_back_92 ?_
    obtain ⟨S_13, e_S_13, hZ⟩ := jx_l_some hZ
    refine pf_12_spent hx hb hts in12 hown hK hP hD hS (hts (.fieldLink RX12 285 "CoinsOfLastModel" "spent" "I") (List.mem_of_getElem? (i := 10) rfl)) e_S_13 dX12_back_93 (fun H locs hP hD hS => ?_)
    refine lv_aload_n hx hb dX12_back_96 rfl (lv_at hl 0 rfl) ?_
    refine lv_aload_n hx hb dX12_back_97 rfl (lv_at hl 0 rfl) ?_
    refine gf_12_imageLed hx hb hts in12 hown hK hP (hts (.fieldLink RX12 93 "CoinsOfLastModel" "imageLed" "[I") (List.mem_of_getElem? (i := 8) rfl)) dX12_back_98 ?_
    refine lv_iconst (v := (2 : Int32)) hx hb dX12_back_101 (by decide) ?_
    obtain ⟨c_14, hZ⟩ := jx_a_some hZ
    refine M_iald hx hb hK hP wM_28 c_14 dX12_back_102 ?_
    obtain ⟨S_15, e_S_15, hZ⟩ := jx_l_some hZ
    refine pf_12_given hx hb hts in12 hown hK hP hD hS (hts (.fieldLink RX12 335 "CoinsOfLastModel" "given" "I") (List.mem_of_getElem? (i := 11) rfl)) e_S_15 dX12_back_103 (fun H locs hP hD hS => ?_)
    refine lv_aload_n hx hb dX12_back_106 rfl (lv_at hl 0 rfl) ?_
    refine gf_12_sorts hx hb hts in12 hown hK hP (hts (.fieldLink RX12 114 "CoinsOfLastModel" "sorts" "I") (List.mem_of_getElem? (i := 12) rfl)) dX12_back_107 ?_
    exact leave_i hx hb hr hlocks hP hS hZ dX12_back_110
  have j48 : ∀ (S_5 : St)  (H : Heap) (locs : List Loc) (hZ : f_X12_back_48 S_5 = some Z) (hP : va_P D vwCl (W_M q k S_5) H) (hD : va_D A (W_M q k S_5)) (hS : va_S A s.heap H locs) (ls : Array Slot) (hl : lv_has ls 2 [(0, .ref (q 0))]), W p l e ({ frames := 0, cells := 0, slots := 0, locals := 0 } : Room) s m ([.ref (q 0)] : List Value).toArray below meth c H locs 0 0 (MQ below (va_Qi (fun r u => (r, u) = Z) (fun u t => va_P D vwCl (W_M q k u) t.heap) A) ([.ref (q 0)] : List Value).toArray s 0 0 A) (F0 m 48 ls []) := by
    intro S_5   H locs hZ hP hD hS ls hl
    unfold f_X12_back_48 at hZ
    refine lv_iconst (v := (0 : Int32)) hx hb dX12_back_48 (by decide) ?_
    refine lv_istore_n (lv' := [(1, .int (0 : Int32)), (0, .ref (q 0))]) hx hb dX12_back_49 rfl hl (by decide) rfl (fun ls hl => ?_)
    obtain ⟨r_8, hw, hza_8⟩ := jx_b_some hZ
    have l_8 : ∀ (nn : Nat) (x1_6 : Int32) (S_7 : St) (H : Heap) (locs : List Loc) (hw : jx_w (g_X12_back_50) nn (x1_6, S_7) = some r_8) (hP : va_P D vwCl (W_M q k S_7) H) (hD : va_D A (W_M q k S_7)) (hS : va_S A s.heap H locs) (ls : Array Slot) (hl : lv_has ls 2 [(0, .ref (q 0)), (1, .int x1_6)]), W p l e ({ frames := 0, cells := 0, slots := 0, locals := 0 } : Room) s m ([.ref (q 0)] : List Value).toArray below meth c H locs 0 0 (MQ below (va_Qi (fun r u => (r, u) = Z) (fun u t => va_P D vwCl (W_M q k u) t.heap) A) ([.ref (q 0)] : List Value).toArray s 0 0 A) (F0 m 50 ls []) := by
      intro nn
      induction nn with
      | zero =>
        intro x1_6 S_7 H locs hw hP hD hS ls hl
        exact jx_w_zero hw
      | succ n_8 ih_8 =>
        intro x1_6 S_7 H locs hw hP hD hS ls hl
        obtain ⟨o_8, hZ, hk_8⟩ := jx_w_succ hw
        have hZ : b_X12_back_50 x1_6 S_7 = some o_8 := hZ
        unfold b_X12_back_50 at hZ
        refine lv_iload_n hx hb dX12_back_50 rfl (lv_at hl 1 rfl) ?_
        refine lv_aload_n hx hb dX12_back_51 rfl (lv_at hl 0 rfl) ?_
        refine gf_12_imageThings hx hb hts in12 hown hK hP (hts (.fieldLink RX12 345 "CoinsOfLastModel" "imageThings" "I") (List.mem_of_getElem? (i := 5) rfl)) dX12_back_52 ?_
        refine lv_icmp_ge (tgt := 76) hx hb dX12_back_55 (by decide) (fun c_23 => ?_) (fun c_23 => ?_)
        · have hZ := jx_i_pos c_23 hZ
          have ho := Option.some.inj hZ
          subst ho
          have hE := hza_8
          rw [← (show S_7 = r_8 from hk_8)] at hE
          have hZ : f_X12_back_76 S_7 = some Z := hE
          exact j76 S_7 _ _ hZ hP hD hS _ (lv_sub hl [0] rfl)
        · have hZ := jx_i_neg c_23 hZ
          refine lv_aload_n hx hb dX12_back_58 rfl (lv_at hl 0 rfl) ?_
          refine gf_12_many hx hb hts in12 hown hK hP (hts (.fieldLink RX12 34 "CoinsOfLastModel" "many" "[I") (List.mem_of_getElem? (i := 6) rfl)) dX12_back_59 ?_
          refine lv_iload_n hx hb dX12_back_62 rfl (lv_at hl 1 rfl) ?_
          refine lv_aload_n hx hb dX12_back_63 rfl (lv_at hl 0 rfl) ?_
          refine gf_12_imageMany hx hb hts in12 hown hK hP (hts (.fieldLink RX12 90 "CoinsOfLastModel" "imageMany" "[I") (List.mem_of_getElem? (i := 7) rfl)) dX12_back_64 ?_
          refine lv_iload_n hx hb dX12_back_67 rfl (lv_at hl 1 rfl) ?_
          obtain ⟨c_25, hZ⟩ := jx_a_some hZ
          refine M_iald hx hb hK hP wM_27 c_25 dX12_back_68 ?_
          obtain ⟨c_26, hZ⟩ := jx_a_some hZ
          obtain ⟨S_27, e_S_27, hZ⟩ := jx_l_some hZ
          refine M_iast hx hb hK hP hD hS wM_9 (fun _ => wMs_9) c_26 e_S_27 dX12_back_69 (fun H locs hP hD hS => ?_)
          obtain ⟨x1_28, e_x1_28, hZ⟩ := jx_l_some hZ
          refine lv_iinc (v := x1_28) (lv' := [(1, .int x1_28), (0, .ref (q 0))]) hx hb dX12_back_70 hl (k := 1) rfl (by rw [e_x1_28]; rfl) (by decide) rfl (fun ls hl => ?_)
          refine lv_goto (tgt := 50) hx hb dX12_back_73 (by decide) ?_
          have ho := Option.some.inj hZ
          subst ho
          exact ih_8 x1_28 S_27 _ _ hk_8 hP hD hS _ (lv_sub hl [1, 0] rfl)
    exact l_8 FU (0 : Int32) S_5 _ _ hw hP hD hS _ (lv_sub hl [1, 0] rfl)
  unfold f_X12_back at hZ
  refine lv_aload_n hx hb dX12_back_0 rfl (lv_at hl 0 rfl) ?_
  refine gf_12_hasImage hx hb hts in12 hown hK hP (hts (.fieldLink RX12 338 "CoinsOfLastModel" "hasImage" "Z") (List.mem_of_getElem? (i := 1) rfl)) dX12_back_1 ?_
  refine lv_if_ne (tgt := 10) hx hb dX12_back_4 (by decide) (fun c_1 => ?_) (fun c_1 => ?_)
  · have hZ := jx_i_neg c_1 hZ
    refine lv_iconst (v := (0 : Int32)) hx hb dX12_back_10 (by decide) ?_
    refine lv_istore_n (lv' := [(1, .int (0 : Int32)), (0, .ref (q 0))]) hx hb dX12_back_11 rfl hl (by decide) rfl (fun ls hl => ?_)
    obtain ⟨r_4, hw, hza_4⟩ := jx_b_some hZ
    have l_4 : ∀ (nn : Nat) (x1_2 : Int32) (S_3 : St) (H : Heap) (locs : List Loc) (hw : jx_w (g_X12_back_12) nn (x1_2, S_3) = some r_4) (hP : va_P D vwCl (W_M q k S_3) H) (hD : va_D A (W_M q k S_3)) (hS : va_S A s.heap H locs) (ls : Array Slot) (hl : lv_has ls 2 [(0, .ref (q 0)), (1, .int x1_2)]), W p l e ({ frames := 0, cells := 0, slots := 0, locals := 0 } : Room) s m ([.ref (q 0)] : List Value).toArray below meth c H locs 0 0 (MQ below (va_Qi (fun r u => (r, u) = Z) (fun u t => va_P D vwCl (W_M q k u) t.heap) A) ([.ref (q 0)] : List Value).toArray s 0 0 A) (F0 m 12 ls []) := by
      intro nn
      induction nn with
      | zero =>
        intro x1_2 S_3 H locs hw hP hD hS ls hl
        exact jx_w_zero hw
      | succ n_4 ih_4 =>
        intro x1_2 S_3 H locs hw hP hD hS ls hl
        obtain ⟨o_4, hZ, hk_4⟩ := jx_w_succ hw
        have hZ : b_X12_back_12 x1_2 S_3 = some o_4 := hZ
        have j41i12 : ∀ (x1_43 : Int32) (s1_43 : Int32) (s2_43 : Int32) (S_43 : St)  (o_4 : (Int32 × St) ⊕ (St)) (hk_4 : jx_k (g_X12_back_12) n_4 r_4 o_4) (H : Heap) (locs : List Loc) (hZ : f_X12_back_41i12 x1_43 s1_43 s2_43 S_43 = some o_4) (hP : va_P D vwCl (W_M q k S_43) H) (hD : va_D A (W_M q k S_43)) (hS : va_S A s.heap H locs) (ls : Array Slot) (hl : lv_has ls 2 [(0, .ref (q 0)), (1, .int x1_43)]), W p l e ({ frames := 0, cells := 0, slots := 0, locals := 0 } : Room) s m ([.ref (q 0)] : List Value).toArray below meth c H locs 0 0 (MQ below (va_Qi (fun r u => (r, u) = Z) (fun u t => va_P D vwCl (W_M q k u) t.heap) A) ([.ref (q 0)] : List Value).toArray s 0 0 A) (F0 m 41 ls [.int s2_43, .int s1_43, .ref (q 5)]) := by
          intro x1_43 s1_43 s2_43 S_43  o_4 hk_4 H locs hZ hP hD hS ls hl
          unfold f_X12_back_41i12 at hZ
          obtain ⟨c_44, hZ⟩ := jx_a_some hZ
          obtain ⟨S_45, e_S_45, hZ⟩ := jx_l_some hZ
          refine M_iast hx hb hK hP hD hS wM_5 (fun _ => wMs_5) c_44 e_S_45 dX12_back_41 (fun H locs hP hD hS => ?_)
          obtain ⟨x1_46, e_x1_46, hZ⟩ := jx_l_some hZ
          refine lv_iinc (v := x1_46) (lv' := [(1, .int x1_46), (0, .ref (q 0))]) hx hb dX12_back_42 hl (k := 1) rfl (by rw [e_x1_46]; rfl) (by decide) rfl (fun ls hl => ?_)
          refine lv_goto (tgt := 12) hx hb dX12_back_45 (by decide) ?_
          have ho := Option.some.inj hZ
          subst ho
          exact ih_4 x1_46 S_45 _ _ hk_4 hP hD hS _ (lv_sub hl [1, 0] rfl)
        unfold b_X12_back_12 at hZ
        refine lv_iload_n hx hb dX12_back_12 rfl (lv_at hl 1 rfl) ?_
        refine lv_bipush (v := (8 : Int32)) hx hb dX12_back_13 (by decide) ?_
        refine lv_icmp_ge (tgt := 48) hx hb dX12_back_15 (by decide) (fun c_40 => ?_) (fun c_40 => ?_)
        · have hZ := jx_i_pos c_40 hZ
          have ho := Option.some.inj hZ
          subst ho
          have hE := hza_4
          rw [← (show S_3 = r_4 from hk_4)] at hE
          have hZ : f_X12_back_48 S_3 = some Z := hE
          exact j48 S_3 _ _ hZ hP hD hS _ (lv_sub hl [0] rfl)
        · have hZ := jx_i_neg c_40 hZ
          refine lv_aload_n hx hb dX12_back_18 rfl (lv_at hl 0 rfl) ?_
          refine gf_12_purse hx hb hts in12 hown hK hP (hts (.fieldLink RX12 22 "CoinsOfLastModel" "purse" "[I") (List.mem_of_getElem? (i := 2) rfl)) dX12_back_19 ?_
          refine lv_iload_n hx hb dX12_back_22 rfl (lv_at hl 1 rfl) ?_
          refine lv_iload_n hx hb dX12_back_23 rfl (lv_at hl 1 rfl) ?_
          refine lv_aload_n hx hb dX12_back_24 rfl (lv_at hl 0 rfl) ?_
          refine gf_12_imageSorts hx hb hts in12 hown hK hP (hts (.fieldLink RX12 342 "CoinsOfLastModel" "imageSorts" "I") (List.mem_of_getElem? (i := 3) rfl)) dX12_back_25 ?_
          refine lv_icmp_ge (tgt := 40) hx hb dX12_back_28 (by decide) (fun c_42 => ?_) (fun c_42 => ?_)
          · have hZ := jx_i_pos c_42 hZ
            refine lv_iconst (v := (0 : Int32)) hx hb dX12_back_40 (by decide) ?_
            exact j41i12 x1_2 x1_2 (0 : Int32) S_3 _ hk_4 _ _ hZ hP hD hS _ (lv_sub hl [0, 1] rfl)
          · have hZ := jx_i_neg c_42 hZ
            refine lv_aload_n hx hb dX12_back_31 rfl (lv_at hl 0 rfl) ?_
            refine gf_12_imagePurse hx hb hts in12 hown hK hP (hts (.fieldLink RX12 87 "CoinsOfLastModel" "imagePurse" "[I") (List.mem_of_getElem? (i := 4) rfl)) dX12_back_32 ?_
            refine lv_iload_n hx hb dX12_back_35 rfl (lv_at hl 1 rfl) ?_
            obtain ⟨c_48, hZ⟩ := jx_a_some hZ
            refine M_iald hx hb hK hP wM_26 c_48 dX12_back_36 ?_
            refine lv_goto (tgt := 41) hx hb dX12_back_37 (by decide) ?_
            exact j41i12 x1_2 x1_2 (S_3.1 26 (Int32.toNatClampNeg x1_2)) S_3 _ hk_4 _ _ hZ hP hD hS _ (lv_sub hl [0, 1] rfl)
    exact l_4 FU (0 : Int32) S _ _ hw hP hD hS _ (lv_sub hl [1, 0] rfl)
  · have hZ := jx_i_pos c_1 hZ
    refine lv_bipush (v := (-5 : Int32)) hx hb dX12_back_7 (by decide) ?_
    exact leave_i hx hb hr hlocks hP hS hZ dX12_back_9
-- X12_over
def f_X12_over (x0 : Int32) (S : St) : Option (Int32 × St) :=
  (if x0 = (0 : Int32) then some ((-1 : Int32), S) else if x0 = (3 : Int32) then some ((2 : Int32), S) else if x0 = (5 : Int32) then some ((1 : Int32), S) else if x0 = (6 : Int32) then some ((4 : Int32), S) else if x0 = (7 : Int32) then some ((3 : Int32), S) else some ((0 : Int32), S))
set_option maxHeartbeats 4000000 in
set_option maxRecDepth 100000 in
theorem c_X12_over (l : Launch) (D : va_G) (q : Nat → Nat) (k : CI) (x0 : Int32) (S : St) (sz : Nat) (Z : Int32 × St) (hZ : f_X12_over x0 S = some Z) : MetI W_M SM l yX12_over wsX12_over { frames := 0, cells := 0, slots := 0, locals := 0 } [.int x0] D q k S sz Z := by
  refine enter (cc := cX12_over) (maxL := 1) (ret := some .int) (by decide) rfl (Nat.le_of_ble_eq_true rfl) ?_
  intro p e s m below meth c A ls hx hb hr hts hown hlocks hml hP hK hD hA hS hsp hAe hl
  have hown : s.vm.findClass RX12 = some m.cls := hown
  have hl : lv_has ls 1 [(0, .int x0)] := hl
  unfold f_X12_over at hZ
  refine lv_iload_n hx hb dX12_over_0 rfl (lv_at hl 0 rfl) ?_
  by_cases c_1 : x0 = (0 : Int32)
  · have hZ := jx_i_pos c_1 hZ
    refine lv_tableIn (tgt := 48) hx hb dX12_over_1 (by rw [c_1]; decide) (by rw [c_1]; decide) (by rw [c_1]; rfl) (by decide) ?_
    refine lv_iconst (v := (-1 : Int32)) hx hb dX12_over_48 (by decide) ?_
    exact leave_i hx hb hr hlocks hP hS hZ dX12_over_49
  have hZ := jx_i_neg c_1 hZ
  by_cases c_2 : x0 = (3 : Int32)
  · have hZ := jx_i_pos c_2 hZ
    refine lv_tableIn (tgt := 50) hx hb dX12_over_1 (by rw [c_2]; decide) (by rw [c_2]; decide) (by rw [c_2]; rfl) (by decide) ?_
    refine lv_iconst (v := (2 : Int32)) hx hb dX12_over_50 (by decide) ?_
    exact leave_i hx hb hr hlocks hP hS hZ dX12_over_51
  have hZ := jx_i_neg c_2 hZ
  by_cases c_3 : x0 = (5 : Int32)
  · have hZ := jx_i_pos c_3 hZ
    refine lv_tableIn (tgt := 52) hx hb dX12_over_1 (by rw [c_3]; decide) (by rw [c_3]; decide) (by rw [c_3]; rfl) (by decide) ?_
    refine lv_iconst (v := (1 : Int32)) hx hb dX12_over_52 (by decide) ?_
    exact leave_i hx hb hr hlocks hP hS hZ dX12_over_53
  have hZ := jx_i_neg c_3 hZ
  by_cases c_4 : x0 = (6 : Int32)
  · have hZ := jx_i_pos c_4 hZ
    refine lv_tableIn (tgt := 54) hx hb dX12_over_1 (by rw [c_4]; decide) (by rw [c_4]; decide) (by rw [c_4]; rfl) (by decide) ?_
    refine lv_iconst (v := (4 : Int32)) hx hb dX12_over_54 (by decide) ?_
    exact leave_i hx hb hr hlocks hP hS hZ dX12_over_55
  have hZ := jx_i_neg c_4 hZ
  by_cases c_5 : x0 = (7 : Int32)
  · have hZ := jx_i_pos c_5 hZ
    refine lv_tableIn (tgt := 56) hx hb dX12_over_1 (by rw [c_5]; decide) (by rw [c_5]; decide) (by rw [c_5]; rfl) (by decide) ?_
    refine lv_iconst (v := (3 : Int32)) hx hb dX12_over_56 (by decide) ?_
    exact leave_i hx hb hr hlocks hP hS hZ dX12_over_57
  have hZ := jx_i_neg c_5 hZ
  refine lv_tableD (tgt := 58) hx hb dX12_over_1 ?_ (by decide) ?_
  · have t_0 : ¬ Int32.toInt x0 = 0 := lv_neT c_1 rfl
    have t_1 : ¬ Int32.toInt x0 = 3 := lv_neT c_2 rfl
    have t_2 : ¬ Int32.toInt x0 = 5 := lv_neT c_3 rfl
    have t_3 : ¬ Int32.toInt x0 = 6 := lv_neT c_4 rfl
    have t_4 : ¬ Int32.toInt x0 = 7 := lv_neT c_5 rfl
    by_cases a1 : Int32.toInt x0 < 0
    · exact Or.inl (Or.inl a1)
    by_cases a2 : 7 < Int32.toInt x0
    · exact Or.inl (Or.inr a2)
    refine Or.inr ⟨a1, a2, ?_⟩
    rcases (show Int32.toInt x0 = 1 ∨ Int32.toInt x0 = 2 ∨ Int32.toInt x0 = 4 by omega) with h | h | h <;> (rw [h]; rfl)
  · refine lv_iconst (v := (0 : Int32)) hx hb dX12_over_58 (by decide) ?_
    exact leave_i hx hb hr hlocks hP hS hZ dX12_over_59
-- X12_runs
def f_X12_runs_19 (S_2 : St) : Option (St) :=
  jx_l (u1 S_2 0 50 ((S_2.1 0 50) + (1 : Int32))) (fun S_3 => some S_3)
def f_X12_runs (x1 : Int32) (S : St) : Option (St) :=
  (if (24 : Int32) ≤ (S.1 0 50) then f_X12_runs_19 S else jx_a (S.1 0 50) 24 (jx_l (u1 S 30 (Int32.toNatClampNeg (S.1 0 50)) x1) (fun S_6 => f_X12_runs_19 S_6)))
set_option maxHeartbeats 4000000 in
set_option maxRecDepth 100000 in
theorem c_X12_runs (l : Launch) (D : va_G) (q : Nat → Nat) (k : CI) (x1 : Int32) (S : St) (sz : Nat) (Z : St) (hZ : f_X12_runs x1 S = some Z) : MetV W_M SM l yX12_runs wsX12_runs { frames := 0, cells := 0, slots := 0, locals := 0 } [.ref (q 0), .int x1] D q k S sz Z := by
  refine enter (cc := cX12_runs) (maxL := 2) (ret := none) (by decide) rfl (Nat.le_of_ble_eq_true rfl) ?_
  intro p e s m below meth c A ls hx hb hr hts hown hlocks hml hP hK hD hA hS hsp hAe hl
  have hown : s.vm.findClass RX12 = some m.cls := hown
  have hl : lv_has ls 2 [(0, .ref (q 0)), (1, .int x1)] := hl
  have in12 : ∀ w ∈ wsX120, w ∈ wsX12_runs := fun _ h => (List.mem_cons_of_mem _ (List.mem_append_right _ h))
  have j19 : ∀ (S_2 : St)  (H : Heap) (locs : List Loc) (hZ : f_X12_runs_19 S_2 = some Z) (hP : va_P D vwCl (W_M q k S_2) H) (hD : va_D A (W_M q k S_2)) (hS : va_S A s.heap H locs) (ls : Array Slot) (hl : lv_has ls 2 [(0, .ref (q 0))]), W p l e ({ frames := 0, cells := 0, slots := 0, locals := 0 } : Room) s m ([.ref (q 0), .int x1] : List Value).toArray below meth c H locs 0 0 (MQ below (va_Qv (fun u => u = Z) (fun u t => va_P D vwCl (W_M q k u) t.heap) A) ([.ref (q 0), .int x1] : List Value).toArray s 0 0 A) (F0 m 19 ls []) := by
    intro S_2   H locs hZ hP hD hS ls hl
    unfold f_X12_runs_19 at hZ
    refine lv_aload_n hx hb dX12_runs_19 rfl (lv_at hl 0 rfl) ?_
    refine lv_dup hx hb dX12_runs_20 rfl ?_
    refine gf_12_ran hx hb hts in12 hown hK hP (hts (.fieldLink RX12 348 "CoinsOfLastModel" "ran" "I") (List.mem_of_getElem? (i := 1) rfl)) dX12_runs_21 ?_
    refine lv_iconst (v := (1 : Int32)) hx hb dX12_runs_24 (by decide) ?_
    refine lv_iadd hx hb dX12_runs_25 ?_
    obtain ⟨S_3, e_S_3, hZ⟩ := jx_l_some hZ
    refine pf_12_ran hx hb hts in12 hown hK hP hD hS (hts (.fieldLink RX12 348 "CoinsOfLastModel" "ran" "I") (List.mem_of_getElem? (i := 1) rfl)) e_S_3 dX12_runs_26 (fun H locs hP hD hS => ?_)
    exact leave_v hx hb hr hlocks hP hS hZ dX12_runs_29
  unfold f_X12_runs at hZ
  refine lv_aload_n hx hb dX12_runs_0 rfl (lv_at hl 0 rfl) ?_
  refine gf_12_ran hx hb hts in12 hown hK hP (hts (.fieldLink RX12 348 "CoinsOfLastModel" "ran" "I") (List.mem_of_getElem? (i := 1) rfl)) dX12_runs_1 ?_
  refine lv_bipush (v := (24 : Int32)) hx hb dX12_runs_4 (by decide) ?_
  refine lv_icmp_ge (tgt := 19) hx hb dX12_runs_6 (by decide) (fun c_1 => ?_) (fun c_1 => ?_)
  · have hZ := jx_i_pos c_1 hZ
    exact j19 S _ _ hZ hP hD hS _ (lv_sub hl [0] rfl)
  · have hZ := jx_i_neg c_1 hZ
    refine lv_aload_n hx hb dX12_runs_9 rfl (lv_at hl 0 rfl) ?_
    refine gf_12_trace hx hb hts in12 hown hK hP (hts (.fieldLink RX12 99 "CoinsOfLastModel" "trace" "[I") (List.mem_of_getElem? (i := 2) rfl)) dX12_runs_10 ?_
    refine lv_aload_n hx hb dX12_runs_13 rfl (lv_at hl 0 rfl) ?_
    refine gf_12_ran hx hb hts in12 hown hK hP (hts (.fieldLink RX12 348 "CoinsOfLastModel" "ran" "I") (List.mem_of_getElem? (i := 1) rfl)) dX12_runs_14 ?_
    refine lv_iload_n hx hb dX12_runs_17 rfl (lv_at hl 1 rfl) ?_
    obtain ⟨c_5, hZ⟩ := jx_a_some hZ
    obtain ⟨S_6, e_S_6, hZ⟩ := jx_l_some hZ
    refine M_iast hx hb hK hP hD hS wM_30 (fun _ => wMs_30) c_5 e_S_6 dX12_runs_18 (fun H locs hP hD hS => ?_)
    exact j19 S_6 _ _ hZ hP hD hS _ (lv_sub hl [0] rfl)
theorem hd_X12_over : yX12_over.cls ≠ "java/lang/invoke/MethodHandle" ∧ yX12_over.cls ≠ "java/lang/invoke/VarHandle" ∧ (parseMethodDescriptor yX12_over.desc).map (fun d => d.parameters.length) = some 1 := by decide +kernel
theorem hd_X12_paysIn : yX12_paysIn.cls = RX12 ∧ yX12_paysIn.cls ≠ "java/lang/invoke/MethodHandle" ∧ yX12_paysIn.cls ≠ "java/lang/invoke/VarHandle" ∧ (parseMethodDescriptor yX12_paysIn.desc).map (fun d => d.parameters.length) = some 2 := by decide +kernel
theorem hd_X12_runs : yX12_runs.cls = RX12 ∧ yX12_runs.cls ≠ "java/lang/invoke/MethodHandle" ∧ yX12_runs.cls ≠ "java/lang/invoke/VarHandle" ∧ (parseMethodDescriptor yX12_runs.desc).map (fun d => d.parameters.length) = some 1 := by decide +kernel
-- X12_paysIn
def fb_X12_paysIn (rc : Int32 → Int32 → St → Option (Int32 × St)) (x1 : Int32) (x2 : Int32) (S : St) : Option (Int32 × St) :=
  (if x1 = (1 : Int32) then jx_b (f_X12_runs (20 : Int32) S) (fun S_20 => jx_b2 (f_X12_over x1 S_20) (fun r_24 S_22 => jx_b2 (rc r_24 x2 S_22) (fun r_27 S_25 => some ((r_27 + (3 : Int32)), S_25)))) else (if x1 = (6 : Int32) then jx_b (f_X12_runs (70 : Int32) S) (fun S_12 => jx_b2 (f_X12_over x1 S_12) (fun r_16 S_14 => jx_b2 (rc r_16 x2 S_14) (fun r_19 S_17 => some ((r_19 * (2 : Int32)), S_17)))) else (if x1 ≤ 0 then jx_b (f_X12_runs (1 : Int32) S) (fun S_4 => some ((x2 + (S_4.1 0 52)), S_4)) else jx_b2 (f_X12_over x1 S) (fun r_8 S_6 => jx_b2 (rc r_8 x2 S_6) (fun r_11 S_9 => some (r_11, S_9))))))
def f_X12_paysIn : Nat → Int32 → Int32 → St → Option (Int32 × St)
  | 0, _, _, _ => none
  | n + 1, x1, x2, S => fb_X12_paysIn (f_X12_paysIn n) x1 x2 S
set_option maxHeartbeats 4000000 in
set_option maxRecDepth 100000 in
theorem cb_X12_paysIn (l : Launch) (D : va_G) (q : Nat → Nat) (k : CI) (rc : Int32 → Int32 → St → Option (Int32 × St)) (fr lo : Nat) (hrc : ∀ (x1 : Int32) (x2 : Int32) (S : St) (sz : Nat) (Z : Int32 × St), rc x1 x2 S = some Z → MetI W_M SM l yX12_paysIn wsX12_paysIn { frames := fr, cells := 0, slots := 0, locals := lo } [.ref (q 0), .int x1, .int x2] D q k S sz Z) (hB : 1 ≤ fr) (hC : 21 ≤ lo) (x1 : Int32) (x2 : Int32) (S : St) (sz : Nat) (Z : Int32 × St) (hZ : fb_X12_paysIn rc x1 x2 S = some Z) : MetI W_M SM l yX12_paysIn wsX12_paysIn { frames := fr + 1, cells := 0, slots := 0, locals := lo + 22 } [.ref (q 0), .int x1, .int x2] D q k S sz Z := by
  refine enter (cc := cX12_paysIn) (maxL := 3) (ret := some .int) (by decide) rfl (Nat.le_of_ble_eq_true rfl) ?_
  intro p e s m below meth c A ls hx hb hr hts hown hlocks hml hP hK hD hA hS hsp hAe hl
  have hown : s.vm.findClass RX12 = some m.cls := hown
  have hl : lv_has ls 3 [(0, .ref (q 0)), (1, .int x1), (2, .int x2)] := hl
  have in12 : ∀ w ∈ wsX120, w ∈ wsX12_paysIn := fun _ h => (List.mem_cons_of_mem _ (List.mem_append_right _ h))
  unfold fb_X12_paysIn at hZ
  refine lv_iload_n hx hb dX12_paysIn_0 rfl (lv_at hl 1 rfl) ?_
  refine lv_iconst (v := (1 : Int32)) hx hb dX12_paysIn_1 (by decide) ?_
  refine lv_icmp_ne (tgt := 23) hx hb dX12_paysIn_2 (by decide) (fun c_1 => ?_) (fun c_1 => ?_)
  · have hZ := jx_i_neg c_1 hZ
    refine lv_iload_n hx hb dX12_paysIn_23 rfl (lv_at hl 1 rfl) ?_
    refine lv_bipush (v := (6 : Int32)) hx hb dX12_paysIn_24 (by decide) ?_
    refine lv_icmp_ne (tgt := 47) hx hb dX12_paysIn_26 (by decide) (fun c_2 => ?_) (fun c_2 => ?_)
    · have hZ := jx_i_neg c_2 hZ
      refine lv_iload_n hx hb dX12_paysIn_47 rfl (lv_at hl 1 rfl) ?_
      refine lv_if_le (tgt := 61) hx hb dX12_paysIn_48 (by decide) (fun c_3 => ?_) (fun c_3 => ?_)
      · have hZ := jx_i_pos c_3 hZ
        refine lv_aload_n hx hb dX12_paysIn_61 rfl (lv_at hl 0 rfl) ?_
        refine lv_iconst (v := (1 : Int32)) hx hb dX12_paysIn_62 (by decide) ?_
        obtain ⟨S_4, hc_5, hZ⟩ := jx_b_some hZ
        refine call_Vv SM_ok sameM ⟨hx, hb, hml, hown, hts⟩ (c_X12_runs l D q k (1 : Int32) S _ S_4  hc_5) (cwV 1 hts gX12_paysIn_X12_runs rfl rfl rfl hd_X12_runs ⟨by dsimp only; omega, by dsimp only; omega⟩) hK hP hD hS hA hsp (va_recv hK hP (ci := 12) (q0 := 0) rfl wM_0) (As := [.int (1 : Int32)]) rfl hl.1 rfl (Nat.le_of_ble_eq_true rfl) dX12_paysIn_63 ⟨Nat.zero_le _, Nat.zero_le _⟩ (fun H locs hP hD hS => ?_)
        refine lv_iload_n hx hb dX12_paysIn_66 rfl (lv_at hl 2 rfl) ?_
        refine lv_aload_n hx hb dX12_paysIn_67 rfl (lv_at hl 0 rfl) ?_
        refine gf_12_acting hx hb hts in12 hown hK hP (hts (.fieldLink RX12 360 "CoinsOfLastModel" "acting" "I") (List.mem_of_getElem? (i := 1) rfl)) dX12_paysIn_68 ?_
        refine lv_iadd hx hb dX12_paysIn_71 ?_
        exact leave_i hx hb hr hlocks hP hS hZ dX12_paysIn_72
      · have hZ := jx_i_neg c_3 hZ
        refine lv_aload_n hx hb dX12_paysIn_51 rfl (lv_at hl 0 rfl) ?_
        refine lv_iload_n hx hb dX12_paysIn_52 rfl (lv_at hl 1 rfl) ?_
        obtain ⟨r_8, S_6, hc_7, hZ⟩ := jx_b2_some hZ
        refine call_Si SM_ok sameM ⟨hx, hb, hml, hown, hts⟩ (c_X12_over l D q k x1 S _ (r_8, S_6)  hc_7) (va_cwS 1 hts gX12_paysIn_X12_over rfl rfl rfl hd_X12_over ⟨by dsimp only; omega, by dsimp only; omega⟩) hK hP hD hS hA hsp (As := [.int x1]) rfl hl.1 rfl (Nat.le_of_ble_eq_true rfl) dX12_paysIn_53 ⟨Nat.zero_le _, Nat.zero_le _⟩ (fun H locs hP hD hS => ?_)
        refine lv_iload_n hx hb dX12_paysIn_56 rfl (lv_at hl 2 rfl) ?_
        obtain ⟨r_11, S_9, hc_10, hZ⟩ := jx_b2_some hZ
        refine call_Vi SM_ok sameM ⟨hx, hb, hml, hown, hts⟩ (hrc r_8 x2 S_6 _ (r_11, S_9)  hc_10) (cwV 2 hts gX12_paysIn_X12_paysIn rfl rfl rfl hd_X12_paysIn ⟨by dsimp only; omega, by dsimp only; omega⟩) hK hP hD hS hA hsp (va_recv hK hP (ci := 12) (q0 := 0) rfl wM_0) (As := [.int r_8, .int x2]) rfl hl.1 rfl (Nat.le_of_ble_eq_true rfl) dX12_paysIn_57 ⟨Nat.zero_le _, Nat.zero_le _⟩ (fun H locs hP hD hS => ?_)
        exact leave_i hx hb hr hlocks hP hS hZ dX12_paysIn_60
    · have hZ := jx_i_pos c_2 hZ
      refine lv_aload_n hx hb dX12_paysIn_29 rfl (lv_at hl 0 rfl) ?_
      refine lv_bipush (v := (70 : Int32)) hx hb dX12_paysIn_30 (by decide) ?_
      obtain ⟨S_12, hc_13, hZ⟩ := jx_b_some hZ
      refine call_Vv SM_ok sameM ⟨hx, hb, hml, hown, hts⟩ (c_X12_runs l D q k (70 : Int32) S _ S_12  hc_13) (cwV 1 hts gX12_paysIn_X12_runs rfl rfl rfl hd_X12_runs ⟨by dsimp only; omega, by dsimp only; omega⟩) hK hP hD hS hA hsp (va_recv hK hP (ci := 12) (q0 := 0) rfl wM_0) (As := [.int (70 : Int32)]) rfl hl.1 rfl (Nat.le_of_ble_eq_true rfl) dX12_paysIn_32 ⟨Nat.zero_le _, Nat.zero_le _⟩ (fun H locs hP hD hS => ?_)
      refine lv_aload_n hx hb dX12_paysIn_35 rfl (lv_at hl 0 rfl) ?_
      refine lv_iload_n hx hb dX12_paysIn_36 rfl (lv_at hl 1 rfl) ?_
      obtain ⟨r_16, S_14, hc_15, hZ⟩ := jx_b2_some hZ
      refine call_Si SM_ok sameM ⟨hx, hb, hml, hown, hts⟩ (c_X12_over l D q k x1 S_12 _ (r_16, S_14)  hc_15) (va_cwS 1 hts gX12_paysIn_X12_over rfl rfl rfl hd_X12_over ⟨by dsimp only; omega, by dsimp only; omega⟩) hK hP hD hS hA hsp (As := [.int x1]) rfl hl.1 rfl (Nat.le_of_ble_eq_true rfl) dX12_paysIn_37 ⟨Nat.zero_le _, Nat.zero_le _⟩ (fun H locs hP hD hS => ?_)
      refine lv_iload_n hx hb dX12_paysIn_40 rfl (lv_at hl 2 rfl) ?_
      obtain ⟨r_19, S_17, hc_18, hZ⟩ := jx_b2_some hZ
      refine call_Vi SM_ok sameM ⟨hx, hb, hml, hown, hts⟩ (hrc r_16 x2 S_14 _ (r_19, S_17)  hc_18) (cwV 2 hts gX12_paysIn_X12_paysIn rfl rfl rfl hd_X12_paysIn ⟨by dsimp only; omega, by dsimp only; omega⟩) hK hP hD hS hA hsp (va_recv hK hP (ci := 12) (q0 := 0) rfl wM_0) (As := [.int r_16, .int x2]) rfl hl.1 rfl (Nat.le_of_ble_eq_true rfl) dX12_paysIn_41 ⟨Nat.zero_le _, Nat.zero_le _⟩ (fun H locs hP hD hS => ?_)
      refine lv_iconst (v := (2 : Int32)) hx hb dX12_paysIn_44 (by decide) ?_
      refine lv_imul hx hb dX12_paysIn_45 ?_
      exact leave_i hx hb hr hlocks hP hS hZ dX12_paysIn_46
  · have hZ := jx_i_pos c_1 hZ
    refine lv_aload_n hx hb dX12_paysIn_5 rfl (lv_at hl 0 rfl) ?_
    refine lv_bipush (v := (20 : Int32)) hx hb dX12_paysIn_6 (by decide) ?_
    obtain ⟨S_20, hc_21, hZ⟩ := jx_b_some hZ
    refine call_Vv SM_ok sameM ⟨hx, hb, hml, hown, hts⟩ (c_X12_runs l D q k (20 : Int32) S _ S_20  hc_21) (cwV 1 hts gX12_paysIn_X12_runs rfl rfl rfl hd_X12_runs ⟨by dsimp only; omega, by dsimp only; omega⟩) hK hP hD hS hA hsp (va_recv hK hP (ci := 12) (q0 := 0) rfl wM_0) (As := [.int (20 : Int32)]) rfl hl.1 rfl (Nat.le_of_ble_eq_true rfl) dX12_paysIn_8 ⟨Nat.zero_le _, Nat.zero_le _⟩ (fun H locs hP hD hS => ?_)
    refine lv_aload_n hx hb dX12_paysIn_11 rfl (lv_at hl 0 rfl) ?_
    refine lv_iload_n hx hb dX12_paysIn_12 rfl (lv_at hl 1 rfl) ?_
    obtain ⟨r_24, S_22, hc_23, hZ⟩ := jx_b2_some hZ
    refine call_Si SM_ok sameM ⟨hx, hb, hml, hown, hts⟩ (c_X12_over l D q k x1 S_20 _ (r_24, S_22)  hc_23) (va_cwS 1 hts gX12_paysIn_X12_over rfl rfl rfl hd_X12_over ⟨by dsimp only; omega, by dsimp only; omega⟩) hK hP hD hS hA hsp (As := [.int x1]) rfl hl.1 rfl (Nat.le_of_ble_eq_true rfl) dX12_paysIn_13 ⟨Nat.zero_le _, Nat.zero_le _⟩ (fun H locs hP hD hS => ?_)
    refine lv_iload_n hx hb dX12_paysIn_16 rfl (lv_at hl 2 rfl) ?_
    obtain ⟨r_27, S_25, hc_26, hZ⟩ := jx_b2_some hZ
    refine call_Vi SM_ok sameM ⟨hx, hb, hml, hown, hts⟩ (hrc r_24 x2 S_22 _ (r_27, S_25)  hc_26) (cwV 2 hts gX12_paysIn_X12_paysIn rfl rfl rfl hd_X12_paysIn ⟨by dsimp only; omega, by dsimp only; omega⟩) hK hP hD hS hA hsp (va_recv hK hP (ci := 12) (q0 := 0) rfl wM_0) (As := [.int r_24, .int x2]) rfl hl.1 rfl (Nat.le_of_ble_eq_true rfl) dX12_paysIn_17 ⟨Nat.zero_le _, Nat.zero_le _⟩ (fun H locs hP hD hS => ?_)
    refine lv_iconst (v := (3 : Int32)) hx hb dX12_paysIn_20 (by decide) ?_
    refine lv_iadd hx hb dX12_paysIn_21 ?_
    exact leave_i hx hb hr hlocks hP hS hZ dX12_paysIn_22
theorem c_X12_paysIn (l : Launch) (D : va_G) (q : Nat → Nat) (k : CI) : ∀ (n : Nat) (x1 : Int32) (x2 : Int32) (S : St) (sz : Nat) (Z : Int32 × St) (hZ : f_X12_paysIn n x1 x2 S = some Z), MetI W_M SM l yX12_paysIn wsX12_paysIn { frames := 1 + n, cells := 0, slots := 0, locals := 21 + 22 * n } [.ref (q 0), .int x1, .int x2] D q k S sz Z := by
  intro n
  induction n with
  | zero =>
    intro x1 x2 S sz Z  hZ
    unfold f_X12_paysIn at hZ
    cases hZ
  | succ n ih =>
    intro x1 x2 S sz Z  hZ
    unfold f_X12_paysIn at hZ
    have h := cb_X12_paysIn l D q k (f_X12_paysIn n) (1 + n) (21 + 22 * n) ih (by omega) (by omega) x1 x2 S sz Z  hZ
    rw [show 21 + 22 * n + 22 = 21 + 22 * (n + 1) from by omega] at h
    exact h
theorem hd_X12_swapsIn : yX12_swapsIn.cls = RX12 ∧ yX12_swapsIn.cls ≠ "java/lang/invoke/MethodHandle" ∧ yX12_swapsIn.cls ≠ "java/lang/invoke/VarHandle" ∧ (parseMethodDescriptor yX12_swapsIn.desc).map (fun d => d.parameters.length) = some 2 := by decide +kernel
-- X12_swapsIn
def fb_X12_swapsIn (rc : Int32 → Int32 → St → Option (Int32 × St)) (x1 : Int32) (x2 : Int32) (S : St) : Option (Int32 × St) :=
  (if x1 = (3 : Int32) then jx_b (f_X12_runs (40 : Int32) S) (fun S_24 => jx_b2 (f_X12_over x1 S_24) (fun r_28 S_26 => jx_b2 (rc r_28 x2 S_26) (fun r_31 S_29 => some ((r_31 * (3 : Int32)), S_29)))) else (if x1 = (4 : Int32) then jx_b (f_X12_runs (50 : Int32) S) (fun S_12 => jx_b2 (f_X12_over x1 S_12) (fun r_16 S_14 => jx_b2 (rc r_16 x2 S_14) (fun r_19 S_17 => jx_a (S_17.1 0 52) 50 (jx_b2 (f_X12_paysIn 8 (S_17.1 29 (Int32.toNatClampNeg (S_17.1 0 52))) (2 : Int32) S_17) (fun r_23 S_21 => some ((r_19 - r_23), S_21)))))) else (if x1 ≤ 0 then jx_b (f_X12_runs (11 : Int32) S) (fun S_4 => some ((x2 ^^^ (S_4.1 0 52)), S_4)) else jx_b2 (f_X12_over x1 S) (fun r_8 S_6 => jx_b2 (rc r_8 x2 S_6) (fun r_11 S_9 => some (r_11, S_9))))))
def f_X12_swapsIn : Nat → Int32 → Int32 → St → Option (Int32 × St)
  | 0, _, _, _ => none
  | n + 1, x1, x2, S => fb_X12_swapsIn (f_X12_swapsIn n) x1 x2 S
set_option maxHeartbeats 4000000 in
set_option maxRecDepth 100000 in
theorem cb_X12_swapsIn (l : Launch) (D : va_G) (q : Nat → Nat) (k : CI) (rc : Int32 → Int32 → St → Option (Int32 × St)) (fr lo : Nat) (hrc : ∀ (x1 : Int32) (x2 : Int32) (S : St) (sz : Nat) (Z : Int32 × St), rc x1 x2 S = some Z → MetI W_M SM l yX12_swapsIn wsX12_swapsIn { frames := fr, cells := 0, slots := 0, locals := lo } [.ref (q 0), .int x1, .int x2] D q k S sz Z) (hB : 10 ≤ fr) (hC : 219 ≤ lo) (x1 : Int32) (x2 : Int32) (S : St) (sz : Nat) (Z : Int32 × St) (hZ : fb_X12_swapsIn rc x1 x2 S = some Z) : MetI W_M SM l yX12_swapsIn wsX12_swapsIn { frames := fr + 1, cells := 0, slots := 0, locals := lo + 23 } [.ref (q 0), .int x1, .int x2] D q k S sz Z := by
  refine enter (cc := cX12_swapsIn) (maxL := 4) (ret := some .int) (by decide) rfl (Nat.le_of_ble_eq_true rfl) ?_
  intro p e s m below meth c A ls hx hb hr hts hown hlocks hml hP hK hD hA hS hsp hAe hl
  have hown : s.vm.findClass RX12 = some m.cls := hown
  have hl : lv_has ls 4 [(0, .ref (q 0)), (1, .int x1), (2, .int x2)] := hl
  have in12 : ∀ w ∈ wsX120, w ∈ wsX12_swapsIn := fun _ h => (List.mem_cons_of_mem _ (List.mem_append_right _ h))
  unfold fb_X12_swapsIn at hZ
  refine lv_iload_n hx hb dX12_swapsIn_0 rfl (lv_at hl 1 rfl) ?_
  refine lv_iconst (v := (3 : Int32)) hx hb dX12_swapsIn_1 (by decide) ?_
  refine lv_icmp_ne (tgt := 23) hx hb dX12_swapsIn_2 (by decide) (fun c_1 => ?_) (fun c_1 => ?_)
  · have hZ := jx_i_neg c_1 hZ
    refine lv_iload_n hx hb dX12_swapsIn_23 rfl (lv_at hl 1 rfl) ?_
    refine lv_iconst (v := (4 : Int32)) hx hb dX12_swapsIn_24 (by decide) ?_
    refine lv_icmp_ne (tgt := 61) hx hb dX12_swapsIn_25 (by decide) (fun c_2 => ?_) (fun c_2 => ?_)
    · have hZ := jx_i_neg c_2 hZ
      refine lv_iload_n hx hb dX12_swapsIn_61 rfl (lv_at hl 1 rfl) ?_
      refine lv_if_le (tgt := 75) hx hb dX12_swapsIn_62 (by decide) (fun c_3 => ?_) (fun c_3 => ?_)
      · have hZ := jx_i_pos c_3 hZ
        refine lv_aload_n hx hb dX12_swapsIn_75 rfl (lv_at hl 0 rfl) ?_
        refine lv_bipush (v := (11 : Int32)) hx hb dX12_swapsIn_76 (by decide) ?_
        obtain ⟨S_4, hc_5, hZ⟩ := jx_b_some hZ
        refine call_Vv SM_ok sameM ⟨hx, hb, hml, hown, hts⟩ (c_X12_runs l D q k (11 : Int32) S _ S_4  hc_5) (cwV 1 hts gX12_swapsIn_X12_runs rfl rfl rfl hd_X12_runs ⟨by dsimp only; omega, by dsimp only; omega⟩) hK hP hD hS hA hsp (va_recv hK hP (ci := 12) (q0 := 0) rfl wM_0) (As := [.int (11 : Int32)]) rfl hl.1 rfl (Nat.le_of_ble_eq_true rfl) dX12_swapsIn_78 ⟨Nat.zero_le _, Nat.zero_le _⟩ (fun H locs hP hD hS => ?_)
        refine lv_iload_n hx hb dX12_swapsIn_81 rfl (lv_at hl 2 rfl) ?_
        refine lv_aload_n hx hb dX12_swapsIn_82 rfl (lv_at hl 0 rfl) ?_
        refine gf_12_acting hx hb hts in12 hown hK hP (hts (.fieldLink RX12 360 "CoinsOfLastModel" "acting" "I") (List.mem_of_getElem? (i := 2) rfl)) dX12_swapsIn_83 ?_
        refine lv_ixor hx hb dX12_swapsIn_86 ?_
        exact leave_i hx hb hr hlocks hP hS hZ dX12_swapsIn_87
      · have hZ := jx_i_neg c_3 hZ
        refine lv_aload_n hx hb dX12_swapsIn_65 rfl (lv_at hl 0 rfl) ?_
        refine lv_iload_n hx hb dX12_swapsIn_66 rfl (lv_at hl 1 rfl) ?_
        obtain ⟨r_8, S_6, hc_7, hZ⟩ := jx_b2_some hZ
        refine call_Si SM_ok sameM ⟨hx, hb, hml, hown, hts⟩ (c_X12_over l D q k x1 S _ (r_8, S_6)  hc_7) (va_cwS 1 hts gX12_swapsIn_X12_over rfl rfl rfl hd_X12_over ⟨by dsimp only; omega, by dsimp only; omega⟩) hK hP hD hS hA hsp (As := [.int x1]) rfl hl.1 rfl (Nat.le_of_ble_eq_true rfl) dX12_swapsIn_67 ⟨Nat.zero_le _, Nat.zero_le _⟩ (fun H locs hP hD hS => ?_)
        refine lv_iload_n hx hb dX12_swapsIn_70 rfl (lv_at hl 2 rfl) ?_
        obtain ⟨r_11, S_9, hc_10, hZ⟩ := jx_b2_some hZ
        refine call_Vi SM_ok sameM ⟨hx, hb, hml, hown, hts⟩ (hrc r_8 x2 S_6 _ (r_11, S_9)  hc_10) (cwV 2 hts gX12_swapsIn_X12_swapsIn rfl rfl rfl hd_X12_swapsIn ⟨by dsimp only; omega, by dsimp only; omega⟩) hK hP hD hS hA hsp (va_recv hK hP (ci := 12) (q0 := 0) rfl wM_0) (As := [.int r_8, .int x2]) rfl hl.1 rfl (Nat.le_of_ble_eq_true rfl) dX12_swapsIn_71 ⟨Nat.zero_le _, Nat.zero_le _⟩ (fun H locs hP hD hS => ?_)
        exact leave_i hx hb hr hlocks hP hS hZ dX12_swapsIn_74
    · have hZ := jx_i_pos c_2 hZ
      refine lv_aload_n hx hb dX12_swapsIn_28 rfl (lv_at hl 0 rfl) ?_
      refine lv_bipush (v := (50 : Int32)) hx hb dX12_swapsIn_29 (by decide) ?_
      obtain ⟨S_12, hc_13, hZ⟩ := jx_b_some hZ
      refine call_Vv SM_ok sameM ⟨hx, hb, hml, hown, hts⟩ (c_X12_runs l D q k (50 : Int32) S _ S_12  hc_13) (cwV 1 hts gX12_swapsIn_X12_runs rfl rfl rfl hd_X12_runs ⟨by dsimp only; omega, by dsimp only; omega⟩) hK hP hD hS hA hsp (va_recv hK hP (ci := 12) (q0 := 0) rfl wM_0) (As := [.int (50 : Int32)]) rfl hl.1 rfl (Nat.le_of_ble_eq_true rfl) dX12_swapsIn_31 ⟨Nat.zero_le _, Nat.zero_le _⟩ (fun H locs hP hD hS => ?_)
      refine lv_aload_n hx hb dX12_swapsIn_34 rfl (lv_at hl 0 rfl) ?_
      refine lv_iload_n hx hb dX12_swapsIn_35 rfl (lv_at hl 1 rfl) ?_
      obtain ⟨r_16, S_14, hc_15, hZ⟩ := jx_b2_some hZ
      refine call_Si SM_ok sameM ⟨hx, hb, hml, hown, hts⟩ (c_X12_over l D q k x1 S_12 _ (r_16, S_14)  hc_15) (va_cwS 1 hts gX12_swapsIn_X12_over rfl rfl rfl hd_X12_over ⟨by dsimp only; omega, by dsimp only; omega⟩) hK hP hD hS hA hsp (As := [.int x1]) rfl hl.1 rfl (Nat.le_of_ble_eq_true rfl) dX12_swapsIn_36 ⟨Nat.zero_le _, Nat.zero_le _⟩ (fun H locs hP hD hS => ?_)
      refine lv_iload_n hx hb dX12_swapsIn_39 rfl (lv_at hl 2 rfl) ?_
      obtain ⟨r_19, S_17, hc_18, hZ⟩ := jx_b2_some hZ
      refine call_Vi SM_ok sameM ⟨hx, hb, hml, hown, hts⟩ (hrc r_16 x2 S_14 _ (r_19, S_17)  hc_18) (cwV 2 hts gX12_swapsIn_X12_swapsIn rfl rfl rfl hd_X12_swapsIn ⟨by dsimp only; omega, by dsimp only; omega⟩) hK hP hD hS hA hsp (va_recv hK hP (ci := 12) (q0 := 0) rfl wM_0) (As := [.int r_16, .int x2]) rfl hl.1 rfl (Nat.le_of_ble_eq_true rfl) dX12_swapsIn_40 ⟨Nat.zero_le _, Nat.zero_le _⟩ (fun H locs hP hD hS => ?_)
      refine lv_istore_n (lv' := [(3, .int r_19), (0, .ref (q 0)), (1, .int x1), (2, .int x2)]) hx hb dX12_swapsIn_43 rfl hl (by decide) rfl (fun ls hl => ?_)
      refine lv_iload_n hx hb dX12_swapsIn_44 rfl (lv_at hl 0 rfl) ?_
      refine lv_aload_n hx hb dX12_swapsIn_45 rfl (lv_at hl 1 rfl) ?_
      refine lv_aload_n hx hb dX12_swapsIn_46 rfl (lv_at hl 1 rfl) ?_
      refine gf_12_bodyKind hx hb hts in12 hown hK hP (hts (.fieldLink RX12 96 "CoinsOfLastModel" "bodyKind" "[I") (List.mem_of_getElem? (i := 1) rfl)) dX12_swapsIn_47 ?_
      refine lv_aload_n hx hb dX12_swapsIn_50 rfl (lv_at hl 1 rfl) ?_
      refine gf_12_acting hx hb hts in12 hown hK hP (hts (.fieldLink RX12 360 "CoinsOfLastModel" "acting" "I") (List.mem_of_getElem? (i := 2) rfl)) dX12_swapsIn_51 ?_
      obtain ⟨c_20, hZ⟩ := jx_a_some hZ
      refine M_iald hx hb hK hP wM_29 c_20 dX12_swapsIn_54 ?_
      refine lv_iconst (v := (2 : Int32)) hx hb dX12_swapsIn_55 (by decide) ?_
      obtain ⟨r_23, S_21, hc_22, hZ⟩ := jx_b2_some hZ
      refine call_Vi SM_ok sameM ⟨hx, hb, hml, hown, hts⟩ (c_X12_paysIn l D q k 8 (S_17.1 29 (Int32.toNatClampNeg (S_17.1 0 52))) (2 : Int32) S_17 _ (r_23, S_21)  hc_22) (cwV 2 hts gX12_swapsIn_X12_paysIn rfl rfl rfl hd_X12_paysIn ⟨by dsimp only; omega, by dsimp only; omega⟩) hK hP hD hS hA hsp (va_recv hK hP (ci := 12) (q0 := 0) rfl wM_0) (As := [.int (S_17.1 29 (Int32.toNatClampNeg (S_17.1 0 52))), .int (2 : Int32)]) rfl hl.1 rfl (Nat.le_of_ble_eq_true rfl) dX12_swapsIn_56 ⟨Nat.zero_le _, Nat.zero_le _⟩ (fun H locs hP hD hS => ?_)
      refine lv_isub hx hb dX12_swapsIn_59 ?_
      exact leave_i hx hb hr hlocks hP hS hZ dX12_swapsIn_60
  · have hZ := jx_i_pos c_1 hZ
    refine lv_aload_n hx hb dX12_swapsIn_5 rfl (lv_at hl 0 rfl) ?_
    refine lv_bipush (v := (40 : Int32)) hx hb dX12_swapsIn_6 (by decide) ?_
    obtain ⟨S_24, hc_25, hZ⟩ := jx_b_some hZ
    refine call_Vv SM_ok sameM ⟨hx, hb, hml, hown, hts⟩ (c_X12_runs l D q k (40 : Int32) S _ S_24  hc_25) (cwV 1 hts gX12_swapsIn_X12_runs rfl rfl rfl hd_X12_runs ⟨by dsimp only; omega, by dsimp only; omega⟩) hK hP hD hS hA hsp (va_recv hK hP (ci := 12) (q0 := 0) rfl wM_0) (As := [.int (40 : Int32)]) rfl hl.1 rfl (Nat.le_of_ble_eq_true rfl) dX12_swapsIn_8 ⟨Nat.zero_le _, Nat.zero_le _⟩ (fun H locs hP hD hS => ?_)
    refine lv_aload_n hx hb dX12_swapsIn_11 rfl (lv_at hl 0 rfl) ?_
    refine lv_iload_n hx hb dX12_swapsIn_12 rfl (lv_at hl 1 rfl) ?_
    obtain ⟨r_28, S_26, hc_27, hZ⟩ := jx_b2_some hZ
    refine call_Si SM_ok sameM ⟨hx, hb, hml, hown, hts⟩ (c_X12_over l D q k x1 S_24 _ (r_28, S_26)  hc_27) (va_cwS 1 hts gX12_swapsIn_X12_over rfl rfl rfl hd_X12_over ⟨by dsimp only; omega, by dsimp only; omega⟩) hK hP hD hS hA hsp (As := [.int x1]) rfl hl.1 rfl (Nat.le_of_ble_eq_true rfl) dX12_swapsIn_13 ⟨Nat.zero_le _, Nat.zero_le _⟩ (fun H locs hP hD hS => ?_)
    refine lv_iload_n hx hb dX12_swapsIn_16 rfl (lv_at hl 2 rfl) ?_
    obtain ⟨r_31, S_29, hc_30, hZ⟩ := jx_b2_some hZ
    refine call_Vi SM_ok sameM ⟨hx, hb, hml, hown, hts⟩ (hrc r_28 x2 S_26 _ (r_31, S_29)  hc_30) (cwV 2 hts gX12_swapsIn_X12_swapsIn rfl rfl rfl hd_X12_swapsIn ⟨by dsimp only; omega, by dsimp only; omega⟩) hK hP hD hS hA hsp (va_recv hK hP (ci := 12) (q0 := 0) rfl wM_0) (As := [.int r_28, .int x2]) rfl hl.1 rfl (Nat.le_of_ble_eq_true rfl) dX12_swapsIn_17 ⟨Nat.zero_le _, Nat.zero_le _⟩ (fun H locs hP hD hS => ?_)
    refine lv_iconst (v := (3 : Int32)) hx hb dX12_swapsIn_20 (by decide) ?_
    refine lv_imul hx hb dX12_swapsIn_21 ?_
    exact leave_i hx hb hr hlocks hP hS hZ dX12_swapsIn_22
theorem c_X12_swapsIn (l : Launch) (D : va_G) (q : Nat → Nat) (k : CI) : ∀ (n : Nat) (x1 : Int32) (x2 : Int32) (S : St) (sz : Nat) (Z : Int32 × St) (hZ : f_X12_swapsIn n x1 x2 S = some Z), MetI W_M SM l yX12_swapsIn wsX12_swapsIn { frames := 10 + n, cells := 0, slots := 0, locals := 219 + 23 * n } [.ref (q 0), .int x1, .int x2] D q k S sz Z := by
  intro n
  induction n with
  | zero =>
    intro x1 x2 S sz Z  hZ
    unfold f_X12_swapsIn at hZ
    cases hZ
  | succ n ih =>
    intro x1 x2 S sz Z  hZ
    unfold f_X12_swapsIn at hZ
    have h := cb_X12_swapsIn l D q k (f_X12_swapsIn n) (10 + n) (219 + 23 * n) ih (by omega) (by omega) x1 x2 S sz Z  hZ
    rw [show 219 + 23 * n + 23 = 219 + 23 * (n + 1) from by omega] at h
    exact h
theorem hd_X12_changesIn : yX12_changesIn.cls = RX12 ∧ yX12_changesIn.cls ≠ "java/lang/invoke/MethodHandle" ∧ yX12_changesIn.cls ≠ "java/lang/invoke/VarHandle" ∧ (parseMethodDescriptor yX12_changesIn.desc).map (fun d => d.parameters.length) = some 2 := by decide +kernel
-- X12_changesIn
def fb_X12_changesIn (rc : Int32 → Int32 → St → Option (Int32 × St)) (x1 : Int32) (x2 : Int32) (S : St) : Option (Int32 × St) :=
  (if x1 = (2 : Int32) then jx_b (f_X12_runs (30 : Int32) S) (fun S_37 => jx_b2 (f_X12_over x1 S_37) (fun r_41 S_39 => jx_b2 (rc r_41 x2 S_39) (fun r_44 S_42 => some ((-r_44), S_42)))) else (if x1 = (3 : Int32) then jx_b (f_X12_runs (41 : Int32) S) (fun S_29 => jx_b2 (f_X12_over x1 S_29) (fun r_33 S_31 => jx_b2 (rc r_33 (x2 + (1 : Int32)) S_31) (fun r_36 S_34 => some (r_36, S_34)))) else (if x1 = (7 : Int32) then jx_b (f_X12_runs (80 : Int32) S) (fun S_17 => jx_b2 (f_X12_over x1 S_17) (fun r_21 S_19 => jx_b2 (rc r_21 x2 S_19) (fun r_24 S_22 => jx_a (S_22.1 0 52) 50 (jx_b2 (f_X12_swapsIn 8 (S_22.1 29 (Int32.toNatClampNeg (S_22.1 0 52))) (2 : Int32) S_22) (fun r_28 S_26 => some ((r_24 + r_28), S_26)))))) else (if x1 ≤ 0 then jx_b (f_X12_runs (10 : Int32) S) (fun S_5 => jx_a (S_5.1 0 52) 50 (jx_b2 (f_X12_paysIn 8 (S_5.1 29 (Int32.toNatClampNeg (S_5.1 0 52))) x2 S_5) (fun r_10 S_8 => some ((r_10 * (2 : Int32)), S_8)))) else jx_b2 (f_X12_over x1 S) (fun r_13 S_11 => jx_b2 (rc r_13 x2 S_11) (fun r_16 S_14 => some (r_16, S_14)))))))
def f_X12_changesIn : Nat → Int32 → Int32 → St → Option (Int32 × St)
  | 0, _, _, _ => none
  | n + 1, x1, x2, S => fb_X12_changesIn (f_X12_changesIn n) x1 x2 S
set_option maxHeartbeats 4000000 in
set_option maxRecDepth 100000 in
theorem cb_X12_changesIn (l : Launch) (D : va_G) (q : Nat → Nat) (k : CI) (rc : Int32 → Int32 → St → Option (Int32 × St)) (fr lo : Nat) (hrc : ∀ (x1 : Int32) (x2 : Int32) (S : St) (sz : Nat) (Z : Int32 × St), rc x1 x2 S = some Z → MetI W_M SM l yX12_changesIn wsX12_changesIn { frames := fr, cells := 0, slots := 0, locals := lo } [.ref (q 0), .int x1, .int x2] D q k S sz Z) (hB : 19 ≤ fr) (hC : 426 ≤ lo) (x1 : Int32) (x2 : Int32) (S : St) (sz : Nat) (Z : Int32 × St) (hZ : fb_X12_changesIn rc x1 x2 S = some Z) : MetI W_M SM l yX12_changesIn wsX12_changesIn { frames := fr + 1, cells := 0, slots := 0, locals := lo + 23 } [.ref (q 0), .int x1, .int x2] D q k S sz Z := by
  refine enter (cc := cX12_changesIn) (maxL := 4) (ret := some .int) (by decide) rfl (Nat.le_of_ble_eq_true rfl) ?_
  intro p e s m below meth c A ls hx hb hr hts hown hlocks hml hP hK hD hA hS hsp hAe hl
  have hown : s.vm.findClass RX12 = some m.cls := hown
  have hl : lv_has ls 4 [(0, .ref (q 0)), (1, .int x1), (2, .int x2)] := hl
  have in12 : ∀ w ∈ wsX120, w ∈ wsX12_changesIn := fun _ h => (List.mem_cons_of_mem _ (List.mem_append_right _ h))
  unfold fb_X12_changesIn at hZ
  refine lv_iload_n hx hb dX12_changesIn_0 rfl (lv_at hl 1 rfl) ?_
  refine lv_iconst (v := (2 : Int32)) hx hb dX12_changesIn_1 (by decide) ?_
  refine lv_icmp_ne (tgt := 22) hx hb dX12_changesIn_2 (by decide) (fun c_1 => ?_) (fun c_1 => ?_)
  · have hZ := jx_i_neg c_1 hZ
    refine lv_iload_n hx hb dX12_changesIn_22 rfl (lv_at hl 1 rfl) ?_
    refine lv_iconst (v := (3 : Int32)) hx hb dX12_changesIn_23 (by decide) ?_
    refine lv_icmp_ne (tgt := 45) hx hb dX12_changesIn_24 (by decide) (fun c_2 => ?_) (fun c_2 => ?_)
    · have hZ := jx_i_neg c_2 hZ
      refine lv_iload_n hx hb dX12_changesIn_45 rfl (lv_at hl 1 rfl) ?_
      refine lv_bipush (v := (7 : Int32)) hx hb dX12_changesIn_46 (by decide) ?_
      refine lv_icmp_ne (tgt := 84) hx hb dX12_changesIn_48 (by decide) (fun c_3 => ?_) (fun c_3 => ?_)
      · have hZ := jx_i_neg c_3 hZ
        refine lv_iload_n hx hb dX12_changesIn_84 rfl (lv_at hl 1 rfl) ?_
        refine lv_if_le (tgt := 98) hx hb dX12_changesIn_85 (by decide) (fun c_4 => ?_) (fun c_4 => ?_)
        · have hZ := jx_i_pos c_4 hZ
          refine lv_aload_n hx hb dX12_changesIn_98 rfl (lv_at hl 0 rfl) ?_
          refine lv_bipush (v := (10 : Int32)) hx hb dX12_changesIn_99 (by decide) ?_
          obtain ⟨S_5, hc_6, hZ⟩ := jx_b_some hZ
          refine call_Vv SM_ok sameM ⟨hx, hb, hml, hown, hts⟩ (c_X12_runs l D q k (10 : Int32) S _ S_5  hc_6) (cwV 1 hts gX12_changesIn_X12_runs rfl rfl rfl hd_X12_runs ⟨by dsimp only; omega, by dsimp only; omega⟩) hK hP hD hS hA hsp (va_recv hK hP (ci := 12) (q0 := 0) rfl wM_0) (As := [.int (10 : Int32)]) rfl hl.1 rfl (Nat.le_of_ble_eq_true rfl) dX12_changesIn_101 ⟨Nat.zero_le _, Nat.zero_le _⟩ (fun H locs hP hD hS => ?_)
          refine lv_aload_n hx hb dX12_changesIn_104 rfl (lv_at hl 0 rfl) ?_
          refine lv_aload_n hx hb dX12_changesIn_105 rfl (lv_at hl 0 rfl) ?_
          refine gf_12_bodyKind hx hb hts in12 hown hK hP (hts (.fieldLink RX12 96 "CoinsOfLastModel" "bodyKind" "[I") (List.mem_of_getElem? (i := 1) rfl)) dX12_changesIn_106 ?_
          refine lv_aload_n hx hb dX12_changesIn_109 rfl (lv_at hl 0 rfl) ?_
          refine gf_12_acting hx hb hts in12 hown hK hP (hts (.fieldLink RX12 360 "CoinsOfLastModel" "acting" "I") (List.mem_of_getElem? (i := 2) rfl)) dX12_changesIn_110 ?_
          obtain ⟨c_7, hZ⟩ := jx_a_some hZ
          refine M_iald hx hb hK hP wM_29 c_7 dX12_changesIn_113 ?_
          refine lv_iload_n hx hb dX12_changesIn_114 rfl (lv_at hl 2 rfl) ?_
          obtain ⟨r_10, S_8, hc_9, hZ⟩ := jx_b2_some hZ
          refine call_Vi SM_ok sameM ⟨hx, hb, hml, hown, hts⟩ (c_X12_paysIn l D q k 8 (S_5.1 29 (Int32.toNatClampNeg (S_5.1 0 52))) x2 S_5 _ (r_10, S_8)  hc_9) (cwV 2 hts gX12_changesIn_X12_paysIn rfl rfl rfl hd_X12_paysIn ⟨by dsimp only; omega, by dsimp only; omega⟩) hK hP hD hS hA hsp (va_recv hK hP (ci := 12) (q0 := 0) rfl wM_0) (As := [.int (S_5.1 29 (Int32.toNatClampNeg (S_5.1 0 52))), .int x2]) rfl hl.1 rfl (Nat.le_of_ble_eq_true rfl) dX12_changesIn_115 ⟨Nat.zero_le _, Nat.zero_le _⟩ (fun H locs hP hD hS => ?_)
          refine lv_iconst (v := (2 : Int32)) hx hb dX12_changesIn_118 (by decide) ?_
          refine lv_imul hx hb dX12_changesIn_119 ?_
          exact leave_i hx hb hr hlocks hP hS hZ dX12_changesIn_120
        · have hZ := jx_i_neg c_4 hZ
          refine lv_aload_n hx hb dX12_changesIn_88 rfl (lv_at hl 0 rfl) ?_
          refine lv_iload_n hx hb dX12_changesIn_89 rfl (lv_at hl 1 rfl) ?_
          obtain ⟨r_13, S_11, hc_12, hZ⟩ := jx_b2_some hZ
          refine call_Si SM_ok sameM ⟨hx, hb, hml, hown, hts⟩ (c_X12_over l D q k x1 S _ (r_13, S_11)  hc_12) (va_cwS 1 hts gX12_changesIn_X12_over rfl rfl rfl hd_X12_over ⟨by dsimp only; omega, by dsimp only; omega⟩) hK hP hD hS hA hsp (As := [.int x1]) rfl hl.1 rfl (Nat.le_of_ble_eq_true rfl) dX12_changesIn_90 ⟨Nat.zero_le _, Nat.zero_le _⟩ (fun H locs hP hD hS => ?_)
          refine lv_iload_n hx hb dX12_changesIn_93 rfl (lv_at hl 2 rfl) ?_
          obtain ⟨r_16, S_14, hc_15, hZ⟩ := jx_b2_some hZ
          refine call_Vi SM_ok sameM ⟨hx, hb, hml, hown, hts⟩ (hrc r_13 x2 S_11 _ (r_16, S_14)  hc_15) (cwV 2 hts gX12_changesIn_X12_changesIn rfl rfl rfl hd_X12_changesIn ⟨by dsimp only; omega, by dsimp only; omega⟩) hK hP hD hS hA hsp (va_recv hK hP (ci := 12) (q0 := 0) rfl wM_0) (As := [.int r_13, .int x2]) rfl hl.1 rfl (Nat.le_of_ble_eq_true rfl) dX12_changesIn_94 ⟨Nat.zero_le _, Nat.zero_le _⟩ (fun H locs hP hD hS => ?_)
          exact leave_i hx hb hr hlocks hP hS hZ dX12_changesIn_97
      · have hZ := jx_i_pos c_3 hZ
        refine lv_aload_n hx hb dX12_changesIn_51 rfl (lv_at hl 0 rfl) ?_
        refine lv_bipush (v := (80 : Int32)) hx hb dX12_changesIn_52 (by decide) ?_
        obtain ⟨S_17, hc_18, hZ⟩ := jx_b_some hZ
        refine call_Vv SM_ok sameM ⟨hx, hb, hml, hown, hts⟩ (c_X12_runs l D q k (80 : Int32) S _ S_17  hc_18) (cwV 1 hts gX12_changesIn_X12_runs rfl rfl rfl hd_X12_runs ⟨by dsimp only; omega, by dsimp only; omega⟩) hK hP hD hS hA hsp (va_recv hK hP (ci := 12) (q0 := 0) rfl wM_0) (As := [.int (80 : Int32)]) rfl hl.1 rfl (Nat.le_of_ble_eq_true rfl) dX12_changesIn_54 ⟨Nat.zero_le _, Nat.zero_le _⟩ (fun H locs hP hD hS => ?_)
        refine lv_aload_n hx hb dX12_changesIn_57 rfl (lv_at hl 0 rfl) ?_
        refine lv_iload_n hx hb dX12_changesIn_58 rfl (lv_at hl 1 rfl) ?_
        obtain ⟨r_21, S_19, hc_20, hZ⟩ := jx_b2_some hZ
        refine call_Si SM_ok sameM ⟨hx, hb, hml, hown, hts⟩ (c_X12_over l D q k x1 S_17 _ (r_21, S_19)  hc_20) (va_cwS 1 hts gX12_changesIn_X12_over rfl rfl rfl hd_X12_over ⟨by dsimp only; omega, by dsimp only; omega⟩) hK hP hD hS hA hsp (As := [.int x1]) rfl hl.1 rfl (Nat.le_of_ble_eq_true rfl) dX12_changesIn_59 ⟨Nat.zero_le _, Nat.zero_le _⟩ (fun H locs hP hD hS => ?_)
        refine lv_iload_n hx hb dX12_changesIn_62 rfl (lv_at hl 2 rfl) ?_
        obtain ⟨r_24, S_22, hc_23, hZ⟩ := jx_b2_some hZ
        refine call_Vi SM_ok sameM ⟨hx, hb, hml, hown, hts⟩ (hrc r_21 x2 S_19 _ (r_24, S_22)  hc_23) (cwV 2 hts gX12_changesIn_X12_changesIn rfl rfl rfl hd_X12_changesIn ⟨by dsimp only; omega, by dsimp only; omega⟩) hK hP hD hS hA hsp (va_recv hK hP (ci := 12) (q0 := 0) rfl wM_0) (As := [.int r_21, .int x2]) rfl hl.1 rfl (Nat.le_of_ble_eq_true rfl) dX12_changesIn_63 ⟨Nat.zero_le _, Nat.zero_le _⟩ (fun H locs hP hD hS => ?_)
        refine lv_istore_n (lv' := [(3, .int r_24), (0, .ref (q 0)), (1, .int x1), (2, .int x2)]) hx hb dX12_changesIn_66 rfl hl (by decide) rfl (fun ls hl => ?_)
        refine lv_iload_n hx hb dX12_changesIn_67 rfl (lv_at hl 0 rfl) ?_
        refine lv_aload_n hx hb dX12_changesIn_68 rfl (lv_at hl 1 rfl) ?_
        refine lv_aload_n hx hb dX12_changesIn_69 rfl (lv_at hl 1 rfl) ?_
        refine gf_12_bodyKind hx hb hts in12 hown hK hP (hts (.fieldLink RX12 96 "CoinsOfLastModel" "bodyKind" "[I") (List.mem_of_getElem? (i := 1) rfl)) dX12_changesIn_70 ?_
        refine lv_aload_n hx hb dX12_changesIn_73 rfl (lv_at hl 1 rfl) ?_
        refine gf_12_acting hx hb hts in12 hown hK hP (hts (.fieldLink RX12 360 "CoinsOfLastModel" "acting" "I") (List.mem_of_getElem? (i := 2) rfl)) dX12_changesIn_74 ?_
        obtain ⟨c_25, hZ⟩ := jx_a_some hZ
        refine M_iald hx hb hK hP wM_29 c_25 dX12_changesIn_77 ?_
        refine lv_iconst (v := (2 : Int32)) hx hb dX12_changesIn_78 (by decide) ?_
        obtain ⟨r_28, S_26, hc_27, hZ⟩ := jx_b2_some hZ
        refine call_Vi SM_ok sameM ⟨hx, hb, hml, hown, hts⟩ (c_X12_swapsIn l D q k 8 (S_22.1 29 (Int32.toNatClampNeg (S_22.1 0 52))) (2 : Int32) S_22 _ (r_28, S_26)  hc_27) (cwV 2 hts gX12_changesIn_X12_swapsIn rfl rfl rfl hd_X12_swapsIn ⟨by dsimp only; omega, by dsimp only; omega⟩) hK hP hD hS hA hsp (va_recv hK hP (ci := 12) (q0 := 0) rfl wM_0) (As := [.int (S_22.1 29 (Int32.toNatClampNeg (S_22.1 0 52))), .int (2 : Int32)]) rfl hl.1 rfl (Nat.le_of_ble_eq_true rfl) dX12_changesIn_79 ⟨Nat.zero_le _, Nat.zero_le _⟩ (fun H locs hP hD hS => ?_)
        refine lv_iadd hx hb dX12_changesIn_82 ?_
        exact leave_i hx hb hr hlocks hP hS hZ dX12_changesIn_83
    · have hZ := jx_i_pos c_2 hZ
      refine lv_aload_n hx hb dX12_changesIn_27 rfl (lv_at hl 0 rfl) ?_
      refine lv_bipush (v := (41 : Int32)) hx hb dX12_changesIn_28 (by decide) ?_
      obtain ⟨S_29, hc_30, hZ⟩ := jx_b_some hZ
      refine call_Vv SM_ok sameM ⟨hx, hb, hml, hown, hts⟩ (c_X12_runs l D q k (41 : Int32) S _ S_29  hc_30) (cwV 1 hts gX12_changesIn_X12_runs rfl rfl rfl hd_X12_runs ⟨by dsimp only; omega, by dsimp only; omega⟩) hK hP hD hS hA hsp (va_recv hK hP (ci := 12) (q0 := 0) rfl wM_0) (As := [.int (41 : Int32)]) rfl hl.1 rfl (Nat.le_of_ble_eq_true rfl) dX12_changesIn_30 ⟨Nat.zero_le _, Nat.zero_le _⟩ (fun H locs hP hD hS => ?_)
      refine lv_aload_n hx hb dX12_changesIn_33 rfl (lv_at hl 0 rfl) ?_
      refine lv_iload_n hx hb dX12_changesIn_34 rfl (lv_at hl 1 rfl) ?_
      obtain ⟨r_33, S_31, hc_32, hZ⟩ := jx_b2_some hZ
      refine call_Si SM_ok sameM ⟨hx, hb, hml, hown, hts⟩ (c_X12_over l D q k x1 S_29 _ (r_33, S_31)  hc_32) (va_cwS 1 hts gX12_changesIn_X12_over rfl rfl rfl hd_X12_over ⟨by dsimp only; omega, by dsimp only; omega⟩) hK hP hD hS hA hsp (As := [.int x1]) rfl hl.1 rfl (Nat.le_of_ble_eq_true rfl) dX12_changesIn_35 ⟨Nat.zero_le _, Nat.zero_le _⟩ (fun H locs hP hD hS => ?_)
      refine lv_iload_n hx hb dX12_changesIn_38 rfl (lv_at hl 2 rfl) ?_
      refine lv_iconst (v := (1 : Int32)) hx hb dX12_changesIn_39 (by decide) ?_
      refine lv_iadd hx hb dX12_changesIn_40 ?_
      obtain ⟨r_36, S_34, hc_35, hZ⟩ := jx_b2_some hZ
      refine call_Vi SM_ok sameM ⟨hx, hb, hml, hown, hts⟩ (hrc r_33 (x2 + (1 : Int32)) S_31 _ (r_36, S_34)  hc_35) (cwV 2 hts gX12_changesIn_X12_changesIn rfl rfl rfl hd_X12_changesIn ⟨by dsimp only; omega, by dsimp only; omega⟩) hK hP hD hS hA hsp (va_recv hK hP (ci := 12) (q0 := 0) rfl wM_0) (As := [.int r_33, .int (x2 + (1 : Int32))]) rfl hl.1 rfl (Nat.le_of_ble_eq_true rfl) dX12_changesIn_41 ⟨Nat.zero_le _, Nat.zero_le _⟩ (fun H locs hP hD hS => ?_)
      exact leave_i hx hb hr hlocks hP hS hZ dX12_changesIn_44
  · have hZ := jx_i_pos c_1 hZ
    refine lv_aload_n hx hb dX12_changesIn_5 rfl (lv_at hl 0 rfl) ?_
    refine lv_bipush (v := (30 : Int32)) hx hb dX12_changesIn_6 (by decide) ?_
    obtain ⟨S_37, hc_38, hZ⟩ := jx_b_some hZ
    refine call_Vv SM_ok sameM ⟨hx, hb, hml, hown, hts⟩ (c_X12_runs l D q k (30 : Int32) S _ S_37  hc_38) (cwV 1 hts gX12_changesIn_X12_runs rfl rfl rfl hd_X12_runs ⟨by dsimp only; omega, by dsimp only; omega⟩) hK hP hD hS hA hsp (va_recv hK hP (ci := 12) (q0 := 0) rfl wM_0) (As := [.int (30 : Int32)]) rfl hl.1 rfl (Nat.le_of_ble_eq_true rfl) dX12_changesIn_8 ⟨Nat.zero_le _, Nat.zero_le _⟩ (fun H locs hP hD hS => ?_)
    refine lv_aload_n hx hb dX12_changesIn_11 rfl (lv_at hl 0 rfl) ?_
    refine lv_iload_n hx hb dX12_changesIn_12 rfl (lv_at hl 1 rfl) ?_
    obtain ⟨r_41, S_39, hc_40, hZ⟩ := jx_b2_some hZ
    refine call_Si SM_ok sameM ⟨hx, hb, hml, hown, hts⟩ (c_X12_over l D q k x1 S_37 _ (r_41, S_39)  hc_40) (va_cwS 1 hts gX12_changesIn_X12_over rfl rfl rfl hd_X12_over ⟨by dsimp only; omega, by dsimp only; omega⟩) hK hP hD hS hA hsp (As := [.int x1]) rfl hl.1 rfl (Nat.le_of_ble_eq_true rfl) dX12_changesIn_13 ⟨Nat.zero_le _, Nat.zero_le _⟩ (fun H locs hP hD hS => ?_)
    refine lv_iload_n hx hb dX12_changesIn_16 rfl (lv_at hl 2 rfl) ?_
    obtain ⟨r_44, S_42, hc_43, hZ⟩ := jx_b2_some hZ
    refine call_Vi SM_ok sameM ⟨hx, hb, hml, hown, hts⟩ (hrc r_41 x2 S_39 _ (r_44, S_42)  hc_43) (cwV 2 hts gX12_changesIn_X12_changesIn rfl rfl rfl hd_X12_changesIn ⟨by dsimp only; omega, by dsimp only; omega⟩) hK hP hD hS hA hsp (va_recv hK hP (ci := 12) (q0 := 0) rfl wM_0) (As := [.int r_41, .int x2]) rfl hl.1 rfl (Nat.le_of_ble_eq_true rfl) dX12_changesIn_17 ⟨Nat.zero_le _, Nat.zero_le _⟩ (fun H locs hP hD hS => ?_)
    refine lv_ineg hx hb dX12_changesIn_20 ?_
    exact leave_i hx hb hr hlocks hP hS hZ dX12_changesIn_21
theorem c_X12_changesIn (l : Launch) (D : va_G) (q : Nat → Nat) (k : CI) : ∀ (n : Nat) (x1 : Int32) (x2 : Int32) (S : St) (sz : Nat) (Z : Int32 × St) (hZ : f_X12_changesIn n x1 x2 S = some Z), MetI W_M SM l yX12_changesIn wsX12_changesIn { frames := 19 + n, cells := 0, slots := 0, locals := 426 + 23 * n } [.ref (q 0), .int x1, .int x2] D q k S sz Z := by
  intro n
  induction n with
  | zero =>
    intro x1 x2 S sz Z  hZ
    unfold f_X12_changesIn at hZ
    cases hZ
  | succ n ih =>
    intro x1 x2 S sz Z  hZ
    unfold f_X12_changesIn at hZ
    have h := cb_X12_changesIn l D q k (f_X12_changesIn n) (19 + n) (426 + 23 * n) ih (by omega) (by omega) x1 x2 S sz Z  hZ
    rw [show 426 + 23 * n + 23 = 426 + 23 * (n + 1) from by omega] at h
    exact h
theorem hd_X12_tellsIn : yX12_tellsIn.cls = RX12 ∧ yX12_tellsIn.cls ≠ "java/lang/invoke/MethodHandle" ∧ yX12_tellsIn.cls ≠ "java/lang/invoke/VarHandle" ∧ (parseMethodDescriptor yX12_tellsIn.desc).map (fun d => d.parameters.length) = some 2 := by decide +kernel
-- X12_tellsIn
def fb_X12_tellsIn (rc : Int32 → Int32 → St → Option (Int32 × St)) (x1 : Int32) (x2 : Int32) (S : St) : Option (Int32 × St) :=
  (if x1 = (5 : Int32) then jx_b (f_X12_runs (60 : Int32) S) (fun S_28 => jx_b2 (f_X12_over x1 S_28) (fun r_32 S_30 => jx_b2 (rc r_32 x2 S_30) (fun r_35 S_33 => some ((r_35 ^^^ (5 : Int32)), S_33)))) else (if x1 = (7 : Int32) then jx_b (f_X12_runs (81 : Int32) S) (fun S_20 => jx_b2 (f_X12_over x1 S_20) (fun r_24 S_22 => jx_b2 (rc r_24 x2 S_22) (fun r_27 S_25 => some ((r_27 - (1 : Int32)), S_25)))) else (if x1 ≤ 0 then jx_b (f_X12_runs (2 : Int32) S) (fun S_4 => jx_a (S_4.1 0 52) 50 (jx_b2 (f_X12_changesIn 8 (S_4.1 29 (Int32.toNatClampNeg (S_4.1 0 52))) x2 S_4) (fun r_9 S_7 => jx_a (S_7.1 0 52) 50 (jx_b2 (f_X12_swapsIn 8 (S_7.1 29 (Int32.toNatClampNeg (S_7.1 0 52))) (1 : Int32) S_7) (fun r_13 S_11 => some ((r_9 - r_13), S_11)))))) else jx_b2 (f_X12_over x1 S) (fun r_16 S_14 => jx_b2 (rc r_16 x2 S_14) (fun r_19 S_17 => some (r_19, S_17))))))
def f_X12_tellsIn : Nat → Int32 → Int32 → St → Option (Int32 × St)
  | 0, _, _, _ => none
  | n + 1, x1, x2, S => fb_X12_tellsIn (f_X12_tellsIn n) x1 x2 S
set_option maxHeartbeats 4000000 in
set_option maxRecDepth 100000 in
theorem cb_X12_tellsIn (l : Launch) (D : va_G) (q : Nat → Nat) (k : CI) (rc : Int32 → Int32 → St → Option (Int32 × St)) (fr lo : Nat) (hrc : ∀ (x1 : Int32) (x2 : Int32) (S : St) (sz : Nat) (Z : Int32 × St), rc x1 x2 S = some Z → MetI W_M SM l yX12_tellsIn wsX12_tellsIn { frames := fr, cells := 0, slots := 0, locals := lo } [.ref (q 0), .int x1, .int x2] D q k S sz Z) (hB : 28 ≤ fr) (hC : 633 ≤ lo) (x1 : Int32) (x2 : Int32) (S : St) (sz : Nat) (Z : Int32 × St) (hZ : fb_X12_tellsIn rc x1 x2 S = some Z) : MetI W_M SM l yX12_tellsIn wsX12_tellsIn { frames := fr + 1, cells := 0, slots := 0, locals := lo + 23 } [.ref (q 0), .int x1, .int x2] D q k S sz Z := by
  refine enter (cc := cX12_tellsIn) (maxL := 4) (ret := some .int) (by decide) rfl (Nat.le_of_ble_eq_true rfl) ?_
  intro p e s m below meth c A ls hx hb hr hts hown hlocks hml hP hK hD hA hS hsp hAe hl
  have hown : s.vm.findClass RX12 = some m.cls := hown
  have hl : lv_has ls 4 [(0, .ref (q 0)), (1, .int x1), (2, .int x2)] := hl
  have in12 : ∀ w ∈ wsX120, w ∈ wsX12_tellsIn := fun _ h => (List.mem_cons_of_mem _ (List.mem_append_right _ h))
  unfold fb_X12_tellsIn at hZ
  refine lv_iload_n hx hb dX12_tellsIn_0 rfl (lv_at hl 1 rfl) ?_
  refine lv_iconst (v := (5 : Int32)) hx hb dX12_tellsIn_1 (by decide) ?_
  refine lv_icmp_ne (tgt := 23) hx hb dX12_tellsIn_2 (by decide) (fun c_1 => ?_) (fun c_1 => ?_)
  · have hZ := jx_i_neg c_1 hZ
    refine lv_iload_n hx hb dX12_tellsIn_23 rfl (lv_at hl 1 rfl) ?_
    refine lv_bipush (v := (7 : Int32)) hx hb dX12_tellsIn_24 (by decide) ?_
    refine lv_icmp_ne (tgt := 47) hx hb dX12_tellsIn_26 (by decide) (fun c_2 => ?_) (fun c_2 => ?_)
    · have hZ := jx_i_neg c_2 hZ
      refine lv_iload_n hx hb dX12_tellsIn_47 rfl (lv_at hl 1 rfl) ?_
      refine lv_if_le (tgt := 61) hx hb dX12_tellsIn_48 (by decide) (fun c_3 => ?_) (fun c_3 => ?_)
      · have hZ := jx_i_pos c_3 hZ
        refine lv_aload_n hx hb dX12_tellsIn_61 rfl (lv_at hl 0 rfl) ?_
        refine lv_iconst (v := (2 : Int32)) hx hb dX12_tellsIn_62 (by decide) ?_
        obtain ⟨S_4, hc_5, hZ⟩ := jx_b_some hZ
        refine call_Vv SM_ok sameM ⟨hx, hb, hml, hown, hts⟩ (c_X12_runs l D q k (2 : Int32) S _ S_4  hc_5) (cwV 1 hts gX12_tellsIn_X12_runs rfl rfl rfl hd_X12_runs ⟨by dsimp only; omega, by dsimp only; omega⟩) hK hP hD hS hA hsp (va_recv hK hP (ci := 12) (q0 := 0) rfl wM_0) (As := [.int (2 : Int32)]) rfl hl.1 rfl (Nat.le_of_ble_eq_true rfl) dX12_tellsIn_63 ⟨Nat.zero_le _, Nat.zero_le _⟩ (fun H locs hP hD hS => ?_)
        refine lv_aload_n hx hb dX12_tellsIn_66 rfl (lv_at hl 0 rfl) ?_
        refine lv_aload_n hx hb dX12_tellsIn_67 rfl (lv_at hl 0 rfl) ?_
        refine gf_12_bodyKind hx hb hts in12 hown hK hP (hts (.fieldLink RX12 96 "CoinsOfLastModel" "bodyKind" "[I") (List.mem_of_getElem? (i := 1) rfl)) dX12_tellsIn_68 ?_
        refine lv_aload_n hx hb dX12_tellsIn_71 rfl (lv_at hl 0 rfl) ?_
        refine gf_12_acting hx hb hts in12 hown hK hP (hts (.fieldLink RX12 360 "CoinsOfLastModel" "acting" "I") (List.mem_of_getElem? (i := 2) rfl)) dX12_tellsIn_72 ?_
        obtain ⟨c_6, hZ⟩ := jx_a_some hZ
        refine M_iald hx hb hK hP wM_29 c_6 dX12_tellsIn_75 ?_
        refine lv_iload_n hx hb dX12_tellsIn_76 rfl (lv_at hl 2 rfl) ?_
        obtain ⟨r_9, S_7, hc_8, hZ⟩ := jx_b2_some hZ
        refine call_Vi SM_ok sameM ⟨hx, hb, hml, hown, hts⟩ (c_X12_changesIn l D q k 8 (S_4.1 29 (Int32.toNatClampNeg (S_4.1 0 52))) x2 S_4 _ (r_9, S_7)  hc_8) (cwV 2 hts gX12_tellsIn_X12_changesIn rfl rfl rfl hd_X12_changesIn ⟨by dsimp only; omega, by dsimp only; omega⟩) hK hP hD hS hA hsp (va_recv hK hP (ci := 12) (q0 := 0) rfl wM_0) (As := [.int (S_4.1 29 (Int32.toNatClampNeg (S_4.1 0 52))), .int x2]) rfl hl.1 rfl (Nat.le_of_ble_eq_true rfl) dX12_tellsIn_77 ⟨Nat.zero_le _, Nat.zero_le _⟩ (fun H locs hP hD hS => ?_)
        refine lv_istore_n (lv' := [(3, .int r_9), (0, .ref (q 0)), (1, .int x1), (2, .int x2)]) hx hb dX12_tellsIn_80 rfl hl (by decide) rfl (fun ls hl => ?_)
        refine lv_iload_n hx hb dX12_tellsIn_81 rfl (lv_at hl 0 rfl) ?_
        refine lv_aload_n hx hb dX12_tellsIn_82 rfl (lv_at hl 1 rfl) ?_
        refine lv_aload_n hx hb dX12_tellsIn_83 rfl (lv_at hl 1 rfl) ?_
        refine gf_12_bodyKind hx hb hts in12 hown hK hP (hts (.fieldLink RX12 96 "CoinsOfLastModel" "bodyKind" "[I") (List.mem_of_getElem? (i := 1) rfl)) dX12_tellsIn_84 ?_
        refine lv_aload_n hx hb dX12_tellsIn_87 rfl (lv_at hl 1 rfl) ?_
        refine gf_12_acting hx hb hts in12 hown hK hP (hts (.fieldLink RX12 360 "CoinsOfLastModel" "acting" "I") (List.mem_of_getElem? (i := 2) rfl)) dX12_tellsIn_88 ?_
        obtain ⟨c_10, hZ⟩ := jx_a_some hZ
        refine M_iald hx hb hK hP wM_29 c_10 dX12_tellsIn_91 ?_
        refine lv_iconst (v := (1 : Int32)) hx hb dX12_tellsIn_92 (by decide) ?_
        obtain ⟨r_13, S_11, hc_12, hZ⟩ := jx_b2_some hZ
        refine call_Vi SM_ok sameM ⟨hx, hb, hml, hown, hts⟩ (c_X12_swapsIn l D q k 8 (S_7.1 29 (Int32.toNatClampNeg (S_7.1 0 52))) (1 : Int32) S_7 _ (r_13, S_11)  hc_12) (cwV 2 hts gX12_tellsIn_X12_swapsIn rfl rfl rfl hd_X12_swapsIn ⟨by dsimp only; omega, by dsimp only; omega⟩) hK hP hD hS hA hsp (va_recv hK hP (ci := 12) (q0 := 0) rfl wM_0) (As := [.int (S_7.1 29 (Int32.toNatClampNeg (S_7.1 0 52))), .int (1 : Int32)]) rfl hl.1 rfl (Nat.le_of_ble_eq_true rfl) dX12_tellsIn_93 ⟨Nat.zero_le _, Nat.zero_le _⟩ (fun H locs hP hD hS => ?_)
        refine lv_isub hx hb dX12_tellsIn_96 ?_
        exact leave_i hx hb hr hlocks hP hS hZ dX12_tellsIn_97
      · have hZ := jx_i_neg c_3 hZ
        refine lv_aload_n hx hb dX12_tellsIn_51 rfl (lv_at hl 0 rfl) ?_
        refine lv_iload_n hx hb dX12_tellsIn_52 rfl (lv_at hl 1 rfl) ?_
        obtain ⟨r_16, S_14, hc_15, hZ⟩ := jx_b2_some hZ
        refine call_Si SM_ok sameM ⟨hx, hb, hml, hown, hts⟩ (c_X12_over l D q k x1 S _ (r_16, S_14)  hc_15) (va_cwS 1 hts gX12_tellsIn_X12_over rfl rfl rfl hd_X12_over ⟨by dsimp only; omega, by dsimp only; omega⟩) hK hP hD hS hA hsp (As := [.int x1]) rfl hl.1 rfl (Nat.le_of_ble_eq_true rfl) dX12_tellsIn_53 ⟨Nat.zero_le _, Nat.zero_le _⟩ (fun H locs hP hD hS => ?_)
        refine lv_iload_n hx hb dX12_tellsIn_56 rfl (lv_at hl 2 rfl) ?_
        obtain ⟨r_19, S_17, hc_18, hZ⟩ := jx_b2_some hZ
        refine call_Vi SM_ok sameM ⟨hx, hb, hml, hown, hts⟩ (hrc r_16 x2 S_14 _ (r_19, S_17)  hc_18) (cwV 2 hts gX12_tellsIn_X12_tellsIn rfl rfl rfl hd_X12_tellsIn ⟨by dsimp only; omega, by dsimp only; omega⟩) hK hP hD hS hA hsp (va_recv hK hP (ci := 12) (q0 := 0) rfl wM_0) (As := [.int r_16, .int x2]) rfl hl.1 rfl (Nat.le_of_ble_eq_true rfl) dX12_tellsIn_57 ⟨Nat.zero_le _, Nat.zero_le _⟩ (fun H locs hP hD hS => ?_)
        exact leave_i hx hb hr hlocks hP hS hZ dX12_tellsIn_60
    · have hZ := jx_i_pos c_2 hZ
      refine lv_aload_n hx hb dX12_tellsIn_29 rfl (lv_at hl 0 rfl) ?_
      refine lv_bipush (v := (81 : Int32)) hx hb dX12_tellsIn_30 (by decide) ?_
      obtain ⟨S_20, hc_21, hZ⟩ := jx_b_some hZ
      refine call_Vv SM_ok sameM ⟨hx, hb, hml, hown, hts⟩ (c_X12_runs l D q k (81 : Int32) S _ S_20  hc_21) (cwV 1 hts gX12_tellsIn_X12_runs rfl rfl rfl hd_X12_runs ⟨by dsimp only; omega, by dsimp only; omega⟩) hK hP hD hS hA hsp (va_recv hK hP (ci := 12) (q0 := 0) rfl wM_0) (As := [.int (81 : Int32)]) rfl hl.1 rfl (Nat.le_of_ble_eq_true rfl) dX12_tellsIn_32 ⟨Nat.zero_le _, Nat.zero_le _⟩ (fun H locs hP hD hS => ?_)
      refine lv_aload_n hx hb dX12_tellsIn_35 rfl (lv_at hl 0 rfl) ?_
      refine lv_iload_n hx hb dX12_tellsIn_36 rfl (lv_at hl 1 rfl) ?_
      obtain ⟨r_24, S_22, hc_23, hZ⟩ := jx_b2_some hZ
      refine call_Si SM_ok sameM ⟨hx, hb, hml, hown, hts⟩ (c_X12_over l D q k x1 S_20 _ (r_24, S_22)  hc_23) (va_cwS 1 hts gX12_tellsIn_X12_over rfl rfl rfl hd_X12_over ⟨by dsimp only; omega, by dsimp only; omega⟩) hK hP hD hS hA hsp (As := [.int x1]) rfl hl.1 rfl (Nat.le_of_ble_eq_true rfl) dX12_tellsIn_37 ⟨Nat.zero_le _, Nat.zero_le _⟩ (fun H locs hP hD hS => ?_)
      refine lv_iload_n hx hb dX12_tellsIn_40 rfl (lv_at hl 2 rfl) ?_
      obtain ⟨r_27, S_25, hc_26, hZ⟩ := jx_b2_some hZ
      refine call_Vi SM_ok sameM ⟨hx, hb, hml, hown, hts⟩ (hrc r_24 x2 S_22 _ (r_27, S_25)  hc_26) (cwV 2 hts gX12_tellsIn_X12_tellsIn rfl rfl rfl hd_X12_tellsIn ⟨by dsimp only; omega, by dsimp only; omega⟩) hK hP hD hS hA hsp (va_recv hK hP (ci := 12) (q0 := 0) rfl wM_0) (As := [.int r_24, .int x2]) rfl hl.1 rfl (Nat.le_of_ble_eq_true rfl) dX12_tellsIn_41 ⟨Nat.zero_le _, Nat.zero_le _⟩ (fun H locs hP hD hS => ?_)
      refine lv_iconst (v := (1 : Int32)) hx hb dX12_tellsIn_44 (by decide) ?_
      refine lv_isub hx hb dX12_tellsIn_45 ?_
      exact leave_i hx hb hr hlocks hP hS hZ dX12_tellsIn_46
  · have hZ := jx_i_pos c_1 hZ
    refine lv_aload_n hx hb dX12_tellsIn_5 rfl (lv_at hl 0 rfl) ?_
    refine lv_bipush (v := (60 : Int32)) hx hb dX12_tellsIn_6 (by decide) ?_
    obtain ⟨S_28, hc_29, hZ⟩ := jx_b_some hZ
    refine call_Vv SM_ok sameM ⟨hx, hb, hml, hown, hts⟩ (c_X12_runs l D q k (60 : Int32) S _ S_28  hc_29) (cwV 1 hts gX12_tellsIn_X12_runs rfl rfl rfl hd_X12_runs ⟨by dsimp only; omega, by dsimp only; omega⟩) hK hP hD hS hA hsp (va_recv hK hP (ci := 12) (q0 := 0) rfl wM_0) (As := [.int (60 : Int32)]) rfl hl.1 rfl (Nat.le_of_ble_eq_true rfl) dX12_tellsIn_8 ⟨Nat.zero_le _, Nat.zero_le _⟩ (fun H locs hP hD hS => ?_)
    refine lv_aload_n hx hb dX12_tellsIn_11 rfl (lv_at hl 0 rfl) ?_
    refine lv_iload_n hx hb dX12_tellsIn_12 rfl (lv_at hl 1 rfl) ?_
    obtain ⟨r_32, S_30, hc_31, hZ⟩ := jx_b2_some hZ
    refine call_Si SM_ok sameM ⟨hx, hb, hml, hown, hts⟩ (c_X12_over l D q k x1 S_28 _ (r_32, S_30)  hc_31) (va_cwS 1 hts gX12_tellsIn_X12_over rfl rfl rfl hd_X12_over ⟨by dsimp only; omega, by dsimp only; omega⟩) hK hP hD hS hA hsp (As := [.int x1]) rfl hl.1 rfl (Nat.le_of_ble_eq_true rfl) dX12_tellsIn_13 ⟨Nat.zero_le _, Nat.zero_le _⟩ (fun H locs hP hD hS => ?_)
    refine lv_iload_n hx hb dX12_tellsIn_16 rfl (lv_at hl 2 rfl) ?_
    obtain ⟨r_35, S_33, hc_34, hZ⟩ := jx_b2_some hZ
    refine call_Vi SM_ok sameM ⟨hx, hb, hml, hown, hts⟩ (hrc r_32 x2 S_30 _ (r_35, S_33)  hc_34) (cwV 2 hts gX12_tellsIn_X12_tellsIn rfl rfl rfl hd_X12_tellsIn ⟨by dsimp only; omega, by dsimp only; omega⟩) hK hP hD hS hA hsp (va_recv hK hP (ci := 12) (q0 := 0) rfl wM_0) (As := [.int r_32, .int x2]) rfl hl.1 rfl (Nat.le_of_ble_eq_true rfl) dX12_tellsIn_17 ⟨Nat.zero_le _, Nat.zero_le _⟩ (fun H locs hP hD hS => ?_)
    refine lv_iconst (v := (5 : Int32)) hx hb dX12_tellsIn_20 (by decide) ?_
    refine lv_ixor hx hb dX12_tellsIn_21 ?_
    exact leave_i hx hb hr hlocks hP hS hZ dX12_tellsIn_22
theorem c_X12_tellsIn (l : Launch) (D : va_G) (q : Nat → Nat) (k : CI) : ∀ (n : Nat) (x1 : Int32) (x2 : Int32) (S : St) (sz : Nat) (Z : Int32 × St) (hZ : f_X12_tellsIn n x1 x2 S = some Z), MetI W_M SM l yX12_tellsIn wsX12_tellsIn { frames := 28 + n, cells := 0, slots := 0, locals := 633 + 23 * n } [.ref (q 0), .int x1, .int x2] D q k S sz Z := by
  intro n
  induction n with
  | zero =>
    intro x1 x2 S sz Z  hZ
    unfold f_X12_tellsIn at hZ
    cases hZ
  | succ n ih =>
    intro x1 x2 S sz Z  hZ
    unfold f_X12_tellsIn at hZ
    have h := cb_X12_tellsIn l D q k (f_X12_tellsIn n) (28 + n) (633 + 23 * n) ih (by omega) (by omega) x1 x2 S sz Z  hZ
    rw [show 633 + 23 * n + 23 = 633 + 23 * (n + 1) from by omega] at h
    exact h
-- X12_body
def f_X12_body (x1 : Int32) (S : St) : Option (Int32 × St) :=
  jx_b2 (f_X12_in x1 (0 : Int32) (7 : Int32) S) (fun r_3 S_1 => (if r_3 = 0 then some ((-1 : Int32), S_1) else (if (S_1.1 0 48) = (50 : Int32) then some ((-3 : Int32), S_1) else jx_a (S_1.1 0 48) 50 (jx_l (u1 S_1 29 (Int32.toNatClampNeg (S_1.1 0 48)) x1) (fun S_7 => jx_l (u1 S_7 0 48 ((S_7.1 0 48) + (1 : Int32))) (fun S_8 => some (((S_8.1 0 48) - (1 : Int32)), S_8)))))))
set_option maxHeartbeats 4000000 in
set_option maxRecDepth 100000 in
theorem c_X12_body (l : Launch) (D : va_G) (q : Nat → Nat) (k : CI) (x1 : Int32) (S : St) (sz : Nat) (Z : Int32 × St) (hZ : f_X12_body x1 S = some Z) : MetI W_M SM l yX12_body wsX12_body { frames := 1, cells := 0, slots := 0, locals := 22 } [.ref (q 0), .int x1] D q k S sz Z := by
  refine enter (cc := cX12_body) (maxL := 2) (ret := some .int) (by decide) rfl (Nat.le_of_ble_eq_true rfl) ?_
  intro p e s m below meth c A ls hx hb hr hts hown hlocks hml hP hK hD hA hS hsp hAe hl
  have hown : s.vm.findClass RX12 = some m.cls := hown
  have hl : lv_has ls 2 [(0, .ref (q 0)), (1, .int x1)] := hl
  have in12 : ∀ w ∈ wsX120, w ∈ wsX12_body := fun _ h => (List.mem_cons_of_mem _ (List.mem_append_right _ h))
  unfold f_X12_body at hZ
  refine lv_iload_n hx hb dX12_body_0 rfl (lv_at hl 1 rfl) ?_
  refine lv_iconst (v := (0 : Int32)) hx hb dX12_body_1 (by decide) ?_
  refine lv_bipush (v := (7 : Int32)) hx hb dX12_body_2 (by decide) ?_
  obtain ⟨r_3, S_1, hc_2, hZ⟩ := jx_b2_some hZ
  refine call_Si SM_ok sameM ⟨hx, hb, hml, hown, hts⟩ (c_X12_in l D q k x1 (0 : Int32) (7 : Int32) S _ (r_3, S_1)  hc_2) (va_cwS 3 hts gX12_body_X12_in rfl rfl rfl hd_X12_in ⟨Nat.le_of_ble_eq_true rfl, Nat.le_of_ble_eq_true rfl⟩) hK hP hD hS hA hsp (As := [.int x1, .int (0 : Int32), .int (7 : Int32)]) rfl hl.1 rfl (Nat.le_of_ble_eq_true rfl) dX12_body_4 ⟨Nat.zero_le _, Nat.zero_le _⟩ (fun H locs hP hD hS => ?_)
  refine lv_if_ne (tgt := 12) hx hb dX12_body_7 (by decide) (fun c_4 => ?_) (fun c_4 => ?_)
  · have hZ := jx_i_neg c_4 hZ
    refine lv_aload_n hx hb dX12_body_12 rfl (lv_at hl 0 rfl) ?_
    refine gf_12_bodies hx hb hts in12 hown hK hP (hts (.fieldLink RX12 372 "CoinsOfLastModel" "bodies" "I") (List.mem_of_getElem? (i := 1) rfl)) dX12_body_13 ?_
    refine lv_bipush (v := (50 : Int32)) hx hb dX12_body_16 (by decide) ?_
    refine lv_icmp_ne (tgt := 24) hx hb dX12_body_18 (by decide) (fun c_5 => ?_) (fun c_5 => ?_)
    · have hZ := jx_i_neg c_5 hZ
      refine lv_aload_n hx hb dX12_body_24 rfl (lv_at hl 0 rfl) ?_
      refine gf_12_bodyKind hx hb hts in12 hown hK hP (hts (.fieldLink RX12 96 "CoinsOfLastModel" "bodyKind" "[I") (List.mem_of_getElem? (i := 2) rfl)) dX12_body_25 ?_
      refine lv_aload_n hx hb dX12_body_28 rfl (lv_at hl 0 rfl) ?_
      refine gf_12_bodies hx hb hts in12 hown hK hP (hts (.fieldLink RX12 372 "CoinsOfLastModel" "bodies" "I") (List.mem_of_getElem? (i := 1) rfl)) dX12_body_29 ?_
      refine lv_iload_n hx hb dX12_body_32 rfl (lv_at hl 1 rfl) ?_
      obtain ⟨c_6, hZ⟩ := jx_a_some hZ
      obtain ⟨S_7, e_S_7, hZ⟩ := jx_l_some hZ
      refine M_iast hx hb hK hP hD hS wM_29 (fun _ => wMs_29) c_6 e_S_7 dX12_body_33 (fun H locs hP hD hS => ?_)
      refine lv_aload_n hx hb dX12_body_34 rfl (lv_at hl 0 rfl) ?_
      refine lv_dup hx hb dX12_body_35 rfl ?_
      refine gf_12_bodies hx hb hts in12 hown hK hP (hts (.fieldLink RX12 372 "CoinsOfLastModel" "bodies" "I") (List.mem_of_getElem? (i := 1) rfl)) dX12_body_36 ?_
      refine lv_iconst (v := (1 : Int32)) hx hb dX12_body_39 (by decide) ?_
      refine lv_iadd hx hb dX12_body_40 ?_
      obtain ⟨S_8, e_S_8, hZ⟩ := jx_l_some hZ
      refine pf_12_bodies hx hb hts in12 hown hK hP hD hS (hts (.fieldLink RX12 372 "CoinsOfLastModel" "bodies" "I") (List.mem_of_getElem? (i := 1) rfl)) e_S_8 dX12_body_41 (fun H locs hP hD hS => ?_)
      refine lv_aload_n hx hb dX12_body_44 rfl (lv_at hl 0 rfl) ?_
      refine gf_12_bodies hx hb hts in12 hown hK hP (hts (.fieldLink RX12 372 "CoinsOfLastModel" "bodies" "I") (List.mem_of_getElem? (i := 1) rfl)) dX12_body_45 ?_
      refine lv_iconst (v := (1 : Int32)) hx hb dX12_body_48 (by decide) ?_
      refine lv_isub hx hb dX12_body_49 ?_
      exact leave_i hx hb hr hlocks hP hS hZ dX12_body_50
    · have hZ := jx_i_pos c_5 hZ
      refine lv_bipush (v := (-3 : Int32)) hx hb dX12_body_21 (by decide) ?_
      exact leave_i hx hb hr hlocks hP hS hZ dX12_body_23
  · have hZ := jx_i_pos c_4 hZ
    refine lv_iconst (v := (-1 : Int32)) hx hb dX12_body_10 (by decide) ?_
    exact leave_i hx hb hr hlocks hP hS hZ dX12_body_11
-- X12_act
def f_X12_act (x1 : Int32) (x2 : Int32) (x3 : Int32) (S : St) : Option (Int32 × St) :=
  jx_l (u1 S 0 50 (0 : Int32)) (fun S_1 => jx_b2 (f_X12_in x1 (0 : Int32) ((S_1.1 0 48) - (1 : Int32)) S_1) (fun r_4 S_2 => (if r_4 = 0 then some ((0 : Int32), S_2) else jx_b2 (f_X12_in x2 (0 : Int32) (3 : Int32) S_2) (fun r_8 S_6 => (if r_8 = 0 then some ((0 : Int32), S_6) else jx_l (u1 S_6 0 52 x1) (fun S_10 => jx_a x1 50 (jx_l (S_10.1 29 (Int32.toNatClampNeg x1)) (fun x4_12 => (if x2 = 0 then jx_b2 (f_X12_paysIn 8 x4_12 x3 S_10) (fun r_27 S_25 => some (r_27, S_25)) else (if x2 = (1 : Int32) then jx_b2 (f_X12_changesIn 8 x4_12 x3 S_10) (fun r_24 S_22 => some (r_24, S_22)) else (if x2 = (2 : Int32) then jx_b2 (f_X12_swapsIn 8 x4_12 x3 S_10) (fun r_21 S_19 => some (r_21, S_19)) else jx_b2 (f_X12_tellsIn 8 x4_12 x3 S_10) (fun r_18 S_16 => some (r_18, S_16)))))))))))))
set_option maxHeartbeats 4000000 in
set_option maxRecDepth 100000 in
theorem c_X12_act (l : Launch) (D : va_G) (q : Nat → Nat) (k : CI) (x1 : Int32) (x2 : Int32) (x3 : Int32) (S : St) (sz : Nat) (Z : Int32 × St) (hZ : f_X12_act x1 x2 x3 S = some Z) : MetI W_M SM l yX12_act wsX12_act { frames := 37, cells := 0, slots := 0, locals := 840 } [.ref (q 0), .int x1, .int x2, .int x3] D q k S sz Z := by
  refine enter (cc := cX12_act) (maxL := 5) (ret := some .int) (by decide) rfl (Nat.le_of_ble_eq_true rfl) ?_
  intro p e s m below meth c A ls hx hb hr hts hown hlocks hml hP hK hD hA hS hsp hAe hl
  have hown : s.vm.findClass RX12 = some m.cls := hown
  have hl : lv_has ls 5 [(0, .ref (q 0)), (1, .int x1), (2, .int x2), (3, .int x3)] := hl
  have in12 : ∀ w ∈ wsX120, w ∈ wsX12_act := fun _ h => (List.mem_cons_of_mem _ (List.mem_append_right _ h))
  unfold f_X12_act at hZ
  refine lv_aload_n hx hb dX12_act_0 rfl (lv_at hl 0 rfl) ?_
  refine lv_iconst (v := (0 : Int32)) hx hb dX12_act_1 (by decide) ?_
  obtain ⟨S_1, e_S_1, hZ⟩ := jx_l_some hZ
  refine pf_12_ran hx hb hts in12 hown hK hP hD hS (hts (.fieldLink RX12 348 "CoinsOfLastModel" "ran" "I") (List.mem_of_getElem? (i := 1) rfl)) e_S_1 dX12_act_2 (fun H locs hP hD hS => ?_)
  refine lv_iload_n hx hb dX12_act_5 rfl (lv_at hl 1 rfl) ?_
  refine lv_iconst (v := (0 : Int32)) hx hb dX12_act_6 (by decide) ?_
  refine lv_aload_n hx hb dX12_act_7 rfl (lv_at hl 0 rfl) ?_
  refine gf_12_bodies hx hb hts in12 hown hK hP (hts (.fieldLink RX12 372 "CoinsOfLastModel" "bodies" "I") (List.mem_of_getElem? (i := 2) rfl)) dX12_act_8 ?_
  refine lv_iconst (v := (1 : Int32)) hx hb dX12_act_11 (by decide) ?_
  refine lv_isub hx hb dX12_act_12 ?_
  obtain ⟨r_4, S_2, hc_3, hZ⟩ := jx_b2_some hZ
  refine call_Si SM_ok sameM ⟨hx, hb, hml, hown, hts⟩ (c_X12_in l D q k x1 (0 : Int32) ((S_1.1 0 48) - (1 : Int32)) S_1 _ (r_4, S_2)  hc_3) (va_cwS 3 hts gX12_act_X12_in rfl rfl rfl hd_X12_in ⟨Nat.le_of_ble_eq_true rfl, Nat.le_of_ble_eq_true rfl⟩) hK hP hD hS hA hsp (As := [.int x1, .int (0 : Int32), .int ((S_1.1 0 48) - (1 : Int32))]) rfl hl.1 rfl (Nat.le_of_ble_eq_true rfl) dX12_act_13 ⟨Nat.zero_le _, Nat.zero_le _⟩ (fun H locs hP hD hS => ?_)
  refine lv_if_eq (tgt := 28) hx hb dX12_act_16 (by decide) (fun c_5 => ?_) (fun c_5 => ?_)
  · have hZ := jx_i_pos c_5 hZ
    refine lv_iconst (v := (0 : Int32)) hx hb dX12_act_28 (by decide) ?_
    exact leave_i hx hb hr hlocks hP hS hZ dX12_act_29
  · have hZ := jx_i_neg c_5 hZ
    refine lv_iload_n hx hb dX12_act_19 rfl (lv_at hl 2 rfl) ?_
    refine lv_iconst (v := (0 : Int32)) hx hb dX12_act_20 (by decide) ?_
    refine lv_iconst (v := (3 : Int32)) hx hb dX12_act_21 (by decide) ?_
    obtain ⟨r_8, S_6, hc_7, hZ⟩ := jx_b2_some hZ
    refine call_Si SM_ok sameM ⟨hx, hb, hml, hown, hts⟩ (c_X12_in l D q k x2 (0 : Int32) (3 : Int32) S_2 _ (r_8, S_6)  hc_7) (va_cwS 3 hts gX12_act_X12_in rfl rfl rfl hd_X12_in ⟨Nat.le_of_ble_eq_true rfl, Nat.le_of_ble_eq_true rfl⟩) hK hP hD hS hA hsp (As := [.int x2, .int (0 : Int32), .int (3 : Int32)]) rfl hl.1 rfl (Nat.le_of_ble_eq_true rfl) dX12_act_22 ⟨Nat.zero_le _, Nat.zero_le _⟩ (fun H locs hP hD hS => ?_)
    refine lv_if_ne (tgt := 30) hx hb dX12_act_25 (by decide) (fun c_9 => ?_) (fun c_9 => ?_)
    · have hZ := jx_i_neg c_9 hZ
      refine lv_aload_n hx hb dX12_act_30 rfl (lv_at hl 0 rfl) ?_
      refine lv_iload_n hx hb dX12_act_31 rfl (lv_at hl 1 rfl) ?_
      obtain ⟨S_10, e_S_10, hZ⟩ := jx_l_some hZ
      refine pf_12_acting hx hb hts in12 hown hK hP hD hS (hts (.fieldLink RX12 360 "CoinsOfLastModel" "acting" "I") (List.mem_of_getElem? (i := 3) rfl)) e_S_10 dX12_act_32 (fun H locs hP hD hS => ?_)
      refine lv_aload_n hx hb dX12_act_35 rfl (lv_at hl 0 rfl) ?_
      refine gf_12_bodyKind hx hb hts in12 hown hK hP (hts (.fieldLink RX12 96 "CoinsOfLastModel" "bodyKind" "[I") (List.mem_of_getElem? (i := 4) rfl)) dX12_act_36 ?_
      refine lv_iload_n hx hb dX12_act_39 rfl (lv_at hl 1 rfl) ?_
      obtain ⟨c_11, hZ⟩ := jx_a_some hZ
      refine M_iald hx hb hK hP wM_29 c_11 dX12_act_40 ?_
      obtain ⟨x4_12, e_x4_12, hZ⟩ := jx_l_some hZ
      refine tx_i e_x4_12 ?_
      refine lv_istore (lv' := [(4, .int x4_12), (0, .ref (q 0)), (1, .int x1), (2, .int x2), (3, .int x3)]) hx hb dX12_act_41 hl (by decide) rfl (fun ls hl => ?_)
      refine lv_iload_n hx hb dX12_act_43 rfl (lv_at hl 3 rfl) ?_
      refine lv_if_ne (tgt := 57) hx hb dX12_act_44 (by decide) (fun c_13 => ?_) (fun c_13 => ?_)
      · have hZ := jx_i_neg c_13 hZ
        refine lv_iload_n hx hb dX12_act_57 rfl (lv_at hl 3 rfl) ?_
        refine lv_iconst (v := (1 : Int32)) hx hb dX12_act_58 (by decide) ?_
        refine lv_icmp_ne (tgt := 72) hx hb dX12_act_59 (by decide) (fun c_14 => ?_) (fun c_14 => ?_)
        · have hZ := jx_i_neg c_14 hZ
          refine lv_iload_n hx hb dX12_act_72 rfl (lv_at hl 3 rfl) ?_
          refine lv_iconst (v := (2 : Int32)) hx hb dX12_act_73 (by decide) ?_
          refine lv_icmp_ne (tgt := 87) hx hb dX12_act_74 (by decide) (fun c_15 => ?_) (fun c_15 => ?_)
          · have hZ := jx_i_neg c_15 hZ
            refine lv_aload_n hx hb dX12_act_87 rfl (lv_at hl 1 rfl) ?_
            refine lv_iload hx hb dX12_act_88 (lv_at hl 0 rfl) ?_
            refine lv_iload_n hx hb dX12_act_90 rfl (lv_at hl 4 rfl) ?_
            obtain ⟨r_18, S_16, hc_17, hZ⟩ := jx_b2_some hZ
            refine call_Vi SM_ok sameM ⟨hx, hb, hml, hown, hts⟩ (c_X12_tellsIn l D q k 8 x4_12 x3 S_10 _ (r_18, S_16)  hc_17) (cwV 2 hts gX12_act_X12_tellsIn rfl rfl rfl hd_X12_tellsIn ⟨Nat.le_of_ble_eq_true rfl, Nat.le_of_ble_eq_true rfl⟩) hK hP hD hS hA hsp (va_recv hK hP (ci := 12) (q0 := 0) rfl wM_0) (As := [.int x4_12, .int x3]) rfl hl.1 rfl (Nat.le_of_ble_eq_true rfl) dX12_act_91 ⟨Nat.zero_le _, Nat.zero_le _⟩ (fun H locs hP hD hS => ?_)
            exact leave_i hx hb hr hlocks hP hS hZ dX12_act_94
          · have hZ := jx_i_pos c_15 hZ
            refine lv_aload_n hx hb dX12_act_77 rfl (lv_at hl 1 rfl) ?_
            refine lv_iload hx hb dX12_act_78 (lv_at hl 0 rfl) ?_
            refine lv_iload_n hx hb dX12_act_80 rfl (lv_at hl 4 rfl) ?_
            obtain ⟨r_21, S_19, hc_20, hZ⟩ := jx_b2_some hZ
            refine call_Vi SM_ok sameM ⟨hx, hb, hml, hown, hts⟩ (c_X12_swapsIn l D q k 8 x4_12 x3 S_10 _ (r_21, S_19)  hc_20) (cwV 2 hts gX12_act_X12_swapsIn rfl rfl rfl hd_X12_swapsIn ⟨Nat.le_of_ble_eq_true rfl, Nat.le_of_ble_eq_true rfl⟩) hK hP hD hS hA hsp (va_recv hK hP (ci := 12) (q0 := 0) rfl wM_0) (As := [.int x4_12, .int x3]) rfl hl.1 rfl (Nat.le_of_ble_eq_true rfl) dX12_act_81 ⟨Nat.zero_le _, Nat.zero_le _⟩ (fun H locs hP hD hS => ?_)
            refine lv_goto (tgt := 94) hx hb dX12_act_84 (by decide) ?_
            exact leave_i hx hb hr hlocks hP hS hZ dX12_act_94
        · have hZ := jx_i_pos c_14 hZ
          refine lv_aload_n hx hb dX12_act_62 rfl (lv_at hl 1 rfl) ?_
          refine lv_iload hx hb dX12_act_63 (lv_at hl 0 rfl) ?_
          refine lv_iload_n hx hb dX12_act_65 rfl (lv_at hl 4 rfl) ?_
          obtain ⟨r_24, S_22, hc_23, hZ⟩ := jx_b2_some hZ
          refine call_Vi SM_ok sameM ⟨hx, hb, hml, hown, hts⟩ (c_X12_changesIn l D q k 8 x4_12 x3 S_10 _ (r_24, S_22)  hc_23) (cwV 2 hts gX12_act_X12_changesIn rfl rfl rfl hd_X12_changesIn ⟨Nat.le_of_ble_eq_true rfl, Nat.le_of_ble_eq_true rfl⟩) hK hP hD hS hA hsp (va_recv hK hP (ci := 12) (q0 := 0) rfl wM_0) (As := [.int x4_12, .int x3]) rfl hl.1 rfl (Nat.le_of_ble_eq_true rfl) dX12_act_66 ⟨Nat.zero_le _, Nat.zero_le _⟩ (fun H locs hP hD hS => ?_)
          refine lv_goto (tgt := 94) hx hb dX12_act_69 (by decide) ?_
          exact leave_i hx hb hr hlocks hP hS hZ dX12_act_94
      · have hZ := jx_i_pos c_13 hZ
        refine lv_aload_n hx hb dX12_act_47 rfl (lv_at hl 1 rfl) ?_
        refine lv_iload hx hb dX12_act_48 (lv_at hl 0 rfl) ?_
        refine lv_iload_n hx hb dX12_act_50 rfl (lv_at hl 4 rfl) ?_
        obtain ⟨r_27, S_25, hc_26, hZ⟩ := jx_b2_some hZ
        refine call_Vi SM_ok sameM ⟨hx, hb, hml, hown, hts⟩ (c_X12_paysIn l D q k 8 x4_12 x3 S_10 _ (r_27, S_25)  hc_26) (cwV 2 hts gX12_act_X12_paysIn rfl rfl rfl hd_X12_paysIn ⟨Nat.le_of_ble_eq_true rfl, Nat.le_of_ble_eq_true rfl⟩) hK hP hD hS hA hsp (va_recv hK hP (ci := 12) (q0 := 0) rfl wM_0) (As := [.int x4_12, .int x3]) rfl hl.1 rfl (Nat.le_of_ble_eq_true rfl) dX12_act_51 ⟨Nat.zero_le _, Nat.zero_le _⟩ (fun H locs hP hD hS => ?_)
        refine lv_goto (tgt := 94) hx hb dX12_act_54 (by decide) ?_
        exact leave_i hx hb hr hlocks hP hS hZ dX12_act_94
    · have hZ := jx_i_pos c_9 hZ
      refine lv_iconst (v := (0 : Int32)) hx hb dX12_act_28 (by decide) ?_
      exact leave_i hx hb hr hlocks hP hS hZ dX12_act_29
-- X12_trace
def f_X12_trace (x1 : Int32) (S : St) : Option (Int32 × St) :=
  (if x1 < 0 then some ((-1 : Int32), S) else (if (S.1 0 50) ≤ x1 then some ((-1 : Int32), S) else (if (24 : Int32) ≤ x1 then some ((-1 : Int32), S) else jx_a x1 24 (some ((S.1 30 (Int32.toNatClampNeg x1)), S)))))
set_option maxHeartbeats 4000000 in
set_option maxRecDepth 100000 in
theorem c_X12_trace (l : Launch) (D : va_G) (q : Nat → Nat) (k : CI) (x1 : Int32) (S : St) (sz : Nat) (Z : Int32 × St) (hZ : f_X12_trace x1 S = some Z) : MetI W_M SM l yX12_trace wsX12_trace { frames := 0, cells := 0, slots := 0, locals := 0 } [.ref (q 0), .int x1] D q k S sz Z := by
  refine enter (cc := cX12_trace) (maxL := 2) (ret := some .int) (by decide) rfl (Nat.le_of_ble_eq_true rfl) ?_
  intro p e s m below meth c A ls hx hb hr hts hown hlocks hml hP hK hD hA hS hsp hAe hl
  have hown : s.vm.findClass RX12 = some m.cls := hown
  have hl : lv_has ls 2 [(0, .ref (q 0)), (1, .int x1)] := hl
  have in12 : ∀ w ∈ wsX120, w ∈ wsX12_trace := fun _ h => (List.mem_cons_of_mem _ (List.mem_append_right _ h))
  unfold f_X12_trace at hZ
  refine lv_iload_n hx hb dX12_trace_0 rfl (lv_at hl 1 rfl) ?_
  refine lv_if_lt (tgt := 27) hx hb dX12_trace_1 (by decide) (fun c_1 => ?_) (fun c_1 => ?_)
  · have hZ := jx_i_pos c_1 hZ
    refine lv_iconst (v := (-1 : Int32)) hx hb dX12_trace_27 (by decide) ?_
    exact leave_i hx hb hr hlocks hP hS hZ dX12_trace_28
  · have hZ := jx_i_neg c_1 hZ
    refine lv_iload_n hx hb dX12_trace_4 rfl (lv_at hl 1 rfl) ?_
    refine lv_aload_n hx hb dX12_trace_5 rfl (lv_at hl 0 rfl) ?_
    refine gf_12_ran hx hb hts in12 hown hK hP (hts (.fieldLink RX12 348 "CoinsOfLastModel" "ran" "I") (List.mem_of_getElem? (i := 1) rfl)) dX12_trace_6 ?_
    refine lv_icmp_ge (tgt := 27) hx hb dX12_trace_9 (by decide) (fun c_2 => ?_) (fun c_2 => ?_)
    · have hZ := jx_i_pos c_2 hZ
      refine lv_iconst (v := (-1 : Int32)) hx hb dX12_trace_27 (by decide) ?_
      exact leave_i hx hb hr hlocks hP hS hZ dX12_trace_28
    · have hZ := jx_i_neg c_2 hZ
      refine lv_iload_n hx hb dX12_trace_12 rfl (lv_at hl 1 rfl) ?_
      refine lv_bipush (v := (24 : Int32)) hx hb dX12_trace_13 (by decide) ?_
      refine lv_icmp_ge (tgt := 27) hx hb dX12_trace_15 (by decide) (fun c_3 => ?_) (fun c_3 => ?_)
      · have hZ := jx_i_pos c_3 hZ
        refine lv_iconst (v := (-1 : Int32)) hx hb dX12_trace_27 (by decide) ?_
        exact leave_i hx hb hr hlocks hP hS hZ dX12_trace_28
      · have hZ := jx_i_neg c_3 hZ
        refine lv_aload_n hx hb dX12_trace_18 rfl (lv_at hl 0 rfl) ?_
        refine gf_12_trace hx hb hts in12 hown hK hP (hts (.fieldLink RX12 99 "CoinsOfLastModel" "trace" "[I") (List.mem_of_getElem? (i := 2) rfl)) dX12_trace_19 ?_
        refine lv_iload_n hx hb dX12_trace_22 rfl (lv_at hl 1 rfl) ?_
        obtain ⟨c_4, hZ⟩ := jx_a_some hZ
        refine M_iald hx hb hK hP wM_30 c_4 dX12_trace_23 ?_
        refine lv_goto (tgt := 28) hx hb dX12_trace_24 (by decide) ?_
        exact leave_i hx hb hr hlocks hP hS hZ dX12_trace_28
-- X12_keep
def f_X12_keep_38 (x1_10 : Int32) (x2_10 : Int32) (s1_10 : Int32) (s2_10 : Int32) (S_10 : St) : Option (Int32 × St) :=
  jx_a s1_10 6 (jx_l (u1 S_10 31 (Int32.toNatClampNeg s1_10) s2_10) (fun S_12 => jx_a x1_10 6 (jx_l (u1 S_12 32 (Int32.toNatClampNeg x1_10) x2_10) (fun S_14 => some ((1 : Int32), S_14)))))
def f_X12_keep (x1 : Int32) (x2 : Int32) (S : St) : Option (Int32 × St) :=
  jx_b2 (f_X12_isShelf x1 S) (fun r_3 S_1 => (if r_3 = 0 then some ((-1 : Int32), S_1) else jx_b2 (f_X12_in x2 (-1 : Int32) ((S_1.1 0 48) - (1 : Int32)) S_1) (fun r_7 S_5 => (if r_7 = 0 then some ((-1 : Int32), S_5) else (if x2 = (-1 : Int32) then f_X12_keep_38 x1 x2 x1 (-1 : Int32) S_5 else f_X12_keep_38 x1 x2 x1 (5 : Int32) S_5)))))
set_option maxHeartbeats 4000000 in
set_option maxRecDepth 100000 in
theorem c_X12_keep (l : Launch) (D : va_G) (q : Nat → Nat) (k : CI) (x1 : Int32) (x2 : Int32) (S : St) (sz : Nat) (Z : Int32 × St) (hZ : f_X12_keep x1 x2 S = some Z) : MetI W_M SM l yX12_keep wsX12_keep { frames := 2, cells := 0, slots := 0, locals := 42 } [.ref (q 0), .int x1, .int x2] D q k S sz Z := by
  refine enter (cc := cX12_keep) (maxL := 3) (ret := some .int) (by decide) rfl (Nat.le_of_ble_eq_true rfl) ?_
  intro p e s m below meth c A ls hx hb hr hts hown hlocks hml hP hK hD hA hS hsp hAe hl
  have hown : s.vm.findClass RX12 = some m.cls := hown
  have hl : lv_has ls 3 [(0, .ref (q 0)), (1, .int x1), (2, .int x2)] := hl
  have in12 : ∀ w ∈ wsX120, w ∈ wsX12_keep := fun _ h => (List.mem_cons_of_mem _ (List.mem_append_right _ h))
  have j38 : ∀ (x1_10 : Int32) (x2_10 : Int32) (s1_10 : Int32) (s2_10 : Int32) (S_10 : St)  (H : Heap) (locs : List Loc) (hZ : f_X12_keep_38 x1_10 x2_10 s1_10 s2_10 S_10 = some Z) (hP : va_P D vwCl (W_M q k S_10) H) (hD : va_D A (W_M q k S_10)) (hS : va_S A s.heap H locs) (ls : Array Slot) (hl : lv_has ls 3 [(0, .ref (q 0)), (1, .int x1_10), (2, .int x2_10)]), W p l e ({ frames := 2, cells := 0, slots := 0, locals := 42 } : Room) s m ([.ref (q 0), .int x1, .int x2] : List Value).toArray below meth c H locs 0 0 (MQ below (va_Qi (fun r u => (r, u) = Z) (fun u t => va_P D vwCl (W_M q k u) t.heap) A) ([.ref (q 0), .int x1, .int x2] : List Value).toArray s 0 0 A) (F0 m 38 ls [.int s2_10, .int s1_10, .ref (q 31)]) := by
    intro x1_10 x2_10 s1_10 s2_10 S_10   H locs hZ hP hD hS ls hl
    unfold f_X12_keep_38 at hZ
    obtain ⟨c_11, hZ⟩ := jx_a_some hZ
    obtain ⟨S_12, e_S_12, hZ⟩ := jx_l_some hZ
    refine M_iast hx hb hK hP hD hS wM_31 (fun _ => wMs_31) c_11 e_S_12 dX12_keep_38 (fun H locs hP hD hS => ?_)
    refine lv_aload_n hx hb dX12_keep_39 rfl (lv_at hl 0 rfl) ?_
    refine gf_12_shelfSize hx hb hts in12 hown hK hP (hts (.fieldLink RX12 105 "CoinsOfLastModel" "shelfSize" "[I") (List.mem_of_getElem? (i := 3) rfl)) dX12_keep_40 ?_
    refine lv_iload_n hx hb dX12_keep_43 rfl (lv_at hl 1 rfl) ?_
    refine lv_iload_n hx hb dX12_keep_44 rfl (lv_at hl 2 rfl) ?_
    obtain ⟨c_13, hZ⟩ := jx_a_some hZ
    obtain ⟨S_14, e_S_14, hZ⟩ := jx_l_some hZ
    refine M_iast hx hb hK hP hD hS wM_32 (fun _ => wMs_32) c_13 e_S_14 dX12_keep_45 (fun H locs hP hD hS => ?_)
    refine lv_iconst (v := (1 : Int32)) hx hb dX12_keep_46 (by decide) ?_
    exact leave_i hx hb hr hlocks hP hS hZ dX12_keep_47
  unfold f_X12_keep at hZ
  refine lv_iload_n hx hb dX12_keep_0 rfl (lv_at hl 1 rfl) ?_
  obtain ⟨r_3, S_1, hc_2, hZ⟩ := jx_b2_some hZ
  refine call_Si SM_ok sameM ⟨hx, hb, hml, hown, hts⟩ (c_X12_isShelf l D q k x1 S _ (r_3, S_1)  hc_2) (va_cwS 1 hts gX12_keep_X12_isShelf rfl rfl rfl hd_X12_isShelf ⟨Nat.le_of_ble_eq_true rfl, Nat.le_of_ble_eq_true rfl⟩) hK hP hD hS hA hsp (As := [.int x1]) rfl hl.1 rfl (Nat.le_of_ble_eq_true rfl) dX12_keep_1 ⟨Nat.zero_le _, Nat.zero_le _⟩ (fun H locs hP hD hS => ?_)
  refine lv_if_eq (tgt := 21) hx hb dX12_keep_4 (by decide) (fun c_4 => ?_) (fun c_4 => ?_)
  · have hZ := jx_i_pos c_4 hZ
    refine lv_iconst (v := (-1 : Int32)) hx hb dX12_keep_21 (by decide) ?_
    exact leave_i hx hb hr hlocks hP hS hZ dX12_keep_22
  · have hZ := jx_i_neg c_4 hZ
    refine lv_iload_n hx hb dX12_keep_7 rfl (lv_at hl 2 rfl) ?_
    refine lv_iconst (v := (-1 : Int32)) hx hb dX12_keep_8 (by decide) ?_
    refine lv_aload_n hx hb dX12_keep_9 rfl (lv_at hl 0 rfl) ?_
    refine gf_12_bodies hx hb hts in12 hown hK hP (hts (.fieldLink RX12 372 "CoinsOfLastModel" "bodies" "I") (List.mem_of_getElem? (i := 1) rfl)) dX12_keep_10 ?_
    refine lv_iconst (v := (1 : Int32)) hx hb dX12_keep_13 (by decide) ?_
    refine lv_isub hx hb dX12_keep_14 ?_
    obtain ⟨r_7, S_5, hc_6, hZ⟩ := jx_b2_some hZ
    refine call_Si SM_ok sameM ⟨hx, hb, hml, hown, hts⟩ (c_X12_in l D q k x2 (-1 : Int32) ((S_1.1 0 48) - (1 : Int32)) S_1 _ (r_7, S_5)  hc_6) (va_cwS 3 hts gX12_keep_X12_in rfl rfl rfl hd_X12_in ⟨Nat.le_of_ble_eq_true rfl, Nat.le_of_ble_eq_true rfl⟩) hK hP hD hS hA hsp (As := [.int x2, .int (-1 : Int32), .int ((S_1.1 0 48) - (1 : Int32))]) rfl hl.1 rfl (Nat.le_of_ble_eq_true rfl) dX12_keep_15 ⟨Nat.zero_le _, Nat.zero_le _⟩ (fun H locs hP hD hS => ?_)
    refine lv_if_ne (tgt := 23) hx hb dX12_keep_18 (by decide) (fun c_8 => ?_) (fun c_8 => ?_)
    · have hZ := jx_i_neg c_8 hZ
      refine lv_aload_n hx hb dX12_keep_23 rfl (lv_at hl 0 rfl) ?_
      refine gf_12_shelfIs hx hb hts in12 hown hK hP (hts (.fieldLink RX12 102 "CoinsOfLastModel" "shelfIs" "[I") (List.mem_of_getElem? (i := 2) rfl)) dX12_keep_24 ?_
      refine lv_iload_n hx hb dX12_keep_27 rfl (lv_at hl 1 rfl) ?_
      refine lv_iload_n hx hb dX12_keep_28 rfl (lv_at hl 2 rfl) ?_
      refine lv_iconst (v := (-1 : Int32)) hx hb dX12_keep_29 (by decide) ?_
      refine lv_icmp_ne (tgt := 37) hx hb dX12_keep_30 (by decide) (fun c_9 => ?_) (fun c_9 => ?_)
      · have hZ := jx_i_neg c_9 hZ
        refine lv_iconst (v := (5 : Int32)) hx hb dX12_keep_37 (by decide) ?_
        exact j38 x1 x2 x1 (5 : Int32) S_5 _ _ hZ hP hD hS _ (lv_sub hl [0, 1, 2] rfl)
      · have hZ := jx_i_pos c_9 hZ
        refine lv_iconst (v := (-1 : Int32)) hx hb dX12_keep_33 (by decide) ?_
        refine lv_goto (tgt := 38) hx hb dX12_keep_34 (by decide) ?_
        exact j38 x1 x2 x1 (-1 : Int32) S_5 _ _ hZ hP hD hS _ (lv_sub hl [0, 1, 2] rfl)
    · have hZ := jx_i_pos c_8 hZ
      refine lv_iconst (v := (-1 : Int32)) hx hb dX12_keep_21 (by decide) ?_
      exact leave_i hx hb hr hlocks hP hS hZ dX12_keep_22
