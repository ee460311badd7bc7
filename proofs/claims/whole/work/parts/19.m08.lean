-- X12_in
def f_X12_in (x0 : Int32) (x1 : Int32) (x2 : Int32) (S : St) : Option (Int32 × St) :=
  (if x0 < x1 then some ((0 : Int32), S) else (if x2 < x0 then some ((0 : Int32), S) else some ((1 : Int32), S)))
set_option maxHeartbeats 4000000 in
set_option maxRecDepth 100000 in
theorem c_X12_in (l : Launch) (D : va_G) (q : Nat → Nat) (k : CI) (x0 : Int32) (x1 : Int32) (x2 : Int32) (S : St) (sz : Nat) (Z : Int32 × St) (hZ : f_X12_in x0 x1 x2 S = some Z) : MetI W_M SM l yX12_in wsX12_in { frames := 0, cells := 0, slots := 0, locals := 0 } [.int x0, .int x1, .int x2] D q k S sz Z := by
  refine enter (cc := cX12_in) (maxL := 3) (ret := some .boolean) (by decide) rfl (Nat.le_of_ble_eq_true rfl) ?_
  intro p e s m below meth c A ls hx hb hr hts hown hlocks hml hP hK hD hA hS hsp hAe hl
  have hown : s.vm.findClass RX12 = some m.cls := hown
  have hl : lv_has ls 3 [(0, .int x0), (1, .int x1), (2, .int x2)] := hl
  unfold f_X12_in at hZ
  refine lv_iload_n hx hb dX12_in_0 rfl (lv_at hl 0 rfl) ?_
  refine lv_iload_n hx hb dX12_in_1 rfl (lv_at hl 1 rfl) ?_
  refine lv_icmp_lt (tgt := 14) hx hb dX12_in_2 (by decide) (fun c_1 => ?_) (fun c_1 => ?_)
  · have hZ := jx_i_pos c_1 hZ
    refine lv_iconst (v := (0 : Int32)) hx hb dX12_in_14 (by decide) ?_
    exact leave_z hx hb hr hlocks rfl hP hS hZ dX12_in_15
  · have hZ := jx_i_neg c_1 hZ
    refine lv_iload_n hx hb dX12_in_5 rfl (lv_at hl 0 rfl) ?_
    refine lv_iload_n hx hb dX12_in_6 rfl (lv_at hl 2 rfl) ?_
    refine lv_icmp_gt (tgt := 14) hx hb dX12_in_7 (by decide) (fun c_2 => ?_) (fun c_2 => ?_)
    · have hZ := jx_i_pos c_2 hZ
      refine lv_iconst (v := (0 : Int32)) hx hb dX12_in_14 (by decide) ?_
      exact leave_z hx hb hr hlocks rfl hP hS hZ dX12_in_15
    · have hZ := jx_i_neg c_2 hZ
      refine lv_iconst (v := (1 : Int32)) hx hb dX12_in_10 (by decide) ?_
      refine lv_goto (tgt := 15) hx hb dX12_in_11 (by decide) ?_
      exact leave_z hx hb hr hlocks rfl hP hS hZ dX12_in_15
-- X12_within
def f_X12_within (x0 : Int32) (x1 : Int32) (x2 : Int32) (S : St) : Option (Int32 × St) :=
  (if x1 ≤ x0 then (if x0 ≤ x2 then some (x0, S) else some (x2, S)) else some (x1, S))
set_option maxHeartbeats 4000000 in
set_option maxRecDepth 100000 in
theorem c_X12_within (l : Launch) (D : va_G) (q : Nat → Nat) (k : CI) (x0 : Int32) (x1 : Int32) (x2 : Int32) (S : St) (sz : Nat) (Z : Int32 × St) (hZ : f_X12_within x0 x1 x2 S = some Z) : MetI W_M SM l yX12_within wsX12_within { frames := 0, cells := 0, slots := 0, locals := 0 } [.int x0, .int x1, .int x2] D q k S sz Z := by
  refine enter (cc := cX12_within) (maxL := 3) (ret := some .int) (by decide) rfl (Nat.le_of_ble_eq_true rfl) ?_
  intro p e s m below meth c A ls hx hb hr hts hown hlocks hml hP hK hD hA hS hsp hAe hl
  have hown : s.vm.findClass RX12 = some m.cls := hown
  have hl : lv_has ls 3 [(0, .int x0), (1, .int x1), (2, .int x2)] := hl
  unfold f_X12_within at hZ
  refine lv_iload_n hx hb dX12_within_0 rfl (lv_at hl 0 rfl) ?_
  refine lv_iload_n hx hb dX12_within_1 rfl (lv_at hl 1 rfl) ?_
  refine lv_icmp_ge (tgt := 9) hx hb dX12_within_2 (by decide) (fun c_1 => ?_) (fun c_1 => ?_)
  · have hZ := jx_i_pos c_1 hZ
    refine lv_iload_n hx hb dX12_within_9 rfl (lv_at hl 0 rfl) ?_
    refine lv_iload_n hx hb dX12_within_10 rfl (lv_at hl 2 rfl) ?_
    refine lv_icmp_le (tgt := 18) hx hb dX12_within_11 (by decide) (fun c_2 => ?_) (fun c_2 => ?_)
    · have hZ := jx_i_pos c_2 hZ
      refine lv_iload_n hx hb dX12_within_18 rfl (lv_at hl 0 rfl) ?_
      exact leave_i hx hb hr hlocks hP hS hZ dX12_within_19
    · have hZ := jx_i_neg c_2 hZ
      refine lv_iload_n hx hb dX12_within_14 rfl (lv_at hl 2 rfl) ?_
      refine lv_goto (tgt := 19) hx hb dX12_within_15 (by decide) ?_
      exact leave_i hx hb hr hlocks hP hS hZ dX12_within_19
  · have hZ := jx_i_neg c_1 hZ
    refine lv_iload_n hx hb dX12_within_5 rfl (lv_at hl 1 rfl) ?_
    refine lv_goto (tgt := 19) hx hb dX12_within_6 (by decide) ?_
    exact leave_i hx hb hr hlocks hP hS hZ dX12_within_19
theorem hd_X12_in : yX12_in.cls ≠ "java/lang/invoke/MethodHandle" ∧ yX12_in.cls ≠ "java/lang/invoke/VarHandle" ∧ (parseMethodDescriptor yX12_in.desc).map (fun d => d.parameters.length) = some 3 := by decide +kernel
-- X12_isSort
def f_X12_isSort (x1 : Int32) (S : St) : Option (Int32 × St) :=
  jx_b2 (f_X12_in x1 (0 : Int32) ((S.1 0 0) - (1 : Int32)) S) (fun r_3 S_1 => jx_z r_3 (some (r_3, S_1)))
set_option maxHeartbeats 4000000 in
set_option maxRecDepth 100000 in
theorem c_X12_isSort (l : Launch) (D : va_G) (q : Nat → Nat) (k : CI) (x1 : Int32) (S : St) (sz : Nat) (Z : Int32 × St) (hZ : f_X12_isSort x1 S = some Z) : MetI W_M SM l yX12_isSort wsX12_isSort { frames := 1, cells := 0, slots := 0, locals := 22 } [.ref (q 0), .int x1] D q k S sz Z := by
  refine enter (cc := cX12_isSort) (maxL := 2) (ret := some .boolean) (by decide) rfl (Nat.le_of_ble_eq_true rfl) ?_
  intro p e s m below meth c A ls hx hb hr hts hown hlocks hml hP hK hD hA hS hsp hAe hl
  have hown : s.vm.findClass RX12 = some m.cls := hown
  have hl : lv_has ls 2 [(0, .ref (q 0)), (1, .int x1)] := hl
  have in12 : ∀ w ∈ wsX120, w ∈ wsX12_isSort := fun _ h => (List.mem_cons_of_mem _ (List.mem_append_right _ h))
  unfold f_X12_isSort at hZ
  refine lv_iload_n hx hb dX12_isSort_0 rfl (lv_at hl 1 rfl) ?_
  refine lv_iconst (v := (0 : Int32)) hx hb dX12_isSort_1 (by decide) ?_
  refine lv_aload_n hx hb dX12_isSort_2 rfl (lv_at hl 0 rfl) ?_
  refine gf_12_sorts hx hb hts in12 hown hK hP (hts (.fieldLink RX12 114 "CoinsOfLastModel" "sorts" "I") (List.mem_of_getElem? (i := 1) rfl)) dX12_isSort_3 ?_
  refine lv_iconst (v := (1 : Int32)) hx hb dX12_isSort_6 (by decide) ?_
  refine lv_isub hx hb dX12_isSort_7 ?_
  obtain ⟨r_3, S_1, hc_2, hZ⟩ := jx_b2_some hZ
  refine call_Si SM_ok sameM ⟨hx, hb, hml, hown, hts⟩ (c_X12_in l D q k x1 (0 : Int32) ((S.1 0 0) - (1 : Int32)) S _ (r_3, S_1)  hc_2) (va_cwS 3 hts gX12_isSort_X12_in rfl rfl rfl hd_X12_in ⟨Nat.le_of_ble_eq_true rfl, Nat.le_of_ble_eq_true rfl⟩) hK hP hD hS hA hsp (As := [.int x1, .int (0 : Int32), .int ((S.1 0 0) - (1 : Int32))]) rfl hl.1 rfl (Nat.le_of_ble_eq_true rfl) dX12_isSort_8 ⟨Nat.zero_le _, Nat.zero_le _⟩ (fun H locs hP hD hS => ?_)
  obtain ⟨hnz, hZ⟩ := jx_z_some hZ
  exact leave_z hx hb hr hlocks hnz hP hS hZ dX12_isSort_11
-- X12_isThing
def f_X12_isThing (x1 : Int32) (S : St) : Option (Int32 × St) :=
  jx_b2 (f_X12_in x1 (0 : Int32) ((S.1 0 6) - (1 : Int32)) S) (fun r_3 S_1 => jx_z r_3 (some (r_3, S_1)))
set_option maxHeartbeats 4000000 in
set_option maxRecDepth 100000 in
theorem c_X12_isThing (l : Launch) (D : va_G) (q : Nat → Nat) (k : CI) (x1 : Int32) (S : St) (sz : Nat) (Z : Int32 × St) (hZ : f_X12_isThing x1 S = some Z) : MetI W_M SM l yX12_isThing wsX12_isThing { frames := 1, cells := 0, slots := 0, locals := 22 } [.ref (q 0), .int x1] D q k S sz Z := by
  refine enter (cc := cX12_isThing) (maxL := 2) (ret := some .boolean) (by decide) rfl (Nat.le_of_ble_eq_true rfl) ?_
  intro p e s m below meth c A ls hx hb hr hts hown hlocks hml hP hK hD hA hS hsp hAe hl
  have hown : s.vm.findClass RX12 = some m.cls := hown
  have hl : lv_has ls 2 [(0, .ref (q 0)), (1, .int x1)] := hl
  have in12 : ∀ w ∈ wsX120, w ∈ wsX12_isThing := fun _ h => (List.mem_cons_of_mem _ (List.mem_append_right _ h))
  unfold f_X12_isThing at hZ
  refine lv_iload_n hx hb dX12_isThing_0 rfl (lv_at hl 1 rfl) ?_
  refine lv_iconst (v := (0 : Int32)) hx hb dX12_isThing_1 (by decide) ?_
  refine lv_aload_n hx hb dX12_isThing_2 rfl (lv_at hl 0 rfl) ?_
  refine gf_12_things hx hb hts in12 hown hK hP (hts (.fieldLink RX12 122 "CoinsOfLastModel" "things" "I") (List.mem_of_getElem? (i := 1) rfl)) dX12_isThing_3 ?_
  refine lv_iconst (v := (1 : Int32)) hx hb dX12_isThing_6 (by decide) ?_
  refine lv_isub hx hb dX12_isThing_7 ?_
  obtain ⟨r_3, S_1, hc_2, hZ⟩ := jx_b2_some hZ
  refine call_Si SM_ok sameM ⟨hx, hb, hml, hown, hts⟩ (c_X12_in l D q k x1 (0 : Int32) ((S.1 0 6) - (1 : Int32)) S _ (r_3, S_1)  hc_2) (va_cwS 3 hts gX12_isThing_X12_in rfl rfl rfl hd_X12_in ⟨Nat.le_of_ble_eq_true rfl, Nat.le_of_ble_eq_true rfl⟩) hK hP hD hS hA hsp (As := [.int x1, .int (0 : Int32), .int ((S.1 0 6) - (1 : Int32))]) rfl hl.1 rfl (Nat.le_of_ble_eq_true rfl) dX12_isThing_8 ⟨Nat.zero_le _, Nat.zero_le _⟩ (fun H locs hP hD hS => ?_)
  obtain ⟨hnz, hZ⟩ := jx_z_some hZ
  exact leave_z hx hb hr hlocks hnz hP hS hZ dX12_isThing_11
-- X12_isLand
def f_X12_isLand (x0 : Int32) (S : St) : Option (Int32 × St) :=
  jx_b2 (f_X12_in x0 (0 : Int32) (3 : Int32) S) (fun r_3 S_1 => jx_z r_3 (some (r_3, S_1)))
set_option maxHeartbeats 4000000 in
set_option maxRecDepth 100000 in
theorem c_X12_isLand (l : Launch) (D : va_G) (q : Nat → Nat) (k : CI) (x0 : Int32) (S : St) (sz : Nat) (Z : Int32 × St) (hZ : f_X12_isLand x0 S = some Z) : MetI W_M SM l yX12_isLand wsX12_isLand { frames := 1, cells := 0, slots := 0, locals := 22 } [.int x0] D q k S sz Z := by
  refine enter (cc := cX12_isLand) (maxL := 1) (ret := some .boolean) (by decide) rfl (Nat.le_of_ble_eq_true rfl) ?_
  intro p e s m below meth c A ls hx hb hr hts hown hlocks hml hP hK hD hA hS hsp hAe hl
  have hown : s.vm.findClass RX12 = some m.cls := hown
  have hl : lv_has ls 1 [(0, .int x0)] := hl
  unfold f_X12_isLand at hZ
  refine lv_iload_n hx hb dX12_isLand_0 rfl (lv_at hl 0 rfl) ?_
  refine lv_iconst (v := (0 : Int32)) hx hb dX12_isLand_1 (by decide) ?_
  refine lv_iconst (v := (3 : Int32)) hx hb dX12_isLand_2 (by decide) ?_
  obtain ⟨r_3, S_1, hc_2, hZ⟩ := jx_b2_some hZ
  refine call_Si SM_ok sameM ⟨hx, hb, hml, hown, hts⟩ (c_X12_in l D q k x0 (0 : Int32) (3 : Int32) S _ (r_3, S_1)  hc_2) (va_cwS 3 hts gX12_isLand_X12_in rfl rfl rfl hd_X12_in ⟨Nat.le_of_ble_eq_true rfl, Nat.le_of_ble_eq_true rfl⟩) hK hP hD hS hA hsp (As := [.int x0, .int (0 : Int32), .int (3 : Int32)]) rfl hl.1 rfl (Nat.le_of_ble_eq_true rfl) dX12_isLand_3 ⟨Nat.zero_le _, Nat.zero_le _⟩ (fun H locs hP hD hS => ?_)
  obtain ⟨hnz, hZ⟩ := jx_z_some hZ
  exact leave_z hx hb hr hlocks hnz hP hS hZ dX12_isLand_6
theorem hd_X12_isLand : yX12_isLand.cls ≠ "java/lang/invoke/MethodHandle" ∧ yX12_isLand.cls ≠ "java/lang/invoke/VarHandle" ∧ (parseMethodDescriptor yX12_isLand.desc).map (fun d => d.parameters.length) = some 1 := by decide +kernel
-- X12_isSoSort
def f_X12_isSoSort (x1 : Int32) (x2 : Int32) (x3 : Int32) (x4 : Int32) (S : St) : Option (Int32 × St) :=
  jx_b2 (f_X12_isLand x1 S) (fun r_3 S_1 => (if r_3 = 0 then some ((0 : Int32), S_1) else jx_b2 (f_X12_in x2 (1 : Int32) (40 : Int32) S_1) (fun r_7 S_5 => (if r_7 = 0 then some ((0 : Int32), S_5) else jx_b2 (f_X12_in x3 (0 : Int32) (99 : Int32) S_5) (fun r_11 S_9 => (if r_11 = 0 then some ((0 : Int32), S_9) else jx_b2 (f_X12_in x4 (0 : Int32) (99 : Int32) S_9) (fun r_15 S_13 => (if r_15 = 0 then some ((0 : Int32), S_13) else some ((1 : Int32), S_13)))))))))
set_option maxHeartbeats 4000000 in
set_option maxRecDepth 100000 in
theorem c_X12_isSoSort (l : Launch) (D : va_G) (q : Nat → Nat) (k : CI) (x1 : Int32) (x2 : Int32) (x3 : Int32) (x4 : Int32) (S : St) (sz : Nat) (Z : Int32 × St) (hZ : f_X12_isSoSort x1 x2 x3 x4 S = some Z) : MetI W_M SM l yX12_isSoSort wsX12_isSoSort { frames := 2, cells := 0, slots := 0, locals := 42 } [.ref (q 0), .int x1, .int x2, .int x3, .int x4] D q k S sz Z := by
  refine enter (cc := cX12_isSoSort) (maxL := 5) (ret := some .boolean) (by decide) rfl (Nat.le_of_ble_eq_true rfl) ?_
  intro p e s m below meth c A ls hx hb hr hts hown hlocks hml hP hK hD hA hS hsp hAe hl
  have hown : s.vm.findClass RX12 = some m.cls := hown
  have hl : lv_has ls 5 [(0, .ref (q 0)), (1, .int x1), (2, .int x2), (3, .int x3), (4, .int x4)] := hl
  unfold f_X12_isSoSort at hZ
  refine lv_iload_n hx hb dX12_isSoSort_0 rfl (lv_at hl 1 rfl) ?_
  obtain ⟨r_3, S_1, hc_2, hZ⟩ := jx_b2_some hZ
  refine call_Si SM_ok sameM ⟨hx, hb, hml, hown, hts⟩ (c_X12_isLand l D q k x1 S _ (r_3, S_1)  hc_2) (va_cwS 1 hts gX12_isSoSort_X12_isLand rfl rfl rfl hd_X12_isLand ⟨Nat.le_of_ble_eq_true rfl, Nat.le_of_ble_eq_true rfl⟩) hK hP hD hS hA hsp (As := [.int x1]) rfl hl.1 rfl (Nat.le_of_ble_eq_true rfl) dX12_isSoSort_1 ⟨Nat.zero_le _, Nat.zero_le _⟩ (fun H locs hP hD hS => ?_)
  refine lv_if_eq (tgt := 42) hx hb dX12_isSoSort_4 (by decide) (fun c_4 => ?_) (fun c_4 => ?_)
  · have hZ := jx_i_pos c_4 hZ
    refine lv_iconst (v := (0 : Int32)) hx hb dX12_isSoSort_42 (by decide) ?_
    exact leave_z hx hb hr hlocks rfl hP hS hZ dX12_isSoSort_43
  · have hZ := jx_i_neg c_4 hZ
    refine lv_iload_n hx hb dX12_isSoSort_7 rfl (lv_at hl 2 rfl) ?_
    refine lv_iconst (v := (1 : Int32)) hx hb dX12_isSoSort_8 (by decide) ?_
    refine lv_bipush (v := (40 : Int32)) hx hb dX12_isSoSort_9 (by decide) ?_
    obtain ⟨r_7, S_5, hc_6, hZ⟩ := jx_b2_some hZ
    refine call_Si SM_ok sameM ⟨hx, hb, hml, hown, hts⟩ (c_X12_in l D q k x2 (1 : Int32) (40 : Int32) S_1 _ (r_7, S_5)  hc_6) (va_cwS 3 hts gX12_isSoSort_X12_in rfl rfl rfl hd_X12_in ⟨Nat.le_of_ble_eq_true rfl, Nat.le_of_ble_eq_true rfl⟩) hK hP hD hS hA hsp (As := [.int x2, .int (1 : Int32), .int (40 : Int32)]) rfl hl.1 rfl (Nat.le_of_ble_eq_true rfl) dX12_isSoSort_11 ⟨Nat.zero_le _, Nat.zero_le _⟩ (fun H locs hP hD hS => ?_)
    refine lv_if_eq (tgt := 42) hx hb dX12_isSoSort_14 (by decide) (fun c_8 => ?_) (fun c_8 => ?_)
    · have hZ := jx_i_pos c_8 hZ
      refine lv_iconst (v := (0 : Int32)) hx hb dX12_isSoSort_42 (by decide) ?_
      exact leave_z hx hb hr hlocks rfl hP hS hZ dX12_isSoSort_43
    · have hZ := jx_i_neg c_8 hZ
      refine lv_iload_n hx hb dX12_isSoSort_17 rfl (lv_at hl 3 rfl) ?_
      refine lv_iconst (v := (0 : Int32)) hx hb dX12_isSoSort_18 (by decide) ?_
      refine lv_bipush (v := (99 : Int32)) hx hb dX12_isSoSort_19 (by decide) ?_
      obtain ⟨r_11, S_9, hc_10, hZ⟩ := jx_b2_some hZ
      refine call_Si SM_ok sameM ⟨hx, hb, hml, hown, hts⟩ (c_X12_in l D q k x3 (0 : Int32) (99 : Int32) S_5 _ (r_11, S_9)  hc_10) (va_cwS 3 hts gX12_isSoSort_X12_in rfl rfl rfl hd_X12_in ⟨Nat.le_of_ble_eq_true rfl, Nat.le_of_ble_eq_true rfl⟩) hK hP hD hS hA hsp (As := [.int x3, .int (0 : Int32), .int (99 : Int32)]) rfl hl.1 rfl (Nat.le_of_ble_eq_true rfl) dX12_isSoSort_21 ⟨Nat.zero_le _, Nat.zero_le _⟩ (fun H locs hP hD hS => ?_)
      refine lv_if_eq (tgt := 42) hx hb dX12_isSoSort_24 (by decide) (fun c_12 => ?_) (fun c_12 => ?_)
      · have hZ := jx_i_pos c_12 hZ
        refine lv_iconst (v := (0 : Int32)) hx hb dX12_isSoSort_42 (by decide) ?_
        exact leave_z hx hb hr hlocks rfl hP hS hZ dX12_isSoSort_43
      · have hZ := jx_i_neg c_12 hZ
        refine lv_iload hx hb dX12_isSoSort_27 (lv_at hl 4 rfl) ?_
        refine lv_iconst (v := (0 : Int32)) hx hb dX12_isSoSort_29 (by decide) ?_
        refine lv_bipush (v := (99 : Int32)) hx hb dX12_isSoSort_30 (by decide) ?_
        obtain ⟨r_15, S_13, hc_14, hZ⟩ := jx_b2_some hZ
        refine call_Si SM_ok sameM ⟨hx, hb, hml, hown, hts⟩ (c_X12_in l D q k x4 (0 : Int32) (99 : Int32) S_9 _ (r_15, S_13)  hc_14) (va_cwS 3 hts gX12_isSoSort_X12_in rfl rfl rfl hd_X12_in ⟨Nat.le_of_ble_eq_true rfl, Nat.le_of_ble_eq_true rfl⟩) hK hP hD hS hA hsp (As := [.int x4, .int (0 : Int32), .int (99 : Int32)]) rfl hl.1 rfl (Nat.le_of_ble_eq_true rfl) dX12_isSoSort_32 ⟨Nat.zero_le _, Nat.zero_le _⟩ (fun H locs hP hD hS => ?_)
        refine lv_if_eq (tgt := 42) hx hb dX12_isSoSort_35 (by decide) (fun c_16 => ?_) (fun c_16 => ?_)
        · have hZ := jx_i_pos c_16 hZ
          refine lv_iconst (v := (0 : Int32)) hx hb dX12_isSoSort_42 (by decide) ?_
          exact leave_z hx hb hr hlocks rfl hP hS hZ dX12_isSoSort_43
        · have hZ := jx_i_neg c_16 hZ
          refine lv_iconst (v := (1 : Int32)) hx hb dX12_isSoSort_38 (by decide) ?_
          refine lv_goto (tgt := 43) hx hb dX12_isSoSort_39 (by decide) ?_
          exact leave_z hx hb hr hlocks rfl hP hS hZ dX12_isSoSort_43
-- X12_comes
def f_X12_comes (x1 : Int32) (x2 : Int32) (x3 : Int32) (x4 : Int32) (S : St) : Option (St) :=
  jx_a (S.1 0 0) 8 (jx_l (u1 S 1 (Int32.toNatClampNeg (S.1 0 0)) x1) (fun S_2 => jx_a (S_2.1 0 0) 8 (jx_l (u1 S_2 2 (Int32.toNatClampNeg (S_2.1 0 0)) x2) (fun S_4 => jx_a (S_4.1 0 0) 8 (jx_l (u1 S_4 3 (Int32.toNatClampNeg (S_4.1 0 0)) x3) (fun S_6 => jx_a (S_6.1 0 0) 8 (jx_l (u1 S_6 4 (Int32.toNatClampNeg (S_6.1 0 0)) x4) (fun S_8 => jx_a (S_8.1 0 0) 8 (jx_l (u1 S_8 5 (Int32.toNatClampNeg (S_8.1 0 0)) (0 : Int32)) (fun S_10 => jx_l (u1 S_10 0 0 ((S_10.1 0 0) + (1 : Int32))) (fun S_11 => some S_11)))))))))))
set_option maxHeartbeats 4000000 in
set_option maxRecDepth 100000 in
theorem c_X12_comes (l : Launch) (D : va_G) (q : Nat → Nat) (k : CI) (x1 : Int32) (x2 : Int32) (x3 : Int32) (x4 : Int32) (S : St) (sz : Nat) (Z : St) (hZ : f_X12_comes x1 x2 x3 x4 S = some Z) : MetV W_M SM l yX12_comes wsX12_comes { frames := 0, cells := 0, slots := 0, locals := 0 } [.ref (q 0), .int x1, .int x2, .int x3, .int x4] D q k S sz Z := by
  refine enter (cc := cX12_comes) (maxL := 5) (ret := none) (by decide) rfl (Nat.le_of_ble_eq_true rfl) ?_
  intro p e s m below meth c A ls hx hb hr hts hown hlocks hml hP hK hD hA hS hsp hAe hl
  have hown : s.vm.findClass RX12 = some m.cls := hown
  have hl : lv_has ls 5 [(0, .ref (q 0)), (1, .int x1), (2, .int x2), (3, .int x3), (4, .int x4)] := hl
  have in12 : ∀ w ∈ wsX120, w ∈ wsX12_comes := fun _ h => (List.mem_cons_of_mem _ (List.mem_append_right _ h))
  unfold f_X12_comes at hZ
  refine lv_aload_n hx hb dX12_comes_0 rfl (lv_at hl 0 rfl) ?_
  refine gf_12_landOf hx hb hts in12 hown hK hP (hts (.fieldLink RX12 7 "CoinsOfLastModel" "landOf" "[I") (List.mem_of_getElem? (i := 1) rfl)) dX12_comes_1 ?_
  refine lv_aload_n hx hb dX12_comes_4 rfl (lv_at hl 0 rfl) ?_
  refine gf_12_sorts hx hb hts in12 hown hK hP (hts (.fieldLink RX12 114 "CoinsOfLastModel" "sorts" "I") (List.mem_of_getElem? (i := 2) rfl)) dX12_comes_5 ?_
  refine lv_iload_n hx hb dX12_comes_8 rfl (lv_at hl 1 rfl) ?_
  obtain ⟨c_1, hZ⟩ := jx_a_some hZ
  obtain ⟨S_2, e_S_2, hZ⟩ := jx_l_some hZ
  refine M_iast hx hb hK hP hD hS wM_1 (fun _ => wMs_1) c_1 e_S_2 dX12_comes_9 (fun H locs hP hD hS => ?_)
  refine lv_aload_n hx hb dX12_comes_10 rfl (lv_at hl 0 rfl) ?_
  refine gf_12_worth hx hb hts in12 hown hK hP (hts (.fieldLink RX12 13 "CoinsOfLastModel" "worth" "[I") (List.mem_of_getElem? (i := 3) rfl)) dX12_comes_11 ?_
  refine lv_aload_n hx hb dX12_comes_14 rfl (lv_at hl 0 rfl) ?_
  refine gf_12_sorts hx hb hts in12 hown hK hP (hts (.fieldLink RX12 114 "CoinsOfLastModel" "sorts" "I") (List.mem_of_getElem? (i := 2) rfl)) dX12_comes_15 ?_
  refine lv_iload_n hx hb dX12_comes_18 rfl (lv_at hl 2 rfl) ?_
  obtain ⟨c_3, hZ⟩ := jx_a_some hZ
  obtain ⟨S_4, e_S_4, hZ⟩ := jx_l_some hZ
  refine M_iast hx hb hK hP hD hS wM_2 (fun _ => wMs_2) c_3 e_S_4 dX12_comes_19 (fun H locs hP hD hS => ?_)
  refine lv_aload_n hx hb dX12_comes_20 rfl (lv_at hl 0 rfl) ?_
  refine gf_12_sizeOf hx hb hts in12 hown hK hP (hts (.fieldLink RX12 16 "CoinsOfLastModel" "sizeOf" "[I") (List.mem_of_getElem? (i := 4) rfl)) dX12_comes_21 ?_
  refine lv_aload_n hx hb dX12_comes_24 rfl (lv_at hl 0 rfl) ?_
  refine gf_12_sorts hx hb hts in12 hown hK hP (hts (.fieldLink RX12 114 "CoinsOfLastModel" "sorts" "I") (List.mem_of_getElem? (i := 2) rfl)) dX12_comes_25 ?_
  refine lv_iload_n hx hb dX12_comes_28 rfl (lv_at hl 3 rfl) ?_
  obtain ⟨c_5, hZ⟩ := jx_a_some hZ
  obtain ⟨S_6, e_S_6, hZ⟩ := jx_l_some hZ
  refine M_iast hx hb hK hP hD hS wM_3 (fun _ => wMs_3) c_5 e_S_6 dX12_comes_29 (fun H locs hP hD hS => ?_)
  refine lv_aload_n hx hb dX12_comes_30 rfl (lv_at hl 0 rfl) ?_
  refine gf_12_weight hx hb hts in12 hown hK hP (hts (.fieldLink RX12 19 "CoinsOfLastModel" "weight" "[I") (List.mem_of_getElem? (i := 5) rfl)) dX12_comes_31 ?_
  refine lv_aload_n hx hb dX12_comes_34 rfl (lv_at hl 0 rfl) ?_
  refine gf_12_sorts hx hb hts in12 hown hK hP (hts (.fieldLink RX12 114 "CoinsOfLastModel" "sorts" "I") (List.mem_of_getElem? (i := 2) rfl)) dX12_comes_35 ?_
  refine lv_iload hx hb dX12_comes_38 (lv_at hl 4 rfl) ?_
  obtain ⟨c_7, hZ⟩ := jx_a_some hZ
  obtain ⟨S_8, e_S_8, hZ⟩ := jx_l_some hZ
  refine M_iast hx hb hK hP hD hS wM_4 (fun _ => wMs_4) c_7 e_S_8 dX12_comes_40 (fun H locs hP hD hS => ?_)
  refine lv_aload_n hx hb dX12_comes_41 rfl (lv_at hl 0 rfl) ?_
  refine gf_12_purse hx hb hts in12 hown hK hP (hts (.fieldLink RX12 22 "CoinsOfLastModel" "purse" "[I") (List.mem_of_getElem? (i := 6) rfl)) dX12_comes_42 ?_
  refine lv_aload_n hx hb dX12_comes_45 rfl (lv_at hl 0 rfl) ?_
  refine gf_12_sorts hx hb hts in12 hown hK hP (hts (.fieldLink RX12 114 "CoinsOfLastModel" "sorts" "I") (List.mem_of_getElem? (i := 2) rfl)) dX12_comes_46 ?_
  refine lv_iconst (v := (0 : Int32)) hx hb dX12_comes_49 (by decide) ?_
  obtain ⟨c_9, hZ⟩ := jx_a_some hZ
  obtain ⟨S_10, e_S_10, hZ⟩ := jx_l_some hZ
  refine M_iast hx hb hK hP hD hS wM_5 (fun _ => wMs_5) c_9 e_S_10 dX12_comes_50 (fun H locs hP hD hS => ?_)
  refine lv_aload_n hx hb dX12_comes_51 rfl (lv_at hl 0 rfl) ?_
  refine lv_dup hx hb dX12_comes_52 rfl ?_
  refine gf_12_sorts hx hb hts in12 hown hK hP (hts (.fieldLink RX12 114 "CoinsOfLastModel" "sorts" "I") (List.mem_of_getElem? (i := 2) rfl)) dX12_comes_53 ?_
  refine lv_iconst (v := (1 : Int32)) hx hb dX12_comes_56 (by decide) ?_
  refine lv_iadd hx hb dX12_comes_57 ?_
  obtain ⟨S_11, e_S_11, hZ⟩ := jx_l_some hZ
  refine pf_12_sorts hx hb hts in12 hown hK hP hD hS (hts (.fieldLink RX12 114 "CoinsOfLastModel" "sorts" "I") (List.mem_of_getElem? (i := 2) rfl)) e_S_11 dX12_comes_58 (fun H locs hP hD hS => ?_)
  exact leave_v hx hb hr hlocks hP hS hZ dX12_comes_61
theorem hd_X12_comes : yX12_comes.cls = RX12 ∧ yX12_comes.cls ≠ "java/lang/invoke/MethodHandle" ∧ yX12_comes.cls ≠ "java/lang/invoke/VarHandle" ∧ (parseMethodDescriptor yX12_comes.desc).map (fun d => d.parameters.length) = some 4 := by decide +kernel
theorem hd_X12_isSoSort : yX12_isSoSort.cls = RX12 ∧ yX12_isSoSort.cls ≠ "java/lang/invoke/MethodHandle" ∧ yX12_isSoSort.cls ≠ "java/lang/invoke/VarHandle" ∧ (parseMethodDescriptor yX12_isSoSort.desc).map (fun d => d.parameters.length) = some 4 := by decide +kernel
-- X12_sort
def f_X12_sort (x1 : Int32) (x2 : Int32) (S : St) : Option (Int32 × St) :=
  (if x1 < 0 then some ((-1 : Int32), S) else (if x2 < 0 then some ((-1 : Int32), S) else jx_d (100 : Int32) (jx_d (100 : Int32) (jx_d (100 : Int32) (jx_d (100 : Int32) (jx_b2 (f_X12_isSoSort (x1 / (100 : Int32)) (x1 - x1 / (100 : Int32) * (100 : Int32)) (x2 / (100 : Int32)) (x2 - x2 / (100 : Int32) * (100 : Int32)) S) (fun r_9 S_7 => (if r_9 = 0 then some ((-1 : Int32), S_7) else (if (S_7.1 0 0) = (8 : Int32) then some ((-3 : Int32), S_7) else jx_d (100 : Int32) (jx_d (100 : Int32) (jx_d (100 : Int32) (jx_d (100 : Int32) (jx_b (f_X12_comes (x1 / (100 : Int32)) (x1 - x1 / (100 : Int32) * (100 : Int32)) (x2 / (100 : Int32)) (x2 - x2 / (100 : Int32) * (100 : Int32)) S_7) (fun S_16 => some (((S_16.1 0 0) - (1 : Int32)), S_16)))))))))))))))
set_option maxHeartbeats 4000000 in
set_option maxRecDepth 100000 in
theorem c_X12_sort (l : Launch) (D : va_G) (q : Nat → Nat) (k : CI) (x1 : Int32) (x2 : Int32) (S : St) (sz : Nat) (Z : Int32 × St) (hZ : f_X12_sort x1 x2 S = some Z) : MetI W_M SM l yX12_sort wsX12_sort { frames := 3, cells := 0, slots := 0, locals := 66 } [.ref (q 0), .int x1, .int x2] D q k S sz Z := by
  refine enter (cc := cX12_sort) (maxL := 3) (ret := some .int) (by decide) rfl (Nat.le_of_ble_eq_true rfl) ?_
  intro p e s m below meth c A ls hx hb hr hts hown hlocks hml hP hK hD hA hS hsp hAe hl
  have hown : s.vm.findClass RX12 = some m.cls := hown
  have hl : lv_has ls 3 [(0, .ref (q 0)), (1, .int x1), (2, .int x2)] := hl
  have in12 : ∀ w ∈ wsX120, w ∈ wsX12_sort := fun _ h => (List.mem_cons_of_mem _ (List.mem_append_right _ h))
  unfold f_X12_sort at hZ
  refine lv_iload_n hx hb dX12_sort_0 rfl (lv_at hl 1 rfl) ?_
  refine lv_if_lt (tgt := 31) hx hb dX12_sort_1 (by decide) (fun c_1 => ?_) (fun c_1 => ?_)
  · have hZ := jx_i_pos c_1 hZ
    refine lv_iconst (v := (-1 : Int32)) hx hb dX12_sort_31 (by decide) ?_
    exact leave_i hx hb hr hlocks hP hS hZ dX12_sort_32
  · have hZ := jx_i_neg c_1 hZ
    refine lv_iload_n hx hb dX12_sort_4 rfl (lv_at hl 2 rfl) ?_
    refine lv_if_lt (tgt := 31) hx hb dX12_sort_5 (by decide) (fun c_2 => ?_) (fun c_2 => ?_)
    · have hZ := jx_i_pos c_2 hZ
      refine lv_iconst (v := (-1 : Int32)) hx hb dX12_sort_31 (by decide) ?_
      exact leave_i hx hb hr hlocks hP hS hZ dX12_sort_32
    · have hZ := jx_i_neg c_2 hZ
      refine lv_aload_n hx hb dX12_sort_8 rfl (lv_at hl 0 rfl) ?_
      refine lv_iload_n hx hb dX12_sort_9 rfl (lv_at hl 1 rfl) ?_
      refine lv_bipush (v := (100 : Int32)) hx hb dX12_sort_10 (by decide) ?_
      obtain ⟨c_3, hZ⟩ := jx_d_some hZ
      refine lv_idiv hx hb dX12_sort_12 c_3 ?_
      refine lv_iload_n hx hb dX12_sort_13 rfl (lv_at hl 1 rfl) ?_
      refine lv_bipush (v := (100 : Int32)) hx hb dX12_sort_14 (by decide) ?_
      obtain ⟨c_4, hZ⟩ := jx_d_some hZ
      refine lv_irem hx hb dX12_sort_16 c_4 ?_
      refine lv_iload_n hx hb dX12_sort_17 rfl (lv_at hl 2 rfl) ?_
      refine lv_bipush (v := (100 : Int32)) hx hb dX12_sort_18 (by decide) ?_
      obtain ⟨c_5, hZ⟩ := jx_d_some hZ
      refine lv_idiv hx hb dX12_sort_20 c_5 ?_
      refine lv_iload_n hx hb dX12_sort_21 rfl (lv_at hl 2 rfl) ?_
      refine lv_bipush (v := (100 : Int32)) hx hb dX12_sort_22 (by decide) ?_
      obtain ⟨c_6, hZ⟩ := jx_d_some hZ
      refine lv_irem hx hb dX12_sort_24 c_6 ?_
      obtain ⟨r_9, S_7, hc_8, hZ⟩ := jx_b2_some hZ
      refine call_Vi SM_ok sameM ⟨hx, hb, hml, hown, hts⟩ (c_X12_isSoSort l D q k (x1 / (100 : Int32)) (x1 - x1 / (100 : Int32) * (100 : Int32)) (x2 / (100 : Int32)) (x2 - x2 / (100 : Int32) * (100 : Int32)) S _ (r_9, S_7)  hc_8) (cwV 4 hts gX12_sort_X12_isSoSort rfl rfl rfl hd_X12_isSoSort ⟨Nat.le_of_ble_eq_true rfl, Nat.le_of_ble_eq_true rfl⟩) hK hP hD hS hA hsp (va_recv hK hP (ci := 12) (q0 := 0) rfl wM_0) (As := [.int (x1 / (100 : Int32)), .int (x1 - x1 / (100 : Int32) * (100 : Int32)), .int (x2 / (100 : Int32)), .int (x2 - x2 / (100 : Int32) * (100 : Int32))]) rfl hl.1 rfl (Nat.le_of_ble_eq_true rfl) dX12_sort_25 ⟨Nat.zero_le _, Nat.zero_le _⟩ (fun H locs hP hD hS => ?_)
      refine lv_if_ne (tgt := 33) hx hb dX12_sort_28 (by decide) (fun c_10 => ?_) (fun c_10 => ?_)
      · have hZ := jx_i_neg c_10 hZ
        refine lv_aload_n hx hb dX12_sort_33 rfl (lv_at hl 0 rfl) ?_
        refine gf_12_sorts hx hb hts in12 hown hK hP (hts (.fieldLink RX12 114 "CoinsOfLastModel" "sorts" "I") (List.mem_of_getElem? (i := 1) rfl)) dX12_sort_34 ?_
        refine lv_bipush (v := (8 : Int32)) hx hb dX12_sort_37 (by decide) ?_
        refine lv_icmp_ne (tgt := 45) hx hb dX12_sort_39 (by decide) (fun c_11 => ?_) (fun c_11 => ?_)
        · have hZ := jx_i_neg c_11 hZ
          refine lv_aload_n hx hb dX12_sort_45 rfl (lv_at hl 0 rfl) ?_
          refine lv_iload_n hx hb dX12_sort_46 rfl (lv_at hl 1 rfl) ?_
          refine lv_bipush (v := (100 : Int32)) hx hb dX12_sort_47 (by decide) ?_
          obtain ⟨c_12, hZ⟩ := jx_d_some hZ
          refine lv_idiv hx hb dX12_sort_49 c_12 ?_
          refine lv_iload_n hx hb dX12_sort_50 rfl (lv_at hl 1 rfl) ?_
          refine lv_bipush (v := (100 : Int32)) hx hb dX12_sort_51 (by decide) ?_
          obtain ⟨c_13, hZ⟩ := jx_d_some hZ
          refine lv_irem hx hb dX12_sort_53 c_13 ?_
          refine lv_iload_n hx hb dX12_sort_54 rfl (lv_at hl 2 rfl) ?_
          refine lv_bipush (v := (100 : Int32)) hx hb dX12_sort_55 (by decide) ?_
          obtain ⟨c_14, hZ⟩ := jx_d_some hZ
          refine lv_idiv hx hb dX12_sort_57 c_14 ?_
          refine lv_iload_n hx hb dX12_sort_58 rfl (lv_at hl 2 rfl) ?_
          refine lv_bipush (v := (100 : Int32)) hx hb dX12_sort_59 (by decide) ?_
          obtain ⟨c_15, hZ⟩ := jx_d_some hZ
          refine lv_irem hx hb dX12_sort_61 c_15 ?_
          obtain ⟨S_16, hc_17, hZ⟩ := jx_b_some hZ
          refine call_Vv SM_ok sameM ⟨hx, hb, hml, hown, hts⟩ (c_X12_comes l D q k (x1 / (100 : Int32)) (x1 - x1 / (100 : Int32) * (100 : Int32)) (x2 / (100 : Int32)) (x2 - x2 / (100 : Int32) * (100 : Int32)) S_7 _ S_16  hc_17) (cwV 4 hts gX12_sort_X12_comes rfl rfl rfl hd_X12_comes ⟨Nat.le_of_ble_eq_true rfl, Nat.le_of_ble_eq_true rfl⟩) hK hP hD hS hA hsp (va_recv hK hP (ci := 12) (q0 := 0) rfl wM_0) (As := [.int (x1 / (100 : Int32)), .int (x1 - x1 / (100 : Int32) * (100 : Int32)), .int (x2 / (100 : Int32)), .int (x2 - x2 / (100 : Int32) * (100 : Int32))]) rfl hl.1 rfl (Nat.le_of_ble_eq_true rfl) dX12_sort_62 ⟨Nat.zero_le _, Nat.zero_le _⟩ (fun H locs hP hD hS => ?_)
          refine lv_aload_n hx hb dX12_sort_65 rfl (lv_at hl 0 rfl) ?_
          refine gf_12_sorts hx hb hts in12 hown hK hP (hts (.fieldLink RX12 114 "CoinsOfLastModel" "sorts" "I") (List.mem_of_getElem? (i := 1) rfl)) dX12_sort_66 ?_
          refine lv_iconst (v := (1 : Int32)) hx hb dX12_sort_69 (by decide) ?_
          refine lv_isub hx hb dX12_sort_70 ?_
          exact leave_i hx hb hr hlocks hP hS hZ dX12_sort_71
        · have hZ := jx_i_pos c_11 hZ
          refine lv_bipush (v := (-3 : Int32)) hx hb dX12_sort_42 (by decide) ?_
          exact leave_i hx hb hr hlocks hP hS hZ dX12_sort_44
      · have hZ := jx_i_pos c_10 hZ
        refine lv_iconst (v := (-1 : Int32)) hx hb dX12_sort_31 (by decide) ?_
        exact leave_i hx hb hr hlocks hP hS hZ dX12_sort_32
-- X12_isShelf
def f_X12_isShelf (x0 : Int32) (S : St) : Option (Int32 × St) :=
  jx_b2 (f_X12_in x0 (0 : Int32) (5 : Int32) S) (fun r_3 S_1 => jx_z r_3 (some (r_3, S_1)))
set_option maxHeartbeats 4000000 in
set_option maxRecDepth 100000 in
theorem c_X12_isShelf (l : Launch) (D : va_G) (q : Nat → Nat) (k : CI) (x0 : Int32) (S : St) (sz : Nat) (Z : Int32 × St) (hZ : f_X12_isShelf x0 S = some Z) : MetI W_M SM l yX12_isShelf wsX12_isShelf { frames := 1, cells := 0, slots := 0, locals := 22 } [.int x0] D q k S sz Z := by
  refine enter (cc := cX12_isShelf) (maxL := 1) (ret := some .boolean) (by decide) rfl (Nat.le_of_ble_eq_true rfl) ?_
  intro p e s m below meth c A ls hx hb hr hts hown hlocks hml hP hK hD hA hS hsp hAe hl
  have hown : s.vm.findClass RX12 = some m.cls := hown
  have hl : lv_has ls 1 [(0, .int x0)] := hl
  unfold f_X12_isShelf at hZ
  refine lv_iload_n hx hb dX12_isShelf_0 rfl (lv_at hl 0 rfl) ?_
  refine lv_iconst (v := (0 : Int32)) hx hb dX12_isShelf_1 (by decide) ?_
  refine lv_iconst (v := (5 : Int32)) hx hb dX12_isShelf_2 (by decide) ?_
  obtain ⟨r_3, S_1, hc_2, hZ⟩ := jx_b2_some hZ
  refine call_Si SM_ok sameM ⟨hx, hb, hml, hown, hts⟩ (c_X12_in l D q k x0 (0 : Int32) (5 : Int32) S _ (r_3, S_1)  hc_2) (va_cwS 3 hts gX12_isShelf_X12_in rfl rfl rfl hd_X12_in ⟨Nat.le_of_ble_eq_true rfl, Nat.le_of_ble_eq_true rfl⟩) hK hP hD hS hA hsp (As := [.int x0, .int (0 : Int32), .int (5 : Int32)]) rfl hl.1 rfl (Nat.le_of_ble_eq_true rfl) dX12_isShelf_3 ⟨Nat.zero_le _, Nat.zero_le _⟩ (fun H locs hP hD hS => ?_)
  obtain ⟨hnz, hZ⟩ := jx_z_some hZ
  exact leave_z hx hb hr hlocks hnz hP hS hZ dX12_isShelf_6
theorem hd_X12_isShelf : yX12_isShelf.cls ≠ "java/lang/invoke/MethodHandle" ∧ yX12_isShelf.cls ≠ "java/lang/invoke/VarHandle" ∧ (parseMethodDescriptor yX12_isShelf.desc).map (fun d => d.parameters.length) = some 1 := by decide +kernel
-- X12_sorts
def f_X12_sorts_182 (x4_14 : Int32) (S_14 : St) : Option (Int32 × St) :=
  some (x4_14, S_14)
def f_X12_sorts_161 (x4_16 : Int32) (S_16 : St) : Option (Int32 × St) :=
  some (x4_16, S_16)
def b_X12_sorts_34 (x1 : Int32) (x2 : Int32) (x3 : Int32) (x4 : Int32) (S : St) : Option ((Int32 × St) ⊕ ((Int32 × St) ⊕ ((Int32 × St)))) :=
  (if x3 ≤ x4 then some (.inr (.inl (x4, S))) else (if (8 : Int32) ≤ (S.1 0 0) then some (.inr (.inl (x4, S))) else jx_a x1 6 ((if (S.1 31 (Int32.toNatClampNeg x1)) = 0 then (if x2 < 0 then some (.inr (.inl (x4, S))) else jx_a x1 6 ((if 0 < (lg_cmp (((Int32.toInt64 x2) + ((4 : Int64) * (Int32.toInt64 x4))) + (4 : Int64)) (Int32.toInt64 (S.1 32 (Int32.toNatClampNeg x1)))) then some (.inr (.inl (x4, S))) else jx_l ((((60 : Int32) * x1) + x2) + ((4 : Int32) * x4)) (fun x5_30 => jx_a x5_30 360 (jx_l (Int64.toInt32 (S.2 33 (Int32.toNatClampNeg x5_30))) (fun x6_32 => jx_a (x5_30 + (1 : Int32)) 360 (jx_l (Int64.toInt32 (S.2 33 (Int32.toNatClampNeg (x5_30 + (1 : Int32))))) (fun x7_34 => jx_a (x5_30 + (2 : Int32)) 360 (jx_l (Int64.toInt32 (S.2 33 (Int32.toNatClampNeg (x5_30 + (2 : Int32))))) (fun x8_36 => jx_a (x5_30 + (3 : Int32)) 360 (jx_l (Int64.toInt32 (S.2 33 (Int32.toNatClampNeg (x5_30 + (3 : Int32))))) (fun x9_38 => jx_b2 (f_X12_isSoSort x6_32 x7_34 x8_36 x9_38 S) (fun r_41 S_39 => (if r_41 = 0 then some (.inr (.inr (x4, S_39))) else jx_b (f_X12_comes x6_32 x7_34 x8_36 x9_38 S_39) (fun S_43 => jx_l (x4 + 1) (fun x4_45 => some (.inl (x4_45, S_43)))))))))))))))))) else some (.inr (.inl (x4, S)))))))
def g_X12_sorts_34 (x1 : Int32) (x2 : Int32) (x3 : Int32) : (Int32 × St) → Option ((Int32 × St) ⊕ ((Int32 × St) ⊕ ((Int32 × St)))) := fun z => b_X12_sorts_34 x1 x2 x3 z.1 z.2
def f_X12_sorts (x1 : Int32) (x2 : Int32) (x3 : Int32) (S : St) : Option (Int32 × St) :=
  jx_b2 (f_X12_isShelf x1 S) (fun r_3 S_1 => (if r_3 = 0 then some ((-1 : Int32), S_1) else jx_b2 (f_X12_in x3 (1 : Int32) (8 : Int32) S_1) (fun r_7 S_5 => (if r_7 = 0 then some ((-1 : Int32), S_5) else jx_a x1 6 ((if (S_5.1 31 (Int32.toNatClampNeg x1)) ≤ 0 then jx_b (jx_w (g_X12_sorts_34 x1 x2 x3) FU ((0 : Int32), S_5)) (fun z => Sum.elim (fun z => f_X12_sorts_182 z.1 z.2) (fun z => f_X12_sorts_161 z.1 z.2) z) else some ((-12 : Int32), S_5)))))))
set_option maxHeartbeats 4000000 in
set_option maxRecDepth 100000 in
theorem c_X12_sorts (l : Launch) (D : va_G) (q : Nat → Nat) (k : CI) (x1 : Int32) (x2 : Int32) (x3 : Int32) (S : St) (sz : Nat) (Z : Int32 × St) (hZ : f_X12_sorts x1 x2 x3 S = some Z) : MetI W_M SM l yX12_sorts wsX12_sorts { frames := 3, cells := 0, slots := 0, locals := 66 } [.ref (q 0), .int x1, .int x2, .int x3] D q k S sz Z := by
  refine enter (cc := cX12_sorts) (maxL := 10) (ret := some .int) (by decide) rfl (Nat.le_of_ble_eq_true rfl) ?_
  intro p e s m below meth c A ls hx hb hr hts hown hlocks hml hP hK hD hA hS hsp hAe hl
  have hown : s.vm.findClass RX12 = some m.cls := hown
  have hl : lv_has ls 10 [(0, .ref (q 0)), (1, .int x1), (2, .int x2), (3, .int x3)] := hl
  have in12 : ∀ w ∈ wsX120, w ∈ wsX12_sorts := fun _ h => (List.mem_cons_of_mem _ (List.mem_append_right _ h))
  have j182 : ∀ (x4_14 : Int32) (S_14 : St)  (H : Heap) (locs : List Loc) (hZ : f_X12_sorts_182 x4_14 S_14 = some Z) (hP : va_P D vwCl (W_M q k S_14) H) (hD : va_D A (W_M q k S_14)) (hS : va_S A s.heap H locs) (ls : Array Slot) (hl : lv_has ls 10 [(4, .int x4_14)]), W p l e ({ frames := 3, cells := 0, slots := 0, locals := 66 } : Room) s m ([.ref (q 0), .int x1, .int x2, .int x3] : List Value).toArray below meth c H locs 0 0 (MQ below (va_Qi (fun r u => (r, u) = Z) (fun u t => va_P D vwCl (W_M q k u) t.heap) A) ([.ref (q 0), .int x1, .int x2, .int x3] : List Value).toArray s 0 0 A) (F0 m 182 ls []) := by
    intro x4_14 S_14   H locs hZ hP hD hS ls hl
    unfold f_X12_sorts_182 at hZ
    refine lv_iload hx hb dX12_sorts_182 (lv_at hl 0 rfl) ?_
    exact leave_i hx hb hr hlocks hP hS hZ dX12_sorts_184
  have j161 : ∀ (x4_16 : Int32) (S_16 : St)  (H : Heap) (locs : List Loc) (hZ : f_X12_sorts_161 x4_16 S_16 = some Z) (hP : va_P D vwCl (W_M q k S_16) H) (hD : va_D A (W_M q k S_16)) (hS : va_S A s.heap H locs) (ls : Array Slot) (hl : lv_has ls 10 [(4, .int x4_16)]), W p l e ({ frames := 3, cells := 0, slots := 0, locals := 66 } : Room) s m ([.ref (q 0), .int x1, .int x2, .int x3] : List Value).toArray below meth c H locs 0 0 (MQ below (va_Qi (fun r u => (r, u) = Z) (fun u t => va_P D vwCl (W_M q k u) t.heap) A) ([.ref (q 0), .int x1, .int x2, .int x3] : List Value).toArray s 0 0 A) (F0 m 161 ls []) := by
    intro x4_16 S_16   H locs hZ hP hD hS ls hl
    unfold f_X12_sorts_161 at hZ
    refine lv_iload hx hb dX12_sorts_161 (lv_at hl 0 rfl) ?_
    exact leave_i hx hb hr hlocks hP hS hZ dX12_sorts_163
  unfold f_X12_sorts at hZ
  refine lv_iload_n hx hb dX12_sorts_0 rfl (lv_at hl 1 rfl) ?_
  obtain ⟨r_3, S_1, hc_2, hZ⟩ := jx_b2_some hZ
  refine call_Si SM_ok sameM ⟨hx, hb, hml, hown, hts⟩ (c_X12_isShelf l D q k x1 S _ (r_3, S_1)  hc_2) (va_cwS 1 hts gX12_sorts_X12_isShelf rfl rfl rfl hd_X12_isShelf ⟨Nat.le_of_ble_eq_true rfl, Nat.le_of_ble_eq_true rfl⟩) hK hP hD hS hA hsp (As := [.int x1]) rfl hl.1 rfl (Nat.le_of_ble_eq_true rfl) dX12_sorts_1 ⟨Nat.zero_le _, Nat.zero_le _⟩ (fun H locs hP hD hS => ?_)
  refine lv_if_eq (tgt := 17) hx hb dX12_sorts_4 (by decide) (fun c_4 => ?_) (fun c_4 => ?_)
  · have hZ := jx_i_pos c_4 hZ
    refine lv_iconst (v := (-1 : Int32)) hx hb dX12_sorts_17 (by decide) ?_
    exact leave_i hx hb hr hlocks hP hS hZ dX12_sorts_18
  · have hZ := jx_i_neg c_4 hZ
    refine lv_iload_n hx hb dX12_sorts_7 rfl (lv_at hl 3 rfl) ?_
    refine lv_iconst (v := (1 : Int32)) hx hb dX12_sorts_8 (by decide) ?_
    refine lv_bipush (v := (8 : Int32)) hx hb dX12_sorts_9 (by decide) ?_
    obtain ⟨r_7, S_5, hc_6, hZ⟩ := jx_b2_some hZ
    refine call_Si SM_ok sameM ⟨hx, hb, hml, hown, hts⟩ (c_X12_in l D q k x3 (1 : Int32) (8 : Int32) S_1 _ (r_7, S_5)  hc_6) (va_cwS 3 hts gX12_sorts_X12_in rfl rfl rfl hd_X12_in ⟨Nat.le_of_ble_eq_true rfl, Nat.le_of_ble_eq_true rfl⟩) hK hP hD hS hA hsp (As := [.int x3, .int (1 : Int32), .int (8 : Int32)]) rfl hl.1 rfl (Nat.le_of_ble_eq_true rfl) dX12_sorts_11 ⟨Nat.zero_le _, Nat.zero_le _⟩ (fun H locs hP hD hS => ?_)
    refine lv_if_ne (tgt := 19) hx hb dX12_sorts_14 (by decide) (fun c_8 => ?_) (fun c_8 => ?_)
    · have hZ := jx_i_neg c_8 hZ
      refine lv_aload_n hx hb dX12_sorts_19 rfl (lv_at hl 0 rfl) ?_
      refine gf_12_shelfIs hx hb hts in12 hown hK hP (hts (.fieldLink RX12 102 "CoinsOfLastModel" "shelfIs" "[I") (List.mem_of_getElem? (i := 1) rfl)) dX12_sorts_20 ?_
      refine lv_iload_n hx hb dX12_sorts_23 rfl (lv_at hl 1 rfl) ?_
      obtain ⟨c_9, hZ⟩ := jx_a_some hZ
      refine M_iald hx hb hK hP wM_31 c_9 dX12_sorts_24 ?_
      refine lv_if_le (tgt := 31) hx hb dX12_sorts_25 (by decide) (fun c_10 => ?_) (fun c_10 => ?_)
      · have hZ := jx_i_pos c_10 hZ
        refine lv_iconst (v := (0 : Int32)) hx hb dX12_sorts_31 (by decide) ?_
        refine lv_istore (lv' := [(4, .int (0 : Int32)), (0, .ref (q 0)), (1, .int x1), (2, .int x2), (3, .int x3)]) hx hb dX12_sorts_32 hl (by decide) rfl (fun ls hl => ?_)
        obtain ⟨r_13, hw, hza_13⟩ := jx_b_some hZ
        have l_13 : ∀ (nn : Nat) (x4_11 : Int32) (S_12 : St) (H : Heap) (locs : List Loc) (hw : jx_w (g_X12_sorts_34 x1 x2 x3) nn (x4_11, S_12) = some r_13) (hP : va_P D vwCl (W_M q k S_12) H) (hD : va_D A (W_M q k S_12)) (hS : va_S A s.heap H locs) (ls : Array Slot) (hl : lv_has ls 10 [(0, .ref (q 0)), (1, .int x1), (2, .int x2), (3, .int x3), (4, .int x4_11)]), W p l e ({ frames := 3, cells := 0, slots := 0, locals := 66 } : Room) s m ([.ref (q 0), .int x1, .int x2, .int x3] : List Value).toArray below meth c H locs 0 0 (MQ below (va_Qi (fun r u => (r, u) = Z) (fun u t => va_P D vwCl (W_M q k u) t.heap) A) ([.ref (q 0), .int x1, .int x2, .int x3] : List Value).toArray s 0 0 A) (F0 m 34 ls []) := by
          intro nn
          induction nn with
          | zero =>
            intro x4_11 S_12 H locs hw hP hD hS ls hl
            exact jx_w_zero hw
          | succ n_13 ih_13 =>
            intro x4_11 S_12 H locs hw hP hD hS ls hl
            obtain ⟨o_13, hZ, hk_13⟩ := jx_w_succ hw
            have hZ : b_X12_sorts_34 x1 x2 x3 x4_11 S_12 = some o_13 := hZ
            unfold b_X12_sorts_34 at hZ
            refine lv_iload hx hb dX12_sorts_34 (lv_at hl 4 rfl) ?_
            refine lv_iload_n hx hb dX12_sorts_36 rfl (lv_at hl 3 rfl) ?_
            refine lv_icmp_ge (tgt := 182) hx hb dX12_sorts_37 (by decide) (fun c_47 => ?_) (fun c_47 => ?_)
            · have hZ := jx_i_pos c_47 hZ
              have ho := Option.some.inj hZ
              subst ho
              have hE := hza_13
              rw [← (show .inl (x4_11, S_12) = r_13 from hk_13)] at hE
              have hZ : f_X12_sorts_182 x4_11 S_12 = some Z := hE
              exact j182 x4_11 S_12 _ _ hZ hP hD hS _ (lv_sub hl [4] rfl)
            · have hZ := jx_i_neg c_47 hZ
              refine lv_aload_n hx hb dX12_sorts_40 rfl (lv_at hl 0 rfl) ?_
              refine gf_12_sorts hx hb hts in12 hown hK hP (hts (.fieldLink RX12 114 "CoinsOfLastModel" "sorts" "I") (List.mem_of_getElem? (i := 2) rfl)) dX12_sorts_41 ?_
              refine lv_bipush (v := (8 : Int32)) hx hb dX12_sorts_44 (by decide) ?_
              refine lv_icmp_ge (tgt := 182) hx hb dX12_sorts_46 (by decide) (fun c_49 => ?_) (fun c_49 => ?_)
              · have hZ := jx_i_pos c_49 hZ
                have ho := Option.some.inj hZ
                subst ho
                have hE := hza_13
                rw [← (show .inl (x4_11, S_12) = r_13 from hk_13)] at hE
                have hZ : f_X12_sorts_182 x4_11 S_12 = some Z := hE
                exact j182 x4_11 S_12 _ _ hZ hP hD hS _ (lv_sub hl [4] rfl)
              · have hZ := jx_i_neg c_49 hZ
                refine lv_aload_n hx hb dX12_sorts_49 rfl (lv_at hl 0 rfl) ?_
                refine gf_12_shelfIs hx hb hts in12 hown hK hP (hts (.fieldLink RX12 102 "CoinsOfLastModel" "shelfIs" "[I") (List.mem_of_getElem? (i := 1) rfl)) dX12_sorts_50 ?_
                refine lv_iload_n hx hb dX12_sorts_53 rfl (lv_at hl 1 rfl) ?_
                obtain ⟨c_51, hZ⟩ := jx_a_some hZ
                refine M_iald hx hb hK hP wM_31 c_51 dX12_sorts_54 ?_
                refine lv_if_ne (tgt := 182) hx hb dX12_sorts_55 (by decide) (fun c_52 => ?_) (fun c_52 => ?_)
                · have hZ := jx_i_neg c_52 hZ
                  have ho := Option.some.inj hZ
                  subst ho
                  have hE := hza_13
                  rw [← (show .inl (x4_11, S_12) = r_13 from hk_13)] at hE
                  have hZ : f_X12_sorts_182 x4_11 S_12 = some Z := hE
                  exact j182 x4_11 S_12 _ _ hZ hP hD hS _ (lv_sub hl [4] rfl)
                · have hZ := jx_i_pos c_52 hZ
                  refine lv_iload_n hx hb dX12_sorts_58 rfl (lv_at hl 2 rfl) ?_
                  refine lv_if_lt (tgt := 182) hx hb dX12_sorts_59 (by decide) (fun c_54 => ?_) (fun c_54 => ?_)
                  · have hZ := jx_i_pos c_54 hZ
                    have ho := Option.some.inj hZ
                    subst ho
                    have hE := hza_13
                    rw [← (show .inl (x4_11, S_12) = r_13 from hk_13)] at hE
                    have hZ : f_X12_sorts_182 x4_11 S_12 = some Z := hE
                    exact j182 x4_11 S_12 _ _ hZ hP hD hS _ (lv_sub hl [4] rfl)
                  · have hZ := jx_i_neg c_54 hZ
                    refine lv_iload_n hx hb dX12_sorts_62 rfl (lv_at hl 2 rfl) ?_
                    refine lv_i2l (v := (Int32.toInt64 x2)) hx hb dX12_sorts_63 rfl ?_
                    refine lv_ldc2 (v := (4 : Int64)) hx hb hown (hts (.constantLong RX12 140 (4)) (List.mem_of_getElem? (i := 3) rfl)) dX12_sorts_64 ?_
                    refine lv_iload hx hb dX12_sorts_67 (lv_at hl 4 rfl) ?_
                    refine lv_i2l (v := (Int32.toInt64 x4_11)) hx hb dX12_sorts_69 rfl ?_
                    refine lv_lmul hx hb dX12_sorts_70 ?_
                    refine lv_ladd hx hb dX12_sorts_71 ?_
                    refine lv_ldc2 (v := (4 : Int64)) hx hb hown (hts (.constantLong RX12 140 (4)) (List.mem_of_getElem? (i := 3) rfl)) dX12_sorts_72 ?_
                    refine lv_ladd hx hb dX12_sorts_75 ?_
                    refine lv_aload_n hx hb dX12_sorts_76 rfl (lv_at hl 0 rfl) ?_
                    refine gf_12_shelfSize hx hb hts in12 hown hK hP (hts (.fieldLink RX12 105 "CoinsOfLastModel" "shelfSize" "[I") (List.mem_of_getElem? (i := 4) rfl)) dX12_sorts_77 ?_
                    refine lv_iload_n hx hb dX12_sorts_80 rfl (lv_at hl 1 rfl) ?_
                    obtain ⟨c_56, hZ⟩ := jx_a_some hZ
                    refine M_iald hx hb hK hP wM_32 c_56 dX12_sorts_81 ?_
                    refine lv_i2l (v := (Int32.toInt64 (S_12.1 32 (Int32.toNatClampNeg x1)))) hx hb dX12_sorts_82 rfl ?_
                    refine W.lcmp hx hb dX12_sorts_83 ?_
                    refine lv_if_gt (tgt := 182) hx hb dX12_sorts_84 (by decide) (fun c_57 => ?_) (fun c_57 => ?_)
                    · have hZ := jx_i_pos c_57 hZ
                      have ho := Option.some.inj hZ
                      subst ho
                      have hE := hza_13
                      rw [← (show .inl (x4_11, S_12) = r_13 from hk_13)] at hE
                      have hZ : f_X12_sorts_182 x4_11 S_12 = some Z := hE
                      exact j182 x4_11 S_12 _ _ hZ hP hD hS _ (lv_sub hl [4] rfl)
                    · have hZ := jx_i_neg c_57 hZ
                      refine lv_bipush (v := (60 : Int32)) hx hb dX12_sorts_87 (by decide) ?_
                      refine lv_iload_n hx hb dX12_sorts_89 rfl (lv_at hl 1 rfl) ?_
                      refine lv_imul hx hb dX12_sorts_90 ?_
                      refine lv_iload_n hx hb dX12_sorts_91 rfl (lv_at hl 2 rfl) ?_
                      refine lv_iadd hx hb dX12_sorts_92 ?_
                      refine lv_iconst (v := (4 : Int32)) hx hb dX12_sorts_93 (by decide) ?_
                      refine lv_iload hx hb dX12_sorts_94 (lv_at hl 4 rfl) ?_
                      refine lv_imul hx hb dX12_sorts_96 ?_
                      refine lv_iadd hx hb dX12_sorts_97 ?_
                      obtain ⟨x5_59, e_x5_59, hZ⟩ := jx_l_some hZ
                      refine tx_i e_x5_59 ?_
                      refine lv_istore (lv' := [(5, .int x5_59), (0, .ref (q 0)), (1, .int x1), (2, .int x2), (3, .int x3), (4, .int x4_11)]) hx hb dX12_sorts_98 hl (by decide) rfl (fun ls hl => ?_)
                      refine lv_aload_n hx hb dX12_sorts_100 rfl (lv_at hl 1 rfl) ?_
                      refine gf_12_items hx hb hts in12 hown hK hP (hts (.fieldLink RX12 108 "CoinsOfLastModel" "items" "[J") (List.mem_of_getElem? (i := 5) rfl)) dX12_sorts_101 ?_
                      refine lv_iload hx hb dX12_sorts_104 (lv_at hl 0 rfl) ?_
                      obtain ⟨c_60, hZ⟩ := jx_a_some hZ
                      refine M_lald hx hb hK hP wM_33 c_60 dX12_sorts_106 ?_
                      refine lv_l2i (v := (Int64.toInt32 (S_12.2 33 (Int32.toNatClampNeg x5_59)))) hx hb dX12_sorts_107 rfl ?_
                      obtain ⟨x6_61, e_x6_61, hZ⟩ := jx_l_some hZ
                      refine tx_i e_x6_61 ?_
                      refine lv_istore (lv' := [(6, .int x6_61), (5, .int x5_59), (0, .ref (q 0)), (1, .int x1), (2, .int x2), (3, .int x3), (4, .int x4_11)]) hx hb dX12_sorts_108 hl (by decide) rfl (fun ls hl => ?_)
                      refine lv_aload_n hx hb dX12_sorts_110 rfl (lv_at hl 2 rfl) ?_
                      refine gf_12_items hx hb hts in12 hown hK hP (hts (.fieldLink RX12 108 "CoinsOfLastModel" "items" "[J") (List.mem_of_getElem? (i := 5) rfl)) dX12_sorts_111 ?_
                      refine lv_iload hx hb dX12_sorts_114 (lv_at hl 1 rfl) ?_
                      refine lv_iconst (v := (1 : Int32)) hx hb dX12_sorts_116 (by decide) ?_
                      refine lv_iadd hx hb dX12_sorts_117 ?_
                      obtain ⟨c_62, hZ⟩ := jx_a_some hZ
                      refine M_lald hx hb hK hP wM_33 c_62 dX12_sorts_118 ?_
                      refine lv_l2i (v := (Int64.toInt32 (S_12.2 33 (Int32.toNatClampNeg (x5_59 + (1 : Int32)))))) hx hb dX12_sorts_119 rfl ?_
                      obtain ⟨x7_63, e_x7_63, hZ⟩ := jx_l_some hZ
                      refine tx_i e_x7_63 ?_
                      refine lv_istore (lv' := [(7, .int x7_63), (6, .int x6_61), (5, .int x5_59), (0, .ref (q 0)), (1, .int x1), (2, .int x2), (3, .int x3), (4, .int x4_11)]) hx hb dX12_sorts_120 hl (by decide) rfl (fun ls hl => ?_)
                      refine lv_aload_n hx hb dX12_sorts_122 rfl (lv_at hl 3 rfl) ?_
                      refine gf_12_items hx hb hts in12 hown hK hP (hts (.fieldLink RX12 108 "CoinsOfLastModel" "items" "[J") (List.mem_of_getElem? (i := 5) rfl)) dX12_sorts_123 ?_
                      refine lv_iload hx hb dX12_sorts_126 (lv_at hl 2 rfl) ?_
                      refine lv_iconst (v := (2 : Int32)) hx hb dX12_sorts_128 (by decide) ?_
                      refine lv_iadd hx hb dX12_sorts_129 ?_
                      obtain ⟨c_64, hZ⟩ := jx_a_some hZ
                      refine M_lald hx hb hK hP wM_33 c_64 dX12_sorts_130 ?_
                      refine lv_l2i (v := (Int64.toInt32 (S_12.2 33 (Int32.toNatClampNeg (x5_59 + (2 : Int32)))))) hx hb dX12_sorts_131 rfl ?_
                      obtain ⟨x8_65, e_x8_65, hZ⟩ := jx_l_some hZ
                      refine tx_i e_x8_65 ?_
                      refine lv_istore (lv' := [(8, .int x8_65), (7, .int x7_63), (6, .int x6_61), (5, .int x5_59), (0, .ref (q 0)), (1, .int x1), (2, .int x2), (3, .int x3), (4, .int x4_11)]) hx hb dX12_sorts_132 hl (by decide) rfl (fun ls hl => ?_)
                      refine lv_aload_n hx hb dX12_sorts_134 rfl (lv_at hl 4 rfl) ?_
                      refine gf_12_items hx hb hts in12 hown hK hP (hts (.fieldLink RX12 108 "CoinsOfLastModel" "items" "[J") (List.mem_of_getElem? (i := 5) rfl)) dX12_sorts_135 ?_
                      refine lv_iload hx hb dX12_sorts_138 (lv_at hl 3 rfl) ?_
                      refine lv_iconst (v := (3 : Int32)) hx hb dX12_sorts_140 (by decide) ?_
                      refine lv_iadd hx hb dX12_sorts_141 ?_
                      obtain ⟨c_66, hZ⟩ := jx_a_some hZ
                      refine M_lald hx hb hK hP wM_33 c_66 dX12_sorts_142 ?_
                      refine lv_l2i (v := (Int64.toInt32 (S_12.2 33 (Int32.toNatClampNeg (x5_59 + (3 : Int32)))))) hx hb dX12_sorts_143 rfl ?_
                      obtain ⟨x9_67, e_x9_67, hZ⟩ := jx_l_some hZ
                      refine tx_i e_x9_67 ?_
                      refine lv_istore (lv' := [(9, .int x9_67), (8, .int x8_65), (7, .int x7_63), (6, .int x6_61), (5, .int x5_59), (0, .ref (q 0)), (1, .int x1), (2, .int x2), (3, .int x3), (4, .int x4_11)]) hx hb dX12_sorts_144 hl (by decide) rfl (fun ls hl => ?_)
                      refine lv_aload_n hx hb dX12_sorts_146 rfl (lv_at hl 5 rfl) ?_
                      refine lv_iload hx hb dX12_sorts_147 (lv_at hl 3 rfl) ?_
                      refine lv_iload hx hb dX12_sorts_149 (lv_at hl 2 rfl) ?_
                      refine lv_iload hx hb dX12_sorts_151 (lv_at hl 1 rfl) ?_
                      refine lv_iload hx hb dX12_sorts_153 (lv_at hl 0 rfl) ?_
                      obtain ⟨r_70, S_68, hc_69, hZ⟩ := jx_b2_some hZ
                      refine call_Vi SM_ok sameM ⟨hx, hb, hml, hown, hts⟩ (c_X12_isSoSort l D q k x6_61 x7_63 x8_65 x9_67 S_12 _ (r_70, S_68)  hc_69) (cwV 4 hts gX12_sorts_X12_isSoSort rfl rfl rfl hd_X12_isSoSort ⟨Nat.le_of_ble_eq_true rfl, Nat.le_of_ble_eq_true rfl⟩) hK hP hD hS hA hsp (va_recv hK hP (ci := 12) (q0 := 0) rfl wM_0) (As := [.int x6_61, .int x7_63, .int x8_65, .int x9_67]) rfl hl.1 rfl (Nat.le_of_ble_eq_true rfl) dX12_sorts_155 ⟨Nat.zero_le _, Nat.zero_le _⟩ (fun H locs hP hD hS => ?_)
                      refine lv_if_ne (tgt := 164) hx hb dX12_sorts_158 (by decide) (fun c_71 => ?_) (fun c_71 => ?_)
                      · have hZ := jx_i_neg c_71 hZ
                        refine lv_aload_n hx hb dX12_sorts_164 rfl (lv_at hl 5 rfl) ?_
                        refine lv_iload hx hb dX12_sorts_165 (lv_at hl 3 rfl) ?_
                        refine lv_iload hx hb dX12_sorts_167 (lv_at hl 2 rfl) ?_
                        refine lv_iload hx hb dX12_sorts_169 (lv_at hl 1 rfl) ?_
                        refine lv_iload hx hb dX12_sorts_171 (lv_at hl 0 rfl) ?_
                        obtain ⟨S_72, hc_73, hZ⟩ := jx_b_some hZ
                        refine call_Vv SM_ok sameM ⟨hx, hb, hml, hown, hts⟩ (c_X12_comes l D q k x6_61 x7_63 x8_65 x9_67 S_68 _ S_72  hc_73) (cwV 4 hts gX12_sorts_X12_comes rfl rfl rfl hd_X12_comes ⟨Nat.le_of_ble_eq_true rfl, Nat.le_of_ble_eq_true rfl⟩) hK hP hD hS hA hsp (va_recv hK hP (ci := 12) (q0 := 0) rfl wM_0) (As := [.int x6_61, .int x7_63, .int x8_65, .int x9_67]) rfl hl.1 rfl (Nat.le_of_ble_eq_true rfl) dX12_sorts_173 ⟨Nat.zero_le _, Nat.zero_le _⟩ (fun H locs hP hD hS => ?_)
                        obtain ⟨x4_74, e_x4_74, hZ⟩ := jx_l_some hZ
                        refine lv_iinc (v := x4_74) (lv' := [(4, .int x4_74), (9, .int x9_67), (8, .int x8_65), (7, .int x7_63), (6, .int x6_61), (5, .int x5_59), (0, .ref (q 0)), (1, .int x1), (2, .int x2), (3, .int x3)]) hx hb dX12_sorts_176 hl (k := 9) rfl (by rw [e_x4_74]; rfl) (by decide) rfl (fun ls hl => ?_)
                        refine lv_goto (tgt := 34) hx hb dX12_sorts_179 (by decide) ?_
                        have ho := Option.some.inj hZ
                        subst ho
                        exact ih_13 x4_74 S_72 _ _ hk_13 hP hD hS _ (lv_sub hl [6, 7, 8, 9, 0] rfl)
                      · have hZ := jx_i_pos c_71 hZ
                        have ho := Option.some.inj hZ
                        subst ho
                        have hE := hza_13
                        rw [← (show .inr (x4_11, S_68) = r_13 from hk_13)] at hE
                        have hZ : f_X12_sorts_161 x4_11 S_68 = some Z := hE
                        exact j161 x4_11 S_68 _ _ hZ hP hD hS _ (lv_sub hl [9] rfl)
        exact l_13 FU (0 : Int32) S_5 _ _ hw hP hD hS _ (lv_sub hl [1, 2, 3, 4, 0] rfl)
      · have hZ := jx_i_neg c_10 hZ
        refine lv_bipush (v := (-12 : Int32)) hx hb dX12_sorts_28 (by decide) ?_
        exact leave_i hx hb hr hlocks hP hS hZ dX12_sorts_30
    · have hZ := jx_i_pos c_8 hZ
      refine lv_iconst (v := (-1 : Int32)) hx hb dX12_sorts_17 (by decide) ?_
      exact leave_i hx hb hr hlocks hP hS hZ dX12_sorts_18
theorem hd_X12_isSort : yX12_isSort.cls = RX12 ∧ yX12_isSort.cls ≠ "java/lang/invoke/MethodHandle" ∧ yX12_isSort.cls ≠ "java/lang/invoke/VarHandle" ∧ (parseMethodDescriptor yX12_isSort.desc).map (fun d => d.parameters.length) = some 1 := by decide +kernel
-- X12_purse
def f_X12_purse (x1 : Int32) (x2 : Int32) (S : St) : Option (Int32 × St) :=
  jx_b2 (f_X12_isSort x1 S) (fun r_3 S_1 => (if r_3 = 0 then some ((-1 : Int32), S_1) else jx_b2 (f_X12_in x2 (0 : Int32) (6 : Int32) S_1) (fun r_7 S_5 => (if r_7 = 0 then some ((-1 : Int32), S_5) else jx_a x1 8 (jx_l (S_5.1 5 (Int32.toNatClampNeg x1)) (fun x3_10 => jx_a x1 8 (jx_l (u1 S_5 5 (Int32.toNatClampNeg x1) x2) (fun S_12 => some (x3_10, S_12)))))))))
set_option maxHeartbeats 4000000 in
set_option maxRecDepth 100000 in
theorem c_X12_purse (l : Launch) (D : va_G) (q : Nat → Nat) (k : CI) (x1 : Int32) (x2 : Int32) (S : St) (sz : Nat) (Z : Int32 × St) (hZ : f_X12_purse x1 x2 S = some Z) : MetI W_M SM l yX12_purse wsX12_purse { frames := 2, cells := 0, slots := 0, locals := 43 } [.ref (q 0), .int x1, .int x2] D q k S sz Z := by
  refine enter (cc := cX12_purse) (maxL := 4) (ret := some .int) (by decide) rfl (Nat.le_of_ble_eq_true rfl) ?_
  intro p e s m below meth c A ls hx hb hr hts hown hlocks hml hP hK hD hA hS hsp hAe hl
  have hown : s.vm.findClass RX12 = some m.cls := hown
  have hl : lv_has ls 4 [(0, .ref (q 0)), (1, .int x1), (2, .int x2)] := hl
  have in12 : ∀ w ∈ wsX120, w ∈ wsX12_purse := fun _ h => (List.mem_cons_of_mem _ (List.mem_append_right _ h))
  unfold f_X12_purse at hZ
  refine lv_aload_n hx hb dX12_purse_0 rfl (lv_at hl 0 rfl) ?_
  refine lv_iload_n hx hb dX12_purse_1 rfl (lv_at hl 1 rfl) ?_
  obtain ⟨r_3, S_1, hc_2, hZ⟩ := jx_b2_some hZ
  refine call_Vi SM_ok sameM ⟨hx, hb, hml, hown, hts⟩ (c_X12_isSort l D q k x1 S _ (r_3, S_1)  hc_2) (cwV 1 hts gX12_purse_X12_isSort rfl rfl rfl hd_X12_isSort ⟨Nat.le_of_ble_eq_true rfl, Nat.le_of_ble_eq_true rfl⟩) hK hP hD hS hA hsp (va_recv hK hP (ci := 12) (q0 := 0) rfl wM_0) (As := [.int x1]) rfl hl.1 rfl (Nat.le_of_ble_eq_true rfl) dX12_purse_2 ⟨Nat.zero_le _, Nat.zero_le _⟩ (fun H locs hP hD hS => ?_)
  refine lv_if_eq (tgt := 18) hx hb dX12_purse_5 (by decide) (fun c_4 => ?_) (fun c_4 => ?_)
  · have hZ := jx_i_pos c_4 hZ
    refine lv_iconst (v := (-1 : Int32)) hx hb dX12_purse_18 (by decide) ?_
    exact leave_i hx hb hr hlocks hP hS hZ dX12_purse_19
  · have hZ := jx_i_neg c_4 hZ
    refine lv_iload_n hx hb dX12_purse_8 rfl (lv_at hl 2 rfl) ?_
    refine lv_iconst (v := (0 : Int32)) hx hb dX12_purse_9 (by decide) ?_
    refine lv_bipush (v := (6 : Int32)) hx hb dX12_purse_10 (by decide) ?_
    obtain ⟨r_7, S_5, hc_6, hZ⟩ := jx_b2_some hZ
    refine call_Si SM_ok sameM ⟨hx, hb, hml, hown, hts⟩ (c_X12_in l D q k x2 (0 : Int32) (6 : Int32) S_1 _ (r_7, S_5)  hc_6) (va_cwS 3 hts gX12_purse_X12_in rfl rfl rfl hd_X12_in ⟨Nat.le_of_ble_eq_true rfl, Nat.le_of_ble_eq_true rfl⟩) hK hP hD hS hA hsp (As := [.int x2, .int (0 : Int32), .int (6 : Int32)]) rfl hl.1 rfl (Nat.le_of_ble_eq_true rfl) dX12_purse_12 ⟨Nat.zero_le _, Nat.zero_le _⟩ (fun H locs hP hD hS => ?_)
    refine lv_if_ne (tgt := 20) hx hb dX12_purse_15 (by decide) (fun c_8 => ?_) (fun c_8 => ?_)
    · have hZ := jx_i_neg c_8 hZ
      refine lv_aload_n hx hb dX12_purse_20 rfl (lv_at hl 0 rfl) ?_
      refine gf_12_purse hx hb hts in12 hown hK hP (hts (.fieldLink RX12 22 "CoinsOfLastModel" "purse" "[I") (List.mem_of_getElem? (i := 1) rfl)) dX12_purse_21 ?_
      refine lv_iload_n hx hb dX12_purse_24 rfl (lv_at hl 1 rfl) ?_
      obtain ⟨c_9, hZ⟩ := jx_a_some hZ
      refine M_iald hx hb hK hP wM_5 c_9 dX12_purse_25 ?_
      obtain ⟨x3_10, e_x3_10, hZ⟩ := jx_l_some hZ
      refine tx_i e_x3_10 ?_
      refine lv_istore_n (lv' := [(3, .int x3_10), (0, .ref (q 0)), (1, .int x1), (2, .int x2)]) hx hb dX12_purse_26 rfl hl (by decide) rfl (fun ls hl => ?_)
      refine lv_aload_n hx hb dX12_purse_27 rfl (lv_at hl 1 rfl) ?_
      refine gf_12_purse hx hb hts in12 hown hK hP (hts (.fieldLink RX12 22 "CoinsOfLastModel" "purse" "[I") (List.mem_of_getElem? (i := 1) rfl)) dX12_purse_28 ?_
      refine lv_iload_n hx hb dX12_purse_31 rfl (lv_at hl 2 rfl) ?_
      refine lv_iload_n hx hb dX12_purse_32 rfl (lv_at hl 3 rfl) ?_
      obtain ⟨c_11, hZ⟩ := jx_a_some hZ
      obtain ⟨S_12, e_S_12, hZ⟩ := jx_l_some hZ
      refine M_iast hx hb hK hP hD hS wM_5 (fun _ => wMs_5) c_11 e_S_12 dX12_purse_33 (fun H locs hP hD hS => ?_)
      refine lv_iload_n hx hb dX12_purse_34 rfl (lv_at hl 0 rfl) ?_
      exact leave_i hx hb hr hlocks hP hS hZ dX12_purse_35
    · have hZ := jx_i_pos c_8 hZ
      refine lv_iconst (v := (-1 : Int32)) hx hb dX12_purse_18 (by decide) ?_
      exact leave_i hx hb hr hlocks hP hS hZ dX12_purse_19
-- X12_thing
def f_X12_thing_46 (x1_3 : Int32) (x2_3 : Int32) (s0_3 : Int32) (S_3 : St) : Option (Int32 × St) :=
  (if s0_3 = 0 then some ((-1 : Int32), S_3) else (if (S_3.1 0 6) = (10 : Int32) then some ((-3 : Int32), S_3) else jx_d (1000 : Int32) (jx_a (S_3.1 0 6) 10 (jx_l (u1 S_3 6 (Int32.toNatClampNeg (S_3.1 0 6)) (x1_3 / (1000 : Int32))) (fun S_8 => jx_d (1000 : Int32) (jx_a (S_8.1 0 6) 10 (jx_l (u1 S_8 7 (Int32.toNatClampNeg (S_8.1 0 6)) (x1_3 - x1_3 / (1000 : Int32) * (1000 : Int32))) (fun S_11 => jx_d (10 : Int32) (jx_a (S_11.1 0 6) 10 (jx_l (u1 S_11 8 (Int32.toNatClampNeg (S_11.1 0 6)) (x2_3 / (10 : Int32))) (fun S_14 => jx_d (10 : Int32) (jx_a (S_14.1 0 6) 10 (jx_l (u1 S_14 9 (Int32.toNatClampNeg (S_14.1 0 6)) (x2_3 - x2_3 / (10 : Int32) * (10 : Int32))) (fun S_17 => jx_l (u1 S_17 0 6 ((S_17.1 0 6) + (1 : Int32))) (fun S_18 => some (((S_18.1 0 6) - (1 : Int32)), S_18))))))))))))))))
def f_X12_thing_45 (x1_2 : Int32) (x2_2 : Int32) (S_2 : St) : Option (Int32 × St) :=
  f_X12_thing_46 x1_2 x2_2 (0 : Int32) S_2
def f_X12_thing (x1 : Int32) (x2 : Int32) (S : St) : Option (Int32 × St) :=
  (if x1 < 0 then f_X12_thing_45 x1 x2 S else jx_d (1000 : Int32) (jx_b2 (f_X12_isLand (x1 / (1000 : Int32)) S) (fun r_24 S_22 => (if r_24 = 0 then f_X12_thing_45 x1 x2 S_22 else jx_d (1000 : Int32) (jx_b2 (f_X12_in (x1 - x1 / (1000 : Int32) * (1000 : Int32)) (1 : Int32) (200 : Int32) S_22) (fun r_30 S_28 => (if r_30 = 0 then f_X12_thing_45 x1 x2 S_28 else jx_b2 (f_X12_in x2 (0 : Int32) (999 : Int32) S_28) (fun r_35 S_33 => (if r_35 = 0 then f_X12_thing_45 x1 x2 S_33 else f_X12_thing_46 x1 x2 (1 : Int32) S_33)))))))))
set_option maxHeartbeats 4000000 in
set_option maxRecDepth 100000 in
theorem c_X12_thing (l : Launch) (D : va_G) (q : Nat → Nat) (k : CI) (x1 : Int32) (x2 : Int32) (S : St) (sz : Nat) (Z : Int32 × St) (hZ : f_X12_thing x1 x2 S = some Z) : MetI W_M SM l yX12_thing wsX12_thing { frames := 2, cells := 0, slots := 0, locals := 42 } [.ref (q 0), .int x1, .int x2] D q k S sz Z := by
  refine enter (cc := cX12_thing) (maxL := 4) (ret := some .int) (by decide) rfl (Nat.le_of_ble_eq_true rfl) ?_
  intro p e s m below meth c A ls hx hb hr hts hown hlocks hml hP hK hD hA hS hsp hAe hl
  have hown : s.vm.findClass RX12 = some m.cls := hown
  have hl : lv_has ls 4 [(0, .ref (q 0)), (1, .int x1), (2, .int x2)] := hl
  have in12 : ∀ w ∈ wsX120, w ∈ wsX12_thing := fun _ h => (List.mem_cons_of_mem _ (List.mem_append_right _ h))
  have j46 : ∀ (x1_3 : Int32) (x2_3 : Int32) (s0_3 : Int32) (S_3 : St)  (H : Heap) (locs : List Loc) (hZ : f_X12_thing_46 x1_3 x2_3 s0_3 S_3 = some Z) (hP : va_P D vwCl (W_M q k S_3) H) (hD : va_D A (W_M q k S_3)) (hS : va_S A s.heap H locs) (ls : Array Slot) (hl : lv_has ls 4 [(0, .ref (q 0)), (1, .int x1_3), (2, .int x2_3)]), W p l e ({ frames := 2, cells := 0, slots := 0, locals := 42 } : Room) s m ([.ref (q 0), .int x1, .int x2] : List Value).toArray below meth c H locs 0 0 (MQ below (va_Qi (fun r u => (r, u) = Z) (fun u t => va_P D vwCl (W_M q k u) t.heap) A) ([.ref (q 0), .int x1, .int x2] : List Value).toArray s 0 0 A) (F0 m 46 ls [.int s0_3]) := by
    intro x1_3 x2_3 s0_3 S_3   H locs hZ hP hD hS ls hl
    unfold f_X12_thing_46 at hZ
    refine lv_istore_n (lv' := [(3, .int s0_3), (0, .ref (q 0)), (1, .int x1_3), (2, .int x2_3)]) hx hb dX12_thing_46 rfl hl (by decide) rfl (fun ls hl => ?_)
    refine lv_iload_n hx hb dX12_thing_47 rfl (lv_at hl 0 rfl) ?_
    refine lv_if_ne (tgt := 53) hx hb dX12_thing_48 (by decide) (fun c_4 => ?_) (fun c_4 => ?_)
    · have hZ := jx_i_neg c_4 hZ
      refine lv_aload_n hx hb dX12_thing_53 rfl (lv_at hl 1 rfl) ?_
      refine gf_12_things hx hb hts in12 hown hK hP (hts (.fieldLink RX12 122 "CoinsOfLastModel" "things" "I") (List.mem_of_getElem? (i := 1) rfl)) dX12_thing_54 ?_
      refine lv_bipush (v := (10 : Int32)) hx hb dX12_thing_57 (by decide) ?_
      refine lv_icmp_ne (tgt := 65) hx hb dX12_thing_59 (by decide) (fun c_5 => ?_) (fun c_5 => ?_)
      · have hZ := jx_i_neg c_5 hZ
        refine lv_aload_n hx hb dX12_thing_65 rfl (lv_at hl 1 rfl) ?_
        refine gf_12_thingLand hx hb hts in12 hown hK hP (hts (.fieldLink RX12 25 "CoinsOfLastModel" "thingLand" "[I") (List.mem_of_getElem? (i := 2) rfl)) dX12_thing_66 ?_
        refine lv_aload_n hx hb dX12_thing_69 rfl (lv_at hl 1 rfl) ?_
        refine gf_12_things hx hb hts in12 hown hK hP (hts (.fieldLink RX12 122 "CoinsOfLastModel" "things" "I") (List.mem_of_getElem? (i := 1) rfl)) dX12_thing_70 ?_
        refine lv_iload_n hx hb dX12_thing_73 rfl (lv_at hl 2 rfl) ?_
        refine lv_sipush (v := (1000 : Int32)) hx hb dX12_thing_74 (by decide) ?_
        obtain ⟨c_6, hZ⟩ := jx_d_some hZ
        refine lv_idiv hx hb dX12_thing_77 c_6 ?_
        obtain ⟨c_7, hZ⟩ := jx_a_some hZ
        obtain ⟨S_8, e_S_8, hZ⟩ := jx_l_some hZ
        refine M_iast hx hb hK hP hD hS wM_6 (fun _ => wMs_6) c_7 e_S_8 dX12_thing_78 (fun H locs hP hD hS => ?_)
        refine lv_aload_n hx hb dX12_thing_79 rfl (lv_at hl 1 rfl) ?_
        refine gf_12_price hx hb hts in12 hown hK hP (hts (.fieldLink RX12 28 "CoinsOfLastModel" "price" "[I") (List.mem_of_getElem? (i := 3) rfl)) dX12_thing_80 ?_
        refine lv_aload_n hx hb dX12_thing_83 rfl (lv_at hl 1 rfl) ?_
        refine gf_12_things hx hb hts in12 hown hK hP (hts (.fieldLink RX12 122 "CoinsOfLastModel" "things" "I") (List.mem_of_getElem? (i := 1) rfl)) dX12_thing_84 ?_
        refine lv_iload_n hx hb dX12_thing_87 rfl (lv_at hl 2 rfl) ?_
        refine lv_sipush (v := (1000 : Int32)) hx hb dX12_thing_88 (by decide) ?_
        obtain ⟨c_9, hZ⟩ := jx_d_some hZ
        refine lv_irem hx hb dX12_thing_91 c_9 ?_
        obtain ⟨c_10, hZ⟩ := jx_a_some hZ
        obtain ⟨S_11, e_S_11, hZ⟩ := jx_l_some hZ
        refine M_iast hx hb hK hP hD hS wM_7 (fun _ => wMs_7) c_10 e_S_11 dX12_thing_92 (fun H locs hP hD hS => ?_)
        refine lv_aload_n hx hb dX12_thing_93 rfl (lv_at hl 1 rfl) ?_
        refine gf_12_value hx hb hts in12 hown hK hP (hts (.fieldLink RX12 31 "CoinsOfLastModel" "value" "[I") (List.mem_of_getElem? (i := 4) rfl)) dX12_thing_94 ?_
        refine lv_aload_n hx hb dX12_thing_97 rfl (lv_at hl 1 rfl) ?_
        refine gf_12_things hx hb hts in12 hown hK hP (hts (.fieldLink RX12 122 "CoinsOfLastModel" "things" "I") (List.mem_of_getElem? (i := 1) rfl)) dX12_thing_98 ?_
        refine lv_iload_n hx hb dX12_thing_101 rfl (lv_at hl 3 rfl) ?_
        refine lv_bipush (v := (10 : Int32)) hx hb dX12_thing_102 (by decide) ?_
        obtain ⟨c_12, hZ⟩ := jx_d_some hZ
        refine lv_idiv hx hb dX12_thing_104 c_12 ?_
        obtain ⟨c_13, hZ⟩ := jx_a_some hZ
        obtain ⟨S_14, e_S_14, hZ⟩ := jx_l_some hZ
        refine M_iast hx hb hK hP hD hS wM_8 (fun _ => wMs_8) c_13 e_S_14 dX12_thing_105 (fun H locs hP hD hS => ?_)
        refine lv_aload_n hx hb dX12_thing_106 rfl (lv_at hl 1 rfl) ?_
        refine gf_12_many hx hb hts in12 hown hK hP (hts (.fieldLink RX12 34 "CoinsOfLastModel" "many" "[I") (List.mem_of_getElem? (i := 5) rfl)) dX12_thing_107 ?_
        refine lv_aload_n hx hb dX12_thing_110 rfl (lv_at hl 1 rfl) ?_
        refine gf_12_things hx hb hts in12 hown hK hP (hts (.fieldLink RX12 122 "CoinsOfLastModel" "things" "I") (List.mem_of_getElem? (i := 1) rfl)) dX12_thing_111 ?_
        refine lv_iload_n hx hb dX12_thing_114 rfl (lv_at hl 3 rfl) ?_
        refine lv_bipush (v := (10 : Int32)) hx hb dX12_thing_115 (by decide) ?_
        obtain ⟨c_15, hZ⟩ := jx_d_some hZ
        refine lv_irem hx hb dX12_thing_117 c_15 ?_
        obtain ⟨c_16, hZ⟩ := jx_a_some hZ
        obtain ⟨S_17, e_S_17, hZ⟩ := jx_l_some hZ
        refine M_iast hx hb hK hP hD hS wM_9 (fun _ => wMs_9) c_16 e_S_17 dX12_thing_118 (fun H locs hP hD hS => ?_)
        refine lv_aload_n hx hb dX12_thing_119 rfl (lv_at hl 1 rfl) ?_
        refine lv_dup hx hb dX12_thing_120 rfl ?_
        refine gf_12_things hx hb hts in12 hown hK hP (hts (.fieldLink RX12 122 "CoinsOfLastModel" "things" "I") (List.mem_of_getElem? (i := 1) rfl)) dX12_thing_121 ?_
        refine lv_iconst (v := (1 : Int32)) hx hb dX12_thing_124 (by decide) ?_
        refine lv_iadd hx hb dX12_thing_125 ?_
        obtain ⟨S_18, e_S_18, hZ⟩ := jx_l_some hZ
        refine pf_12_things hx hb hts in12 hown hK hP hD hS (hts (.fieldLink RX12 122 "CoinsOfLastModel" "things" "I") (List.mem_of_getElem? (i := 1) rfl)) e_S_18 dX12_thing_126 (fun H locs hP hD hS => ?_)
        refine lv_aload_n hx hb dX12_thing_129 rfl (lv_at hl 1 rfl) ?_
        refine gf_12_things hx hb hts in12 hown hK hP (hts (.fieldLink RX12 122 "CoinsOfLastModel" "things" "I") (List.mem_of_getElem? (i := 1) rfl)) dX12_thing_130 ?_
        refine lv_iconst (v := (1 : Int32)) hx hb dX12_thing_133 (by decide) ?_
        refine lv_isub hx hb dX12_thing_134 ?_
        exact leave_i hx hb hr hlocks hP hS hZ dX12_thing_135
      · have hZ := jx_i_pos c_5 hZ
        refine lv_bipush (v := (-3 : Int32)) hx hb dX12_thing_62 (by decide) ?_
        exact leave_i hx hb hr hlocks hP hS hZ dX12_thing_64
    · have hZ := jx_i_pos c_4 hZ
      refine lv_iconst (v := (-1 : Int32)) hx hb dX12_thing_51 (by decide) ?_
      exact leave_i hx hb hr hlocks hP hS hZ dX12_thing_52
  have j45 : ∀ (x1_2 : Int32) (x2_2 : Int32) (S_2 : St)  (H : Heap) (locs : List Loc) (hZ : f_X12_thing_45 x1_2 x2_2 S_2 = some Z) (hP : va_P D vwCl (W_M q k S_2) H) (hD : va_D A (W_M q k S_2)) (hS : va_S A s.heap H locs) (ls : Array Slot) (hl : lv_has ls 4 [(0, .ref (q 0)), (1, .int x1_2), (2, .int x2_2)]), W p l e ({ frames := 2, cells := 0, slots := 0, locals := 42 } : Room) s m ([.ref (q 0), .int x1, .int x2] : List Value).toArray below meth c H locs 0 0 (MQ below (va_Qi (fun r u => (r, u) = Z) (fun u t => va_P D vwCl (W_M q k u) t.heap) A) ([.ref (q 0), .int x1, .int x2] : List Value).toArray s 0 0 A) (F0 m 45 ls []) := by
    intro x1_2 x2_2 S_2   H locs hZ hP hD hS ls hl
    unfold f_X12_thing_45 at hZ
    refine lv_iconst (v := (0 : Int32)) hx hb dX12_thing_45 (by decide) ?_
    exact j46 x1_2 x2_2 (0 : Int32) S_2 _ _ hZ hP hD hS _ (lv_sub hl [0, 1, 2] rfl)
  unfold f_X12_thing at hZ
  refine lv_iload_n hx hb dX12_thing_0 rfl (lv_at hl 1 rfl) ?_
  refine lv_if_lt (tgt := 45) hx hb dX12_thing_1 (by decide) (fun c_1 => ?_) (fun c_1 => ?_)
  · have hZ := jx_i_pos c_1 hZ
    exact j45 x1 x2 S _ _ hZ hP hD hS _ (lv_sub hl [0, 1, 2] rfl)
  · have hZ := jx_i_neg c_1 hZ
    refine lv_iload_n hx hb dX12_thing_4 rfl (lv_at hl 1 rfl) ?_
    refine lv_sipush (v := (1000 : Int32)) hx hb dX12_thing_5 (by decide) ?_
    obtain ⟨c_21, hZ⟩ := jx_d_some hZ
    refine lv_idiv hx hb dX12_thing_8 c_21 ?_
    obtain ⟨r_24, S_22, hc_23, hZ⟩ := jx_b2_some hZ
    refine call_Si SM_ok sameM ⟨hx, hb, hml, hown, hts⟩ (c_X12_isLand l D q k (x1 / (1000 : Int32)) S _ (r_24, S_22)  hc_23) (va_cwS 1 hts gX12_thing_X12_isLand rfl rfl rfl hd_X12_isLand ⟨Nat.le_of_ble_eq_true rfl, Nat.le_of_ble_eq_true rfl⟩) hK hP hD hS hA hsp (As := [.int (x1 / (1000 : Int32))]) rfl hl.1 rfl (Nat.le_of_ble_eq_true rfl) dX12_thing_9 ⟨Nat.zero_le _, Nat.zero_le _⟩ (fun H locs hP hD hS => ?_)
    refine lv_if_eq (tgt := 45) hx hb dX12_thing_12 (by decide) (fun c_25 => ?_) (fun c_25 => ?_)
    · have hZ := jx_i_pos c_25 hZ
      exact j45 x1 x2 S_22 _ _ hZ hP hD hS _ (lv_sub hl [0, 1, 2] rfl)
    · have hZ := jx_i_neg c_25 hZ
      refine lv_iload_n hx hb dX12_thing_15 rfl (lv_at hl 1 rfl) ?_
      refine lv_sipush (v := (1000 : Int32)) hx hb dX12_thing_16 (by decide) ?_
      obtain ⟨c_27, hZ⟩ := jx_d_some hZ
      refine lv_irem hx hb dX12_thing_19 c_27 ?_
      refine lv_iconst (v := (1 : Int32)) hx hb dX12_thing_20 (by decide) ?_
      refine lv_sipush (v := (200 : Int32)) hx hb dX12_thing_21 (by decide) ?_
      obtain ⟨r_30, S_28, hc_29, hZ⟩ := jx_b2_some hZ
      refine call_Si SM_ok sameM ⟨hx, hb, hml, hown, hts⟩ (c_X12_in l D q k (x1 - x1 / (1000 : Int32) * (1000 : Int32)) (1 : Int32) (200 : Int32) S_22 _ (r_30, S_28)  hc_29) (va_cwS 3 hts gX12_thing_X12_in rfl rfl rfl hd_X12_in ⟨Nat.le_of_ble_eq_true rfl, Nat.le_of_ble_eq_true rfl⟩) hK hP hD hS hA hsp (As := [.int (x1 - x1 / (1000 : Int32) * (1000 : Int32)), .int (1 : Int32), .int (200 : Int32)]) rfl hl.1 rfl (Nat.le_of_ble_eq_true rfl) dX12_thing_24 ⟨Nat.zero_le _, Nat.zero_le _⟩ (fun H locs hP hD hS => ?_)
      refine lv_if_eq (tgt := 45) hx hb dX12_thing_27 (by decide) (fun c_31 => ?_) (fun c_31 => ?_)
      · have hZ := jx_i_pos c_31 hZ
        exact j45 x1 x2 S_28 _ _ hZ hP hD hS _ (lv_sub hl [0, 1, 2] rfl)
      · have hZ := jx_i_neg c_31 hZ
        refine lv_iload_n hx hb dX12_thing_30 rfl (lv_at hl 2 rfl) ?_
        refine lv_iconst (v := (0 : Int32)) hx hb dX12_thing_31 (by decide) ?_
        refine lv_sipush (v := (999 : Int32)) hx hb dX12_thing_32 (by decide) ?_
        obtain ⟨r_35, S_33, hc_34, hZ⟩ := jx_b2_some hZ
        refine call_Si SM_ok sameM ⟨hx, hb, hml, hown, hts⟩ (c_X12_in l D q k x2 (0 : Int32) (999 : Int32) S_28 _ (r_35, S_33)  hc_34) (va_cwS 3 hts gX12_thing_X12_in rfl rfl rfl hd_X12_in ⟨Nat.le_of_ble_eq_true rfl, Nat.le_of_ble_eq_true rfl⟩) hK hP hD hS hA hsp (As := [.int x2, .int (0 : Int32), .int (999 : Int32)]) rfl hl.1 rfl (Nat.le_of_ble_eq_true rfl) dX12_thing_35 ⟨Nat.zero_le _, Nat.zero_le _⟩ (fun H locs hP hD hS => ?_)
        refine lv_if_eq (tgt := 45) hx hb dX12_thing_38 (by decide) (fun c_36 => ?_) (fun c_36 => ?_)
        · have hZ := jx_i_pos c_36 hZ
          exact j45 x1 x2 S_33 _ _ hZ hP hD hS _ (lv_sub hl [0, 1, 2] rfl)
        · have hZ := jx_i_neg c_36 hZ
          refine lv_iconst (v := (1 : Int32)) hx hb dX12_thing_41 (by decide) ?_
          refine lv_goto (tgt := 46) hx hb dX12_thing_42 (by decide) ?_
          exact j46 x1 x2 (1 : Int32) S_33 _ _ hZ hP hD hS _ (lv_sub hl [0, 1, 2] rfl)
-- X12_rule
def f_X12_rule (x1 : Int32) (x2 : Int32) (S : St) : Option (Int32 × St) :=
  jx_b2 (f_X12_isLand x1 S) (fun r_3 S_1 => (if r_3 = 0 then some ((-1 : Int32), S_1) else jx_b2 (f_X12_in x2 (0 : Int32) (2 : Int32) S_1) (fun r_7 S_5 => (if r_7 = 0 then some ((-1 : Int32), S_5) else jx_a x1 4 (jx_l (S_5.1 10 (Int32.toNatClampNeg x1)) (fun x3_10 => jx_a x1 4 (jx_l (u1 S_5 10 (Int32.toNatClampNeg x1) x2) (fun S_12 => some (x3_10, S_12)))))))))
set_option maxHeartbeats 4000000 in
set_option maxRecDepth 100000 in
theorem c_X12_rule (l : Launch) (D : va_G) (q : Nat → Nat) (k : CI) (x1 : Int32) (x2 : Int32) (S : St) (sz : Nat) (Z : Int32 × St) (hZ : f_X12_rule x1 x2 S = some Z) : MetI W_M SM l yX12_rule wsX12_rule { frames := 2, cells := 0, slots := 0, locals := 42 } [.ref (q 0), .int x1, .int x2] D q k S sz Z := by
  refine enter (cc := cX12_rule) (maxL := 4) (ret := some .int) (by decide) rfl (Nat.le_of_ble_eq_true rfl) ?_
  intro p e s m below meth c A ls hx hb hr hts hown hlocks hml hP hK hD hA hS hsp hAe hl
  have hown : s.vm.findClass RX12 = some m.cls := hown
  have hl : lv_has ls 4 [(0, .ref (q 0)), (1, .int x1), (2, .int x2)] := hl
  have in12 : ∀ w ∈ wsX120, w ∈ wsX12_rule := fun _ h => (List.mem_cons_of_mem _ (List.mem_append_right _ h))
  unfold f_X12_rule at hZ
  refine lv_iload_n hx hb dX12_rule_0 rfl (lv_at hl 1 rfl) ?_
  obtain ⟨r_3, S_1, hc_2, hZ⟩ := jx_b2_some hZ
  refine call_Si SM_ok sameM ⟨hx, hb, hml, hown, hts⟩ (c_X12_isLand l D q k x1 S _ (r_3, S_1)  hc_2) (va_cwS 1 hts gX12_rule_X12_isLand rfl rfl rfl hd_X12_isLand ⟨Nat.le_of_ble_eq_true rfl, Nat.le_of_ble_eq_true rfl⟩) hK hP hD hS hA hsp (As := [.int x1]) rfl hl.1 rfl (Nat.le_of_ble_eq_true rfl) dX12_rule_1 ⟨Nat.zero_le _, Nat.zero_le _⟩ (fun H locs hP hD hS => ?_)
  refine lv_if_eq (tgt := 16) hx hb dX12_rule_4 (by decide) (fun c_4 => ?_) (fun c_4 => ?_)
  · have hZ := jx_i_pos c_4 hZ
    refine lv_iconst (v := (-1 : Int32)) hx hb dX12_rule_16 (by decide) ?_
    exact leave_i hx hb hr hlocks hP hS hZ dX12_rule_17
  · have hZ := jx_i_neg c_4 hZ
    refine lv_iload_n hx hb dX12_rule_7 rfl (lv_at hl 2 rfl) ?_
    refine lv_iconst (v := (0 : Int32)) hx hb dX12_rule_8 (by decide) ?_
    refine lv_iconst (v := (2 : Int32)) hx hb dX12_rule_9 (by decide) ?_
    obtain ⟨r_7, S_5, hc_6, hZ⟩ := jx_b2_some hZ
    refine call_Si SM_ok sameM ⟨hx, hb, hml, hown, hts⟩ (c_X12_in l D q k x2 (0 : Int32) (2 : Int32) S_1 _ (r_7, S_5)  hc_6) (va_cwS 3 hts gX12_rule_X12_in rfl rfl rfl hd_X12_in ⟨Nat.le_of_ble_eq_true rfl, Nat.le_of_ble_eq_true rfl⟩) hK hP hD hS hA hsp (As := [.int x2, .int (0 : Int32), .int (2 : Int32)]) rfl hl.1 rfl (Nat.le_of_ble_eq_true rfl) dX12_rule_10 ⟨Nat.zero_le _, Nat.zero_le _⟩ (fun H locs hP hD hS => ?_)
    refine lv_if_ne (tgt := 18) hx hb dX12_rule_13 (by decide) (fun c_8 => ?_) (fun c_8 => ?_)
    · have hZ := jx_i_neg c_8 hZ
      refine lv_aload_n hx hb dX12_rule_18 rfl (lv_at hl 0 rfl) ?_
      refine gf_12_rules hx hb hts in12 hown hK hP (hts (.fieldLink RX12 37 "CoinsOfLastModel" "rules" "[I") (List.mem_of_getElem? (i := 1) rfl)) dX12_rule_19 ?_
      refine lv_iload_n hx hb dX12_rule_22 rfl (lv_at hl 1 rfl) ?_
      obtain ⟨c_9, hZ⟩ := jx_a_some hZ
      refine M_iald hx hb hK hP wM_10 c_9 dX12_rule_23 ?_
      obtain ⟨x3_10, e_x3_10, hZ⟩ := jx_l_some hZ
      refine tx_i e_x3_10 ?_
      refine lv_istore_n (lv' := [(3, .int x3_10), (0, .ref (q 0)), (1, .int x1), (2, .int x2)]) hx hb dX12_rule_24 rfl hl (by decide) rfl (fun ls hl => ?_)
      refine lv_aload_n hx hb dX12_rule_25 rfl (lv_at hl 1 rfl) ?_
      refine gf_12_rules hx hb hts in12 hown hK hP (hts (.fieldLink RX12 37 "CoinsOfLastModel" "rules" "[I") (List.mem_of_getElem? (i := 1) rfl)) dX12_rule_26 ?_
      refine lv_iload_n hx hb dX12_rule_29 rfl (lv_at hl 2 rfl) ?_
      refine lv_iload_n hx hb dX12_rule_30 rfl (lv_at hl 3 rfl) ?_
      obtain ⟨c_11, hZ⟩ := jx_a_some hZ
      obtain ⟨S_12, e_S_12, hZ⟩ := jx_l_some hZ
      refine M_iast hx hb hK hP hD hS wM_10 (fun _ => wMs_10) c_11 e_S_12 dX12_rule_31 (fun H locs hP hD hS => ?_)
      refine lv_iload_n hx hb dX12_rule_32 rfl (lv_at hl 0 rfl) ?_
      exact leave_i hx hb hr hlocks hP hS hZ dX12_rule_33
    · have hZ := jx_i_pos c_8 hZ
      refine lv_iconst (v := (-1 : Int32)) hx hb dX12_rule_16 (by decide) ?_
      exact leave_i hx hb hr hlocks hP hS hZ dX12_rule_17
-- X12_window
def f_X12_window_67 (x3_15 : Int32) (s1_15 : Int32) (S_15 : St) : Option (Int32 × St) :=
  jx_l (u1 S_15 0 13 s1_15) (fun S_16 => some (x3_15, S_16))
def f_X12_window_50 (x1_12 : Int32) (x2_12 : Int32) (x3_12 : Int32) (s1_12 : Int32) (S_12 : St) : Option (Int32 × St) :=
  jx_l (u1 S_12 0 12 s1_12) (fun S_13 => (if x1_12 = (1 : Int32) then f_X12_window_67 x3_12 x2_12 S_13 else f_X12_window_67 x3_12 (S_13.1 0 13) S_13))
def f_X12_window_36 (x1_10 : Int32) (x2_10 : Int32) (s0_10 : Int32) (S_10 : St) : Option (Int32 × St) :=
  (if x1_10 = 0 then f_X12_window_50 x1_10 x2_10 s0_10 x2_10 S_10 else f_X12_window_50 x1_10 x2_10 s0_10 (S_10.1 0 12) S_10)
def f_X12_window (x1 : Int32) (x2 : Int32) (S : St) : Option (Int32 × St) :=
  jx_b2 (f_X12_in x1 (0 : Int32) (1 : Int32) S) (fun r_3 S_1 => (if r_3 = 0 then some ((-1 : Int32), S_1) else jx_b2 (f_X12_in x2 (0 : Int32) (99 : Int32) S_1) (fun r_7 S_5 => (if r_7 = 0 then some ((-1 : Int32), S_5) else (if x1 = 0 then f_X12_window_36 x1 x2 (S_5.1 0 12) S_5 else f_X12_window_36 x1 x2 (S_5.1 0 13) S_5)))))
set_option maxHeartbeats 4000000 in
set_option maxRecDepth 100000 in
theorem c_X12_window (l : Launch) (D : va_G) (q : Nat → Nat) (k : CI) (x1 : Int32) (x2 : Int32) (S : St) (sz : Nat) (Z : Int32 × St) (hZ : f_X12_window x1 x2 S = some Z) : MetI W_M SM l yX12_window wsX12_window { frames := 1, cells := 0, slots := 0, locals := 22 } [.ref (q 0), .int x1, .int x2] D q k S sz Z := by
  refine enter (cc := cX12_window) (maxL := 4) (ret := some .int) (by decide) rfl (Nat.le_of_ble_eq_true rfl) ?_
  intro p e s m below meth c A ls hx hb hr hts hown hlocks hml hP hK hD hA hS hsp hAe hl
  have hown : s.vm.findClass RX12 = some m.cls := hown
  have hl : lv_has ls 4 [(0, .ref (q 0)), (1, .int x1), (2, .int x2)] := hl
  have in12 : ∀ w ∈ wsX120, w ∈ wsX12_window := fun _ h => (List.mem_cons_of_mem _ (List.mem_append_right _ h))
  have j67 : ∀ (x3_15 : Int32) (s1_15 : Int32) (S_15 : St)  (H : Heap) (locs : List Loc) (hZ : f_X12_window_67 x3_15 s1_15 S_15 = some Z) (hP : va_P D vwCl (W_M q k S_15) H) (hD : va_D A (W_M q k S_15)) (hS : va_S A s.heap H locs) (ls : Array Slot) (hl : lv_has ls 4 [(3, .int x3_15)]), W p l e ({ frames := 1, cells := 0, slots := 0, locals := 22 } : Room) s m ([.ref (q 0), .int x1, .int x2] : List Value).toArray below meth c H locs 0 0 (MQ below (va_Qi (fun r u => (r, u) = Z) (fun u t => va_P D vwCl (W_M q k u) t.heap) A) ([.ref (q 0), .int x1, .int x2] : List Value).toArray s 0 0 A) (F0 m 67 ls [.int s1_15, .ref (q 0)]) := by
    intro x3_15 s1_15 S_15   H locs hZ hP hD hS ls hl
    unfold f_X12_window_67 at hZ
    obtain ⟨S_16, e_S_16, hZ⟩ := jx_l_some hZ
    refine pf_12_fee hx hb hts in12 hown hK hP hD hS (hts (.fieldLink RX12 148 "CoinsOfLastModel" "fee" "I") (List.mem_of_getElem? (i := 2) rfl)) e_S_16 dX12_window_67 (fun H locs hP hD hS => ?_)
    refine lv_iload_n hx hb dX12_window_70 rfl (lv_at hl 0 rfl) ?_
    exact leave_i hx hb hr hlocks hP hS hZ dX12_window_71
  have j50 : ∀ (x1_12 : Int32) (x2_12 : Int32) (x3_12 : Int32) (s1_12 : Int32) (S_12 : St)  (H : Heap) (locs : List Loc) (hZ : f_X12_window_50 x1_12 x2_12 x3_12 s1_12 S_12 = some Z) (hP : va_P D vwCl (W_M q k S_12) H) (hD : va_D A (W_M q k S_12)) (hS : va_S A s.heap H locs) (ls : Array Slot) (hl : lv_has ls 4 [(0, .ref (q 0)), (1, .int x1_12), (2, .int x2_12), (3, .int x3_12)]), W p l e ({ frames := 1, cells := 0, slots := 0, locals := 22 } : Room) s m ([.ref (q 0), .int x1, .int x2] : List Value).toArray below meth c H locs 0 0 (MQ below (va_Qi (fun r u => (r, u) = Z) (fun u t => va_P D vwCl (W_M q k u) t.heap) A) ([.ref (q 0), .int x1, .int x2] : List Value).toArray s 0 0 A) (F0 m 50 ls [.int s1_12, .ref (q 0)]) := by
    intro x1_12 x2_12 x3_12 s1_12 S_12   H locs hZ hP hD hS ls hl
    unfold f_X12_window_50 at hZ
    obtain ⟨S_13, e_S_13, hZ⟩ := jx_l_some hZ
    refine pf_12_share hx hb hts in12 hown hK hP hD hS (hts (.fieldLink RX12 145 "CoinsOfLastModel" "share" "I") (List.mem_of_getElem? (i := 1) rfl)) e_S_13 dX12_window_50 (fun H locs hP hD hS => ?_)
    refine lv_aload_n hx hb dX12_window_53 rfl (lv_at hl 0 rfl) ?_
    refine lv_iload_n hx hb dX12_window_54 rfl (lv_at hl 1 rfl) ?_
    refine lv_iconst (v := (1 : Int32)) hx hb dX12_window_55 (by decide) ?_
    refine lv_icmp_ne (tgt := 63) hx hb dX12_window_56 (by decide) (fun c_14 => ?_) (fun c_14 => ?_)
    · have hZ := jx_i_neg c_14 hZ
      refine lv_aload_n hx hb dX12_window_63 rfl (lv_at hl 0 rfl) ?_
      refine gf_12_fee hx hb hts in12 hown hK hP (hts (.fieldLink RX12 148 "CoinsOfLastModel" "fee" "I") (List.mem_of_getElem? (i := 2) rfl)) dX12_window_64 ?_
      exact j67 x3_12 (S_13.1 0 13) S_13 _ _ hZ hP hD hS _ (lv_sub hl [3] rfl)
    · have hZ := jx_i_pos c_14 hZ
      refine lv_iload_n hx hb dX12_window_59 rfl (lv_at hl 2 rfl) ?_
      refine lv_goto (tgt := 67) hx hb dX12_window_60 (by decide) ?_
      exact j67 x3_12 x2_12 S_13 _ _ hZ hP hD hS _ (lv_sub hl [3] rfl)
  have j36 : ∀ (x1_10 : Int32) (x2_10 : Int32) (s0_10 : Int32) (S_10 : St)  (H : Heap) (locs : List Loc) (hZ : f_X12_window_36 x1_10 x2_10 s0_10 S_10 = some Z) (hP : va_P D vwCl (W_M q k S_10) H) (hD : va_D A (W_M q k S_10)) (hS : va_S A s.heap H locs) (ls : Array Slot) (hl : lv_has ls 4 [(0, .ref (q 0)), (1, .int x1_10), (2, .int x2_10)]), W p l e ({ frames := 1, cells := 0, slots := 0, locals := 22 } : Room) s m ([.ref (q 0), .int x1, .int x2] : List Value).toArray below meth c H locs 0 0 (MQ below (va_Qi (fun r u => (r, u) = Z) (fun u t => va_P D vwCl (W_M q k u) t.heap) A) ([.ref (q 0), .int x1, .int x2] : List Value).toArray s 0 0 A) (F0 m 36 ls [.int s0_10]) := by
    intro x1_10 x2_10 s0_10 S_10   H locs hZ hP hD hS ls hl
    unfold f_X12_window_36 at hZ
    refine lv_istore_n (lv' := [(3, .int s0_10), (0, .ref (q 0)), (1, .int x1_10), (2, .int x2_10)]) hx hb dX12_window_36 rfl hl (by decide) rfl (fun ls hl => ?_)
    refine lv_aload_n hx hb dX12_window_37 rfl (lv_at hl 1 rfl) ?_
    refine lv_iload_n hx hb dX12_window_38 rfl (lv_at hl 2 rfl) ?_
    refine lv_if_ne (tgt := 46) hx hb dX12_window_39 (by decide) (fun c_11 => ?_) (fun c_11 => ?_)
    · have hZ := jx_i_neg c_11 hZ
      refine lv_aload_n hx hb dX12_window_46 rfl (lv_at hl 1 rfl) ?_
      refine gf_12_share hx hb hts in12 hown hK hP (hts (.fieldLink RX12 145 "CoinsOfLastModel" "share" "I") (List.mem_of_getElem? (i := 1) rfl)) dX12_window_47 ?_
      exact j50 x1_10 x2_10 s0_10 (S_10.1 0 12) S_10 _ _ hZ hP hD hS _ (lv_sub hl [1, 2, 3, 0] rfl)
    · have hZ := jx_i_pos c_11 hZ
      refine lv_iload_n hx hb dX12_window_42 rfl (lv_at hl 3 rfl) ?_
      refine lv_goto (tgt := 50) hx hb dX12_window_43 (by decide) ?_
      exact j50 x1_10 x2_10 s0_10 x2_10 S_10 _ _ hZ hP hD hS _ (lv_sub hl [1, 2, 3, 0] rfl)
  unfold f_X12_window at hZ
  refine lv_iload_n hx hb dX12_window_0 rfl (lv_at hl 1 rfl) ?_
  refine lv_iconst (v := (0 : Int32)) hx hb dX12_window_1 (by decide) ?_
  refine lv_iconst (v := (1 : Int32)) hx hb dX12_window_2 (by decide) ?_
  obtain ⟨r_3, S_1, hc_2, hZ⟩ := jx_b2_some hZ
  refine call_Si SM_ok sameM ⟨hx, hb, hml, hown, hts⟩ (c_X12_in l D q k x1 (0 : Int32) (1 : Int32) S _ (r_3, S_1)  hc_2) (va_cwS 3 hts gX12_window_X12_in rfl rfl rfl hd_X12_in ⟨Nat.le_of_ble_eq_true rfl, Nat.le_of_ble_eq_true rfl⟩) hK hP hD hS hA hsp (As := [.int x1, .int (0 : Int32), .int (1 : Int32)]) rfl hl.1 rfl (Nat.le_of_ble_eq_true rfl) dX12_window_3 ⟨Nat.zero_le _, Nat.zero_le _⟩ (fun H locs hP hD hS => ?_)
  refine lv_if_eq (tgt := 19) hx hb dX12_window_6 (by decide) (fun c_4 => ?_) (fun c_4 => ?_)
  · have hZ := jx_i_pos c_4 hZ
    refine lv_iconst (v := (-1 : Int32)) hx hb dX12_window_19 (by decide) ?_
    exact leave_i hx hb hr hlocks hP hS hZ dX12_window_20
  · have hZ := jx_i_neg c_4 hZ
    refine lv_iload_n hx hb dX12_window_9 rfl (lv_at hl 2 rfl) ?_
    refine lv_iconst (v := (0 : Int32)) hx hb dX12_window_10 (by decide) ?_
    refine lv_bipush (v := (99 : Int32)) hx hb dX12_window_11 (by decide) ?_
    obtain ⟨r_7, S_5, hc_6, hZ⟩ := jx_b2_some hZ
    refine call_Si SM_ok sameM ⟨hx, hb, hml, hown, hts⟩ (c_X12_in l D q k x2 (0 : Int32) (99 : Int32) S_1 _ (r_7, S_5)  hc_6) (va_cwS 3 hts gX12_window_X12_in rfl rfl rfl hd_X12_in ⟨Nat.le_of_ble_eq_true rfl, Nat.le_of_ble_eq_true rfl⟩) hK hP hD hS hA hsp (As := [.int x2, .int (0 : Int32), .int (99 : Int32)]) rfl hl.1 rfl (Nat.le_of_ble_eq_true rfl) dX12_window_13 ⟨Nat.zero_le _, Nat.zero_le _⟩ (fun H locs hP hD hS => ?_)
    refine lv_if_ne (tgt := 21) hx hb dX12_window_16 (by decide) (fun c_8 => ?_) (fun c_8 => ?_)
    · have hZ := jx_i_neg c_8 hZ
      refine lv_iload_n hx hb dX12_window_21 rfl (lv_at hl 1 rfl) ?_
      refine lv_if_ne (tgt := 32) hx hb dX12_window_22 (by decide) (fun c_9 => ?_) (fun c_9 => ?_)
      · have hZ := jx_i_neg c_9 hZ
        refine lv_aload_n hx hb dX12_window_32 rfl (lv_at hl 0 rfl) ?_
        refine gf_12_fee hx hb hts in12 hown hK hP (hts (.fieldLink RX12 148 "CoinsOfLastModel" "fee" "I") (List.mem_of_getElem? (i := 2) rfl)) dX12_window_33 ?_
        exact j36 x1 x2 (S_5.1 0 13) S_5 _ _ hZ hP hD hS _ (lv_sub hl [0, 1, 2] rfl)
      · have hZ := jx_i_pos c_9 hZ
        refine lv_aload_n hx hb dX12_window_25 rfl (lv_at hl 0 rfl) ?_
        refine gf_12_share hx hb hts in12 hown hK hP (hts (.fieldLink RX12 145 "CoinsOfLastModel" "share" "I") (List.mem_of_getElem? (i := 1) rfl)) dX12_window_26 ?_
        refine lv_goto (tgt := 36) hx hb dX12_window_29 (by decide) ?_
        exact j36 x1 x2 (S_5.1 0 12) S_5 _ _ hZ hP hD hS _ (lv_sub hl [0, 1, 2] rfl)
    · have hZ := jx_i_pos c_8 hZ
      refine lv_iconst (v := (-1 : Int32)) hx hb dX12_window_19 (by decide) ?_
      exact leave_i hx hb hr hlocks hP hS hZ dX12_window_20
-- X12_held
def f_X12_held (x1 : Int32) (x2 : Int32) (S : St) : Option (Int32 × St) :=
  (if x2 = (0 : Int32) then jx_a x1 8 (some ((S.1 2 (Int32.toNatClampNeg x1)), S)) else if x2 = (1 : Int32) then jx_a x1 8 (some ((S.1 3 (Int32.toNatClampNeg x1)), S)) else if x2 = (2 : Int32) then jx_a x1 8 (some ((S.1 4 (Int32.toNatClampNeg x1)), S)) else if x2 = (3 : Int32) then jx_a x1 10 (some ((S.1 7 (Int32.toNatClampNeg x1)), S)) else jx_a x1 10 (some ((S.1 8 (Int32.toNatClampNeg x1)), S)))
set_option maxHeartbeats 4000000 in
set_option maxRecDepth 100000 in
theorem c_X12_held (l : Launch) (D : va_G) (q : Nat → Nat) (k : CI) (x1 : Int32) (x2 : Int32) (S : St) (sz : Nat) (Z : Int32 × St) (hZ : f_X12_held x1 x2 S = some Z) : MetI W_M SM l yX12_held wsX12_held { frames := 0, cells := 0, slots := 0, locals := 0 } [.ref (q 0), .int x1, .int x2] D q k S sz Z := by
  refine enter (cc := cX12_held) (maxL := 3) (ret := some .int) (by decide) rfl (Nat.le_of_ble_eq_true rfl) ?_
  intro p e s m below meth c A ls hx hb hr hts hown hlocks hml hP hK hD hA hS hsp hAe hl
  have hown : s.vm.findClass RX12 = some m.cls := hown
  have hl : lv_has ls 3 [(0, .ref (q 0)), (1, .int x1), (2, .int x2)] := hl
  have in12 : ∀ w ∈ wsX120, w ∈ wsX12_held := fun _ h => (List.mem_cons_of_mem _ (List.mem_append_right _ h))
  unfold f_X12_held at hZ
  refine lv_iload_n hx hb dX12_held_0 rfl (lv_at hl 2 rfl) ?_
  by_cases c_1 : x2 = (0 : Int32)
  · have hZ := jx_i_pos c_1 hZ
    refine lv_tableIn (tgt := 32) hx hb dX12_held_1 (by rw [c_1]; decide) (by rw [c_1]; decide) (by rw [c_1]; rfl) (by decide) ?_
    refine lv_aload_n hx hb dX12_held_32 rfl (lv_at hl 0 rfl) ?_
    refine gf_12_worth hx hb hts in12 hown hK hP (hts (.fieldLink RX12 13 "CoinsOfLastModel" "worth" "[I") (List.mem_of_getElem? (i := 1) rfl)) dX12_held_33 ?_
    refine lv_iload_n hx hb dX12_held_36 rfl (lv_at hl 1 rfl) ?_
    obtain ⟨c_2, hZ⟩ := jx_a_some hZ
    refine M_iald hx hb hK hP wM_2 c_2 dX12_held_37 ?_
    exact leave_i hx hb hr hlocks hP hS hZ dX12_held_38
  have hZ := jx_i_neg c_1 hZ
  by_cases c_3 : x2 = (1 : Int32)
  · have hZ := jx_i_pos c_3 hZ
    refine lv_tableIn (tgt := 39) hx hb dX12_held_1 (by rw [c_3]; decide) (by rw [c_3]; decide) (by rw [c_3]; rfl) (by decide) ?_
    refine lv_aload_n hx hb dX12_held_39 rfl (lv_at hl 0 rfl) ?_
    refine gf_12_sizeOf hx hb hts in12 hown hK hP (hts (.fieldLink RX12 16 "CoinsOfLastModel" "sizeOf" "[I") (List.mem_of_getElem? (i := 2) rfl)) dX12_held_40 ?_
    refine lv_iload_n hx hb dX12_held_43 rfl (lv_at hl 1 rfl) ?_
    obtain ⟨c_4, hZ⟩ := jx_a_some hZ
    refine M_iald hx hb hK hP wM_3 c_4 dX12_held_44 ?_
    exact leave_i hx hb hr hlocks hP hS hZ dX12_held_45
  have hZ := jx_i_neg c_3 hZ
  by_cases c_5 : x2 = (2 : Int32)
  · have hZ := jx_i_pos c_5 hZ
    refine lv_tableIn (tgt := 46) hx hb dX12_held_1 (by rw [c_5]; decide) (by rw [c_5]; decide) (by rw [c_5]; rfl) (by decide) ?_
    refine lv_aload_n hx hb dX12_held_46 rfl (lv_at hl 0 rfl) ?_
    refine gf_12_weight hx hb hts in12 hown hK hP (hts (.fieldLink RX12 19 "CoinsOfLastModel" "weight" "[I") (List.mem_of_getElem? (i := 3) rfl)) dX12_held_47 ?_
    refine lv_iload_n hx hb dX12_held_50 rfl (lv_at hl 1 rfl) ?_
    obtain ⟨c_6, hZ⟩ := jx_a_some hZ
    refine M_iald hx hb hK hP wM_4 c_6 dX12_held_51 ?_
    exact leave_i hx hb hr hlocks hP hS hZ dX12_held_52
  have hZ := jx_i_neg c_5 hZ
  by_cases c_7 : x2 = (3 : Int32)
  · have hZ := jx_i_pos c_7 hZ
    refine lv_tableIn (tgt := 53) hx hb dX12_held_1 (by rw [c_7]; decide) (by rw [c_7]; decide) (by rw [c_7]; rfl) (by decide) ?_
    refine lv_aload_n hx hb dX12_held_53 rfl (lv_at hl 0 rfl) ?_
    refine gf_12_price hx hb hts in12 hown hK hP (hts (.fieldLink RX12 28 "CoinsOfLastModel" "price" "[I") (List.mem_of_getElem? (i := 4) rfl)) dX12_held_54 ?_
    refine lv_iload_n hx hb dX12_held_57 rfl (lv_at hl 1 rfl) ?_
    obtain ⟨c_8, hZ⟩ := jx_a_some hZ
    refine M_iald hx hb hK hP wM_7 c_8 dX12_held_58 ?_
    exact leave_i hx hb hr hlocks hP hS hZ dX12_held_59
  have hZ := jx_i_neg c_7 hZ
  refine lv_tableD (tgt := 60) hx hb dX12_held_1 ?_ (by decide) ?_
  · have t_0 : ¬ Int32.toInt x2 = 0 := lv_neT c_1 rfl
    have t_1 : ¬ Int32.toInt x2 = 1 := lv_neT c_3 rfl
    have t_2 : ¬ Int32.toInt x2 = 2 := lv_neT c_5 rfl
    have t_3 : ¬ Int32.toInt x2 = 3 := lv_neT c_7 rfl
    by_cases a1 : Int32.toInt x2 < 0
    · exact Or.inl (Or.inl a1)
    by_cases a2 : 3 < Int32.toInt x2
    · exact Or.inl (Or.inr a2)
    exfalso; omega
  · refine lv_aload_n hx hb dX12_held_60 rfl (lv_at hl 0 rfl) ?_
    refine gf_12_value hx hb hts in12 hown hK hP (hts (.fieldLink RX12 31 "CoinsOfLastModel" "value" "[I") (List.mem_of_getElem? (i := 5) rfl)) dX12_held_61 ?_
    refine lv_iload_n hx hb dX12_held_64 rfl (lv_at hl 1 rfl) ?_
    obtain ⟨c_9, hZ⟩ := jx_a_some hZ
    refine M_iald hx hb hK hP wM_8 c_9 dX12_held_65 ?_
    exact leave_i hx hb hr hlocks hP hS hZ dX12_held_66
-- X12_becomes
def f_X12_becomes (x1 : Int32) (x2 : Int32) (x3 : Int32) (S : St) : Option (St) :=
  (if x2 = (0 : Int32) then jx_a x1 8 (jx_l (u1 S 2 (Int32.toNatClampNeg x1) x3) (fun S_3 => some S_3)) else if x2 = (1 : Int32) then jx_a x1 8 (jx_l (u1 S 3 (Int32.toNatClampNeg x1) x3) (fun S_6 => some S_6)) else if x2 = (2 : Int32) then jx_a x1 8 (jx_l (u1 S 4 (Int32.toNatClampNeg x1) x3) (fun S_9 => some S_9)) else if x2 = (3 : Int32) then jx_a x1 10 (jx_l (u1 S 7 (Int32.toNatClampNeg x1) x3) (fun S_12 => some S_12)) else jx_a x1 10 (jx_l (u1 S 8 (Int32.toNatClampNeg x1) x3) (fun S_14 => some S_14)))
set_option maxHeartbeats 4000000 in
set_option maxRecDepth 100000 in
theorem c_X12_becomes (l : Launch) (D : va_G) (q : Nat → Nat) (k : CI) (x1 : Int32) (x2 : Int32) (x3 : Int32) (S : St) (sz : Nat) (Z : St) (hZ : f_X12_becomes x1 x2 x3 S = some Z) : MetV W_M SM l yX12_becomes wsX12_becomes { frames := 0, cells := 0, slots := 0, locals := 0 } [.ref (q 0), .int x1, .int x2, .int x3] D q k S sz Z := by
  refine enter (cc := cX12_becomes) (maxL := 4) (ret := none) (by decide) rfl (Nat.le_of_ble_eq_true rfl) ?_
  intro p e s m below meth c A ls hx hb hr hts hown hlocks hml hP hK hD hA hS hsp hAe hl
  have hown : s.vm.findClass RX12 = some m.cls := hown
  have hl : lv_has ls 4 [(0, .ref (q 0)), (1, .int x1), (2, .int x2), (3, .int x3)] := hl
  have in12 : ∀ w ∈ wsX120, w ∈ wsX12_becomes := fun _ h => (List.mem_cons_of_mem _ (List.mem_append_right _ h))
  unfold f_X12_becomes at hZ
  refine lv_iload_n hx hb dX12_becomes_0 rfl (lv_at hl 2 rfl) ?_
  by_cases c_1 : x2 = (0 : Int32)
  · have hZ := jx_i_pos c_1 hZ
    refine lv_tableIn (tgt := 32) hx hb dX12_becomes_1 (by rw [c_1]; decide) (by rw [c_1]; decide) (by rw [c_1]; rfl) (by decide) ?_
    refine lv_aload_n hx hb dX12_becomes_32 rfl (lv_at hl 0 rfl) ?_
    refine gf_12_worth hx hb hts in12 hown hK hP (hts (.fieldLink RX12 13 "CoinsOfLastModel" "worth" "[I") (List.mem_of_getElem? (i := 1) rfl)) dX12_becomes_33 ?_
    refine lv_iload_n hx hb dX12_becomes_36 rfl (lv_at hl 1 rfl) ?_
    refine lv_iload_n hx hb dX12_becomes_37 rfl (lv_at hl 3 rfl) ?_
    obtain ⟨c_2, hZ⟩ := jx_a_some hZ
    obtain ⟨S_3, e_S_3, hZ⟩ := jx_l_some hZ
    refine M_iast hx hb hK hP hD hS wM_2 (fun _ => wMs_2) c_2 e_S_3 dX12_becomes_38 (fun H locs hP hD hS => ?_)
    refine lv_goto (tgt := 79) hx hb dX12_becomes_39 (by decide) ?_
    exact leave_v hx hb hr hlocks hP hS hZ dX12_becomes_79
  have hZ := jx_i_neg c_1 hZ
  by_cases c_4 : x2 = (1 : Int32)
  · have hZ := jx_i_pos c_4 hZ
    refine lv_tableIn (tgt := 42) hx hb dX12_becomes_1 (by rw [c_4]; decide) (by rw [c_4]; decide) (by rw [c_4]; rfl) (by decide) ?_
    refine lv_aload_n hx hb dX12_becomes_42 rfl (lv_at hl 0 rfl) ?_
    refine gf_12_sizeOf hx hb hts in12 hown hK hP (hts (.fieldLink RX12 16 "CoinsOfLastModel" "sizeOf" "[I") (List.mem_of_getElem? (i := 2) rfl)) dX12_becomes_43 ?_
    refine lv_iload_n hx hb dX12_becomes_46 rfl (lv_at hl 1 rfl) ?_
    refine lv_iload_n hx hb dX12_becomes_47 rfl (lv_at hl 3 rfl) ?_
    obtain ⟨c_5, hZ⟩ := jx_a_some hZ
    obtain ⟨S_6, e_S_6, hZ⟩ := jx_l_some hZ
    refine M_iast hx hb hK hP hD hS wM_3 (fun _ => wMs_3) c_5 e_S_6 dX12_becomes_48 (fun H locs hP hD hS => ?_)
    refine lv_goto (tgt := 79) hx hb dX12_becomes_49 (by decide) ?_
    exact leave_v hx hb hr hlocks hP hS hZ dX12_becomes_79
  have hZ := jx_i_neg c_4 hZ
  by_cases c_7 : x2 = (2 : Int32)
  · have hZ := jx_i_pos c_7 hZ
    refine lv_tableIn (tgt := 52) hx hb dX12_becomes_1 (by rw [c_7]; decide) (by rw [c_7]; decide) (by rw [c_7]; rfl) (by decide) ?_
    refine lv_aload_n hx hb dX12_becomes_52 rfl (lv_at hl 0 rfl) ?_
    refine gf_12_weight hx hb hts in12 hown hK hP (hts (.fieldLink RX12 19 "CoinsOfLastModel" "weight" "[I") (List.mem_of_getElem? (i := 3) rfl)) dX12_becomes_53 ?_
    refine lv_iload_n hx hb dX12_becomes_56 rfl (lv_at hl 1 rfl) ?_
    refine lv_iload_n hx hb dX12_becomes_57 rfl (lv_at hl 3 rfl) ?_
    obtain ⟨c_8, hZ⟩ := jx_a_some hZ
    obtain ⟨S_9, e_S_9, hZ⟩ := jx_l_some hZ
    refine M_iast hx hb hK hP hD hS wM_4 (fun _ => wMs_4) c_8 e_S_9 dX12_becomes_58 (fun H locs hP hD hS => ?_)
    refine lv_goto (tgt := 79) hx hb dX12_becomes_59 (by decide) ?_
    exact leave_v hx hb hr hlocks hP hS hZ dX12_becomes_79
  have hZ := jx_i_neg c_7 hZ
  by_cases c_10 : x2 = (3 : Int32)
  · have hZ := jx_i_pos c_10 hZ
    refine lv_tableIn (tgt := 62) hx hb dX12_becomes_1 (by rw [c_10]; decide) (by rw [c_10]; decide) (by rw [c_10]; rfl) (by decide) ?_
    refine lv_aload_n hx hb dX12_becomes_62 rfl (lv_at hl 0 rfl) ?_
    refine gf_12_price hx hb hts in12 hown hK hP (hts (.fieldLink RX12 28 "CoinsOfLastModel" "price" "[I") (List.mem_of_getElem? (i := 4) rfl)) dX12_becomes_63 ?_
    refine lv_iload_n hx hb dX12_becomes_66 rfl (lv_at hl 1 rfl) ?_
    refine lv_iload_n hx hb dX12_becomes_67 rfl (lv_at hl 3 rfl) ?_
    obtain ⟨c_11, hZ⟩ := jx_a_some hZ
    obtain ⟨S_12, e_S_12, hZ⟩ := jx_l_some hZ
    refine M_iast hx hb hK hP hD hS wM_7 (fun _ => wMs_7) c_11 e_S_12 dX12_becomes_68 (fun H locs hP hD hS => ?_)
    refine lv_goto (tgt := 79) hx hb dX12_becomes_69 (by decide) ?_
    exact leave_v hx hb hr hlocks hP hS hZ dX12_becomes_79
  have hZ := jx_i_neg c_10 hZ
  refine lv_tableD (tgt := 72) hx hb dX12_becomes_1 ?_ (by decide) ?_
  · have t_0 : ¬ Int32.toInt x2 = 0 := lv_neT c_1 rfl
    have t_1 : ¬ Int32.toInt x2 = 1 := lv_neT c_4 rfl
    have t_2 : ¬ Int32.toInt x2 = 2 := lv_neT c_7 rfl
    have t_3 : ¬ Int32.toInt x2 = 3 := lv_neT c_10 rfl
    by_cases a1 : Int32.toInt x2 < 0
    · exact Or.inl (Or.inl a1)
    by_cases a2 : 3 < Int32.toInt x2
    · exact Or.inl (Or.inr a2)
    exfalso; omega
  · refine lv_aload_n hx hb dX12_becomes_72 rfl (lv_at hl 0 rfl) ?_
    refine gf_12_value hx hb hts in12 hown hK hP (hts (.fieldLink RX12 31 "CoinsOfLastModel" "value" "[I") (List.mem_of_getElem? (i := 5) rfl)) dX12_becomes_73 ?_
    refine lv_iload_n hx hb dX12_becomes_76 rfl (lv_at hl 1 rfl) ?_
    refine lv_iload_n hx hb dX12_becomes_77 rfl (lv_at hl 3 rfl) ?_
    obtain ⟨c_13, hZ⟩ := jx_a_some hZ
    obtain ⟨S_14, e_S_14, hZ⟩ := jx_l_some hZ
    refine M_iast hx hb hK hP hD hS wM_8 (fun _ => wMs_8) c_13 e_S_14 dX12_becomes_78 (fun H locs hP hD hS => ?_)
    exact leave_v hx hb hr hlocks hP hS hZ dX12_becomes_79
theorem hd_X12_becomes : yX12_becomes.cls = RX12 ∧ yX12_becomes.cls ≠ "java/lang/invoke/MethodHandle" ∧ yX12_becomes.cls ≠ "java/lang/invoke/VarHandle" ∧ (parseMethodDescriptor yX12_becomes.desc).map (fun d => d.parameters.length) = some 3 := by decide +kernel
theorem hd_X12_held : yX12_held.cls = RX12 ∧ yX12_held.cls ≠ "java/lang/invoke/MethodHandle" ∧ yX12_held.cls ≠ "java/lang/invoke/VarHandle" ∧ (parseMethodDescriptor yX12_held.desc).map (fun d => d.parameters.length) = some 2 := by decide +kernel
theorem hd_X12_isThing : yX12_isThing.cls = RX12 ∧ yX12_isThing.cls ≠ "java/lang/invoke/MethodHandle" ∧ yX12_isThing.cls ≠ "java/lang/invoke/VarHandle" ∧ (parseMethodDescriptor yX12_isThing.desc).map (fun d => d.parameters.length) = some 1 := by decide +kernel
-- X12_mend
def f_X12_mend_152 (x1_26 : Int32) (x2_26 : Int32) (x3_26 : Int32) (S_26 : St) : Option (Int32 × St) :=
  jx_b2 (f_X12_held x1_26 x2_26 S_26) (fun r_29 S_27 => jx_a ((4 : Int32) * (S_27.1 0 20)) 160 (jx_l (u1 S_27 12 (Int32.toNatClampNeg ((4 : Int32) * (S_27.1 0 20))) x1_26) (fun S_31 => jx_a (((4 : Int32) * (S_31.1 0 20)) + (1 : Int32)) 160 (jx_l (u1 S_31 12 (Int32.toNatClampNeg (((4 : Int32) * (S_31.1 0 20)) + (1 : Int32))) x2_26) (fun S_33 => jx_a (((4 : Int32) * (S_33.1 0 20)) + (2 : Int32)) 160 (jx_l (u1 S_33 12 (Int32.toNatClampNeg (((4 : Int32) * (S_33.1 0 20)) + (2 : Int32))) r_29) (fun S_35 => jx_a (((4 : Int32) * (S_35.1 0 20)) + (3 : Int32)) 160 (jx_l (u1 S_35 12 (Int32.toNatClampNeg (((4 : Int32) * (S_35.1 0 20)) + (3 : Int32))) x3_26) (fun S_37 => jx_l (u1 S_37 0 20 ((S_37.1 0 20) + (1 : Int32))) (fun S_38 => jx_l (u1 S_38 0 21 (0 : Int32)) (fun S_39 => jx_b (f_X12_becomes x1_26 x2_26 x3_26 S_39) (fun S_40 => some (r_29, S_40)))))))))))))
def f_X12_mend_142 (x1_46 : Int32) (x2_46 : Int32) (x3_46 : Int32) (S_46 : St) : Option (Int32 × St) :=
  jx_l (u1 S_46 0 20 ((S_46.1 0 20) - (1 : Int32))) (fun S_47 => f_X12_mend_152 x1_46 x2_46 x3_46 S_47)
def b_X12_mend_112 (x1 : Int32) (x2 : Int32) (x3 : Int32) (x6 : Int32) (S : St) : Option ((Int32 × St) ⊕ (St)) :=
  (if (160 : Int32) ≤ x6 then some (.inr S) else jx_a x6 160 (jx_a (x6 - (4 : Int32)) 160 (jx_l (u1 S 12 (Int32.toNatClampNeg (x6 - (4 : Int32))) (S.1 12 (Int32.toNatClampNeg x6))) (fun S_54 => jx_l (x6 + 1) (fun x6_55 => some (.inl (x6_55, S_54)))))))
def g_X12_mend_112 (x1 : Int32) (x2 : Int32) (x3 : Int32) : (Int32 × St) → Option ((Int32 × St) ⊕ (St)) := fun z => b_X12_mend_112 x1 x2 x3 z.1 z.2
def f_X12_mend_73 (x1_16 : Int32) (x2_16 : Int32) (x3_16 : Int32) (x4_16 : Int32) (s0_16 : Int32) (S_16 : St) : Option (Int32 × St) :=
  jx_b2 (f_X12_in x3_16 x4_16 s0_16 S_16) (fun r_19 S_17 => (if r_19 = 0 then some ((-1 : Int32), S_17) else jx_b2 (f_X12_held x1_16 x2_16 S_17) (fun r_23 S_21 => (if r_23 = x3_16 then some (x3_16, S_21) else (if (S_21.1 0 20) = (40 : Int32) then jx_b (jx_w (g_X12_mend_112 x1_16 x2_16 x3_16) FU ((4 : Int32), S_21)) (fun z => f_X12_mend_142 x1_16 x2_16 x3_16 z) else f_X12_mend_152 x1_16 x2_16 x3_16 S_21)))))
def f_X12_mend_49 (x1_13 : Int32) (x2_13 : Int32) (x3_13 : Int32) (s0_13 : Int32) (S_13 : St) : Option (Int32 × St) :=
  (if x2_13 = 0 then f_X12_mend_73 x1_13 x2_13 x3_13 s0_13 (40 : Int32) S_13 else (if x2_13 = (3 : Int32) then f_X12_mend_73 x1_13 x2_13 x3_13 s0_13 (200 : Int32) S_13 else f_X12_mend_73 x1_13 x2_13 x3_13 s0_13 (99 : Int32) S_13))
def f_X12_mend_44 (x1_12 : Int32) (x2_12 : Int32) (x3_12 : Int32) (S_12 : St) : Option (Int32 × St) :=
  f_X12_mend_49 x1_12 x2_12 x3_12 (1 : Int32) S_12
def f_X12_mend_35 (x1_10 : Int32) (x2_10 : Int32) (x3_10 : Int32) (S_10 : St) : Option (Int32 × St) :=
  (if x2_10 = 0 then f_X12_mend_44 x1_10 x2_10 x3_10 S_10 else (if x2_10 = (3 : Int32) then f_X12_mend_44 x1_10 x2_10 x3_10 S_10 else f_X12_mend_49 x1_10 x2_10 x3_10 (0 : Int32) S_10))
def f_X12_mend (x1 : Int32) (x2 : Int32) (x3 : Int32) (S : St) : Option (Int32 × St) :=
  jx_b2 (f_X12_in x2 (0 : Int32) (4 : Int32) S) (fun r_3 S_1 => (if r_3 = 0 then some ((-1 : Int32), S_1) else (if (3 : Int32) ≤ x2 then jx_b2 (f_X12_isThing x1 S_1) (fun r_8 S_6 => (if r_8 = 0 then some ((-1 : Int32), S_6) else f_X12_mend_35 x1 x2 x3 S_6)) else jx_b2 (f_X12_isSort x1 S_1) (fun r_73 S_71 => (if r_73 = 0 then some ((-1 : Int32), S_71) else f_X12_mend_35 x1 x2 x3 S_71)))))
set_option maxHeartbeats 4000000 in
set_option maxRecDepth 100000 in
theorem c_X12_mend (l : Launch) (D : va_G) (q : Nat → Nat) (k : CI) (x1 : Int32) (x2 : Int32) (x3 : Int32) (S : St) (sz : Nat) (Z : Int32 × St) (hZ : f_X12_mend x1 x2 x3 S = some Z) : MetI W_M SM l yX12_mend wsX12_mend { frames := 2, cells := 0, slots := 0, locals := 43 } [.ref (q 0), .int x1, .int x2, .int x3] D q k S sz Z := by
  refine enter (cc := cX12_mend) (maxL := 7) (ret := some .int) (by decide) rfl (Nat.le_of_ble_eq_true rfl) ?_
  intro p e s m below meth c A ls hx hb hr hts hown hlocks hml hP hK hD hA hS hsp hAe hl
  have hown : s.vm.findClass RX12 = some m.cls := hown
  have hl : lv_has ls 7 [(0, .ref (q 0)), (1, .int x1), (2, .int x2), (3, .int x3)] := hl
  have in12 : ∀ w ∈ wsX120, w ∈ wsX12_mend := fun _ h => (List.mem_cons_of_mem _ (List.mem_append_right _ h))
  have j152 : ∀ (x1_26 : Int32) (x2_26 : Int32) (x3_26 : Int32) (S_26 : St)  (H : Heap) (locs : List Loc) (hZ : f_X12_mend_152 x1_26 x2_26 x3_26 S_26 = some Z) (hP : va_P D vwCl (W_M q k S_26) H) (hD : va_D A (W_M q k S_26)) (hS : va_S A s.heap H locs) (ls : Array Slot) (hl : lv_has ls 7 [(0, .ref (q 0)), (1, .int x1_26), (2, .int x2_26), (3, .int x3_26)]), W p l e ({ frames := 2, cells := 0, slots := 0, locals := 43 } : Room) s m ([.ref (q 0), .int x1, .int x2, .int x3] : List Value).toArray below meth c H locs 0 0 (MQ below (va_Qi (fun r u => (r, u) = Z) (fun u t => va_P D vwCl (W_M q k u) t.heap) A) ([.ref (q 0), .int x1, .int x2, .int x3] : List Value).toArray s 0 0 A) (F0 m 152 ls []) := by
    intro x1_26 x2_26 x3_26 S_26   H locs hZ hP hD hS ls hl
    unfold f_X12_mend_152 at hZ
    refine lv_aload_n hx hb dX12_mend_152 rfl (lv_at hl 0 rfl) ?_
    refine lv_iload_n hx hb dX12_mend_153 rfl (lv_at hl 1 rfl) ?_
    refine lv_iload_n hx hb dX12_mend_154 rfl (lv_at hl 2 rfl) ?_
    obtain ⟨r_29, S_27, hc_28, hZ⟩ := jx_b2_some hZ
    refine call_Vi SM_ok sameM ⟨hx, hb, hml, hown, hts⟩ (c_X12_held l D q k x1_26 x2_26 S_26 _ (r_29, S_27)  hc_28) (cwV 2 hts gX12_mend_X12_held rfl rfl rfl hd_X12_held ⟨Nat.le_of_ble_eq_true rfl, Nat.le_of_ble_eq_true rfl⟩) hK hP hD hS hA hsp (va_recv hK hP (ci := 12) (q0 := 0) rfl wM_0) (As := [.int x1_26, .int x2_26]) rfl hl.1 rfl (Nat.le_of_ble_eq_true rfl) dX12_mend_155 ⟨Nat.zero_le _, Nat.zero_le _⟩ (fun H locs hP hD hS => ?_)
    refine lv_istore (lv' := [(6, .int r_29), (0, .ref (q 0)), (1, .int x1_26), (2, .int x2_26), (3, .int x3_26)]) hx hb dX12_mend_158 hl (by decide) rfl (fun ls hl => ?_)
    refine lv_aload_n hx hb dX12_mend_160 rfl (lv_at hl 1 rfl) ?_
    refine gf_12_changeOf hx hb hts in12 hown hK hP (hts (.fieldLink RX12 43 "CoinsOfLastModel" "changeOf" "[I") (List.mem_of_getElem? (i := 2) rfl)) dX12_mend_161 ?_
    refine lv_iconst (v := (4 : Int32)) hx hb dX12_mend_164 (by decide) ?_
    refine lv_aload_n hx hb dX12_mend_165 rfl (lv_at hl 1 rfl) ?_
    refine gf_12_changed hx hb hts in12 hown hK hP (hts (.fieldLink RX12 158 "CoinsOfLastModel" "changed" "I") (List.mem_of_getElem? (i := 1) rfl)) dX12_mend_166 ?_
    refine lv_imul hx hb dX12_mend_169 ?_
    refine lv_iload_n hx hb dX12_mend_170 rfl (lv_at hl 2 rfl) ?_
    obtain ⟨c_30, hZ⟩ := jx_a_some hZ
    obtain ⟨S_31, e_S_31, hZ⟩ := jx_l_some hZ
    refine M_iast hx hb hK hP hD hS wM_12 (fun _ => wMs_12) c_30 e_S_31 dX12_mend_171 (fun H locs hP hD hS => ?_)
    refine lv_aload_n hx hb dX12_mend_172 rfl (lv_at hl 1 rfl) ?_
    refine gf_12_changeOf hx hb hts in12 hown hK hP (hts (.fieldLink RX12 43 "CoinsOfLastModel" "changeOf" "[I") (List.mem_of_getElem? (i := 2) rfl)) dX12_mend_173 ?_
    refine lv_iconst (v := (4 : Int32)) hx hb dX12_mend_176 (by decide) ?_
    refine lv_aload_n hx hb dX12_mend_177 rfl (lv_at hl 1 rfl) ?_
    refine gf_12_changed hx hb hts in12 hown hK hP (hts (.fieldLink RX12 158 "CoinsOfLastModel" "changed" "I") (List.mem_of_getElem? (i := 1) rfl)) dX12_mend_178 ?_
    refine lv_imul hx hb dX12_mend_181 ?_
    refine lv_iconst (v := (1 : Int32)) hx hb dX12_mend_182 (by decide) ?_
    refine lv_iadd hx hb dX12_mend_183 ?_
    refine lv_iload_n hx hb dX12_mend_184 rfl (lv_at hl 3 rfl) ?_
    obtain ⟨c_32, hZ⟩ := jx_a_some hZ
    obtain ⟨S_33, e_S_33, hZ⟩ := jx_l_some hZ
    refine M_iast hx hb hK hP hD hS wM_12 (fun _ => wMs_12) c_32 e_S_33 dX12_mend_185 (fun H locs hP hD hS => ?_)
    refine lv_aload_n hx hb dX12_mend_186 rfl (lv_at hl 1 rfl) ?_
    refine gf_12_changeOf hx hb hts in12 hown hK hP (hts (.fieldLink RX12 43 "CoinsOfLastModel" "changeOf" "[I") (List.mem_of_getElem? (i := 2) rfl)) dX12_mend_187 ?_
    refine lv_iconst (v := (4 : Int32)) hx hb dX12_mend_190 (by decide) ?_
    refine lv_aload_n hx hb dX12_mend_191 rfl (lv_at hl 1 rfl) ?_
    refine gf_12_changed hx hb hts in12 hown hK hP (hts (.fieldLink RX12 158 "CoinsOfLastModel" "changed" "I") (List.mem_of_getElem? (i := 1) rfl)) dX12_mend_192 ?_
    refine lv_imul hx hb dX12_mend_195 ?_
    refine lv_iconst (v := (2 : Int32)) hx hb dX12_mend_196 (by decide) ?_
    refine lv_iadd hx hb dX12_mend_197 ?_
    refine lv_iload hx hb dX12_mend_198 (lv_at hl 0 rfl) ?_
    obtain ⟨c_34, hZ⟩ := jx_a_some hZ
    obtain ⟨S_35, e_S_35, hZ⟩ := jx_l_some hZ
    refine M_iast hx hb hK hP hD hS wM_12 (fun _ => wMs_12) c_34 e_S_35 dX12_mend_200 (fun H locs hP hD hS => ?_)
    refine lv_aload_n hx hb dX12_mend_201 rfl (lv_at hl 1 rfl) ?_
    refine gf_12_changeOf hx hb hts in12 hown hK hP (hts (.fieldLink RX12 43 "CoinsOfLastModel" "changeOf" "[I") (List.mem_of_getElem? (i := 2) rfl)) dX12_mend_202 ?_
    refine lv_iconst (v := (4 : Int32)) hx hb dX12_mend_205 (by decide) ?_
    refine lv_aload_n hx hb dX12_mend_206 rfl (lv_at hl 1 rfl) ?_
    refine gf_12_changed hx hb hts in12 hown hK hP (hts (.fieldLink RX12 158 "CoinsOfLastModel" "changed" "I") (List.mem_of_getElem? (i := 1) rfl)) dX12_mend_207 ?_
    refine lv_imul hx hb dX12_mend_210 ?_
    refine lv_iconst (v := (3 : Int32)) hx hb dX12_mend_211 (by decide) ?_
    refine lv_iadd hx hb dX12_mend_212 ?_
    refine lv_iload_n hx hb dX12_mend_213 rfl (lv_at hl 4 rfl) ?_
    obtain ⟨c_36, hZ⟩ := jx_a_some hZ
    obtain ⟨S_37, e_S_37, hZ⟩ := jx_l_some hZ
    refine M_iast hx hb hK hP hD hS wM_12 (fun _ => wMs_12) c_36 e_S_37 dX12_mend_214 (fun H locs hP hD hS => ?_)
    refine lv_aload_n hx hb dX12_mend_215 rfl (lv_at hl 1 rfl) ?_
    refine lv_dup hx hb dX12_mend_216 rfl ?_
    refine gf_12_changed hx hb hts in12 hown hK hP (hts (.fieldLink RX12 158 "CoinsOfLastModel" "changed" "I") (List.mem_of_getElem? (i := 1) rfl)) dX12_mend_217 ?_
    refine lv_iconst (v := (1 : Int32)) hx hb dX12_mend_220 (by decide) ?_
    refine lv_iadd hx hb dX12_mend_221 ?_
    obtain ⟨S_38, e_S_38, hZ⟩ := jx_l_some hZ
    refine pf_12_changed hx hb hts in12 hown hK hP hD hS (hts (.fieldLink RX12 158 "CoinsOfLastModel" "changed" "I") (List.mem_of_getElem? (i := 1) rfl)) e_S_38 dX12_mend_222 (fun H locs hP hD hS => ?_)
    refine lv_aload_n hx hb dX12_mend_225 rfl (lv_at hl 1 rfl) ?_
    refine lv_iconst (v := (0 : Int32)) hx hb dX12_mend_226 (by decide) ?_
    obtain ⟨S_39, e_S_39, hZ⟩ := jx_l_some hZ
    refine pf_12_undone hx hb hts in12 hown hK hP hD hS (hts (.fieldLink RX12 161 "CoinsOfLastModel" "undone" "I") (List.mem_of_getElem? (i := 3) rfl)) e_S_39 dX12_mend_227 (fun H locs hP hD hS => ?_)
    refine lv_aload_n hx hb dX12_mend_230 rfl (lv_at hl 1 rfl) ?_
    refine lv_iload_n hx hb dX12_mend_231 rfl (lv_at hl 2 rfl) ?_
    refine lv_iload_n hx hb dX12_mend_232 rfl (lv_at hl 3 rfl) ?_
    refine lv_iload_n hx hb dX12_mend_233 rfl (lv_at hl 4 rfl) ?_
    obtain ⟨S_40, hc_41, hZ⟩ := jx_b_some hZ
    refine call_Vv SM_ok sameM ⟨hx, hb, hml, hown, hts⟩ (c_X12_becomes l D q k x1_26 x2_26 x3_26 S_39 _ S_40  hc_41) (cwV 3 hts gX12_mend_X12_becomes rfl rfl rfl hd_X12_becomes ⟨Nat.le_of_ble_eq_true rfl, Nat.le_of_ble_eq_true rfl⟩) hK hP hD hS hA hsp (va_recv hK hP (ci := 12) (q0 := 0) rfl wM_0) (As := [.int x1_26, .int x2_26, .int x3_26]) rfl hl.1 rfl (Nat.le_of_ble_eq_true rfl) dX12_mend_234 ⟨Nat.zero_le _, Nat.zero_le _⟩ (fun H locs hP hD hS => ?_)
    refine lv_iload hx hb dX12_mend_237 (lv_at hl 0 rfl) ?_
    exact leave_i hx hb hr hlocks hP hS hZ dX12_mend_239
  have j142 : ∀ (x1_46 : Int32) (x2_46 : Int32) (x3_46 : Int32) (S_46 : St)  (H : Heap) (locs : List Loc) (hZ : f_X12_mend_142 x1_46 x2_46 x3_46 S_46 = some Z) (hP : va_P D vwCl (W_M q k S_46) H) (hD : va_D A (W_M q k S_46)) (hS : va_S A s.heap H locs) (ls : Array Slot) (hl : lv_has ls 7 [(0, .ref (q 0)), (1, .int x1_46), (2, .int x2_46), (3, .int x3_46)]), W p l e ({ frames := 2, cells := 0, slots := 0, locals := 43 } : Room) s m ([.ref (q 0), .int x1, .int x2, .int x3] : List Value).toArray below meth c H locs 0 0 (MQ below (va_Qi (fun r u => (r, u) = Z) (fun u t => va_P D vwCl (W_M q k u) t.heap) A) ([.ref (q 0), .int x1, .int x2, .int x3] : List Value).toArray s 0 0 A) (F0 m 142 ls []) := by
    intro x1_46 x2_46 x3_46 S_46   H locs hZ hP hD hS ls hl
    unfold f_X12_mend_142 at hZ
    refine lv_aload_n hx hb dX12_mend_142 rfl (lv_at hl 0 rfl) ?_
    refine lv_dup hx hb dX12_mend_143 rfl ?_
    refine gf_12_changed hx hb hts in12 hown hK hP (hts (.fieldLink RX12 158 "CoinsOfLastModel" "changed" "I") (List.mem_of_getElem? (i := 1) rfl)) dX12_mend_144 ?_
    refine lv_iconst (v := (1 : Int32)) hx hb dX12_mend_147 (by decide) ?_
    refine lv_isub hx hb dX12_mend_148 ?_
    obtain ⟨S_47, e_S_47, hZ⟩ := jx_l_some hZ
    refine pf_12_changed hx hb hts in12 hown hK hP hD hS (hts (.fieldLink RX12 158 "CoinsOfLastModel" "changed" "I") (List.mem_of_getElem? (i := 1) rfl)) e_S_47 dX12_mend_149 (fun H locs hP hD hS => ?_)
    exact j152 x1_46 x2_46 x3_46 S_47 _ _ hZ hP hD hS _ (lv_sub hl [0, 1, 2, 3] rfl)
  have j73 : ∀ (x1_16 : Int32) (x2_16 : Int32) (x3_16 : Int32) (x4_16 : Int32) (s0_16 : Int32) (S_16 : St)  (H : Heap) (locs : List Loc) (hZ : f_X12_mend_73 x1_16 x2_16 x3_16 x4_16 s0_16 S_16 = some Z) (hP : va_P D vwCl (W_M q k S_16) H) (hD : va_D A (W_M q k S_16)) (hS : va_S A s.heap H locs) (ls : Array Slot) (hl : lv_has ls 7 [(0, .ref (q 0)), (1, .int x1_16), (2, .int x2_16), (3, .int x3_16), (4, .int x4_16)]), W p l e ({ frames := 2, cells := 0, slots := 0, locals := 43 } : Room) s m ([.ref (q 0), .int x1, .int x2, .int x3] : List Value).toArray below meth c H locs 0 0 (MQ below (va_Qi (fun r u => (r, u) = Z) (fun u t => va_P D vwCl (W_M q k u) t.heap) A) ([.ref (q 0), .int x1, .int x2, .int x3] : List Value).toArray s 0 0 A) (F0 m 73 ls [.int s0_16]) := by
    intro x1_16 x2_16 x3_16 x4_16 s0_16 S_16   H locs hZ hP hD hS ls hl
    unfold f_X12_mend_73 at hZ
    refine lv_istore (lv' := [(5, .int s0_16), (0, .ref (q 0)), (1, .int x1_16), (2, .int x2_16), (3, .int x3_16), (4, .int x4_16)]) hx hb dX12_mend_73 hl (by decide) rfl (fun ls hl => ?_)
    refine lv_iload_n hx hb dX12_mend_75 rfl (lv_at hl 4 rfl) ?_
    refine lv_iload hx hb dX12_mend_76 (lv_at hl 5 rfl) ?_
    refine lv_iload hx hb dX12_mend_78 (lv_at hl 0 rfl) ?_
    obtain ⟨r_19, S_17, hc_18, hZ⟩ := jx_b2_some hZ
    refine call_Si SM_ok sameM ⟨hx, hb, hml, hown, hts⟩ (c_X12_in l D q k x3_16 x4_16 s0_16 S_16 _ (r_19, S_17)  hc_18) (va_cwS 3 hts gX12_mend_X12_in rfl rfl rfl hd_X12_in ⟨Nat.le_of_ble_eq_true rfl, Nat.le_of_ble_eq_true rfl⟩) hK hP hD hS hA hsp (As := [.int x3_16, .int x4_16, .int s0_16]) rfl hl.1 rfl (Nat.le_of_ble_eq_true rfl) dX12_mend_80 ⟨Nat.zero_le _, Nat.zero_le _⟩ (fun H locs hP hD hS => ?_)
    refine lv_if_ne (tgt := 88) hx hb dX12_mend_83 (by decide) (fun c_20 => ?_) (fun c_20 => ?_)
    · have hZ := jx_i_neg c_20 hZ
      refine lv_aload_n hx hb dX12_mend_88 rfl (lv_at hl 1 rfl) ?_
      refine lv_iload_n hx hb dX12_mend_89 rfl (lv_at hl 2 rfl) ?_
      refine lv_iload_n hx hb dX12_mend_90 rfl (lv_at hl 3 rfl) ?_
      obtain ⟨r_23, S_21, hc_22, hZ⟩ := jx_b2_some hZ
      refine call_Vi SM_ok sameM ⟨hx, hb, hml, hown, hts⟩ (c_X12_held l D q k x1_16 x2_16 S_17 _ (r_23, S_21)  hc_22) (cwV 2 hts gX12_mend_X12_held rfl rfl rfl hd_X12_held ⟨Nat.le_of_ble_eq_true rfl, Nat.le_of_ble_eq_true rfl⟩) hK hP hD hS hA hsp (va_recv hK hP (ci := 12) (q0 := 0) rfl wM_0) (As := [.int x1_16, .int x2_16]) rfl hl.1 rfl (Nat.le_of_ble_eq_true rfl) dX12_mend_91 ⟨Nat.zero_le _, Nat.zero_le _⟩ (fun H locs hP hD hS => ?_)
      refine lv_iload_n hx hb dX12_mend_94 rfl (lv_at hl 4 rfl) ?_
      refine lv_icmp_ne (tgt := 100) hx hb dX12_mend_95 (by decide) (fun c_24 => ?_) (fun c_24 => ?_)
      · have hZ := jx_i_neg c_24 hZ
        refine lv_aload_n hx hb dX12_mend_100 rfl (lv_at hl 1 rfl) ?_
        refine gf_12_changed hx hb hts in12 hown hK hP (hts (.fieldLink RX12 158 "CoinsOfLastModel" "changed" "I") (List.mem_of_getElem? (i := 1) rfl)) dX12_mend_101 ?_
        refine lv_bipush (v := (40 : Int32)) hx hb dX12_mend_104 (by decide) ?_
        refine lv_icmp_ne (tgt := 152) hx hb dX12_mend_106 (by decide) (fun c_25 => ?_) (fun c_25 => ?_)
        · have hZ := jx_i_neg c_25 hZ
          exact j152 x1_16 x2_16 x3_16 S_21 _ _ hZ hP hD hS _ (lv_sub hl [1, 2, 3, 4] rfl)
        · have hZ := jx_i_pos c_25 hZ
          refine lv_iconst (v := (4 : Int32)) hx hb dX12_mend_109 (by decide) ?_
          refine lv_istore (lv' := [(6, .int (4 : Int32)), (5, .int s0_16), (0, .ref (q 0)), (1, .int x1_16), (2, .int x2_16), (3, .int x3_16), (4, .int x4_16)]) hx hb dX12_mend_110 hl (by decide) rfl (fun ls hl => ?_)
          obtain ⟨r_45, hw, hza_45⟩ := jx_b_some hZ
          have l_45 : ∀ (nn : Nat) (x6_43 : Int32) (S_44 : St) (H : Heap) (locs : List Loc) (hw : jx_w (g_X12_mend_112 x1_16 x2_16 x3_16) nn (x6_43, S_44) = some r_45) (hP : va_P D vwCl (W_M q k S_44) H) (hD : va_D A (W_M q k S_44)) (hS : va_S A s.heap H locs) (ls : Array Slot) (hl : lv_has ls 7 [(0, .ref (q 0)), (1, .int x1_16), (2, .int x2_16), (3, .int x3_16), (6, .int x6_43)]), W p l e ({ frames := 2, cells := 0, slots := 0, locals := 43 } : Room) s m ([.ref (q 0), .int x1, .int x2, .int x3] : List Value).toArray below meth c H locs 0 0 (MQ below (va_Qi (fun r u => (r, u) = Z) (fun u t => va_P D vwCl (W_M q k u) t.heap) A) ([.ref (q 0), .int x1, .int x2, .int x3] : List Value).toArray s 0 0 A) (F0 m 112 ls []) := by
            intro nn
            induction nn with
            | zero =>
              intro x6_43 S_44 H locs hw hP hD hS ls hl
              exact jx_w_zero hw
            | succ n_45 ih_45 =>
              intro x6_43 S_44 H locs hw hP hD hS ls hl
              obtain ⟨o_45, hZ, hk_45⟩ := jx_w_succ hw
              have hZ : b_X12_mend_112 x1_16 x2_16 x3_16 x6_43 S_44 = some o_45 := hZ
              unfold b_X12_mend_112 at hZ
              refine lv_iload hx hb dX12_mend_112 (lv_at hl 4 rfl) ?_
              refine lv_sipush (v := (160 : Int32)) hx hb dX12_mend_114 (by decide) ?_
              refine lv_icmp_ge (tgt := 142) hx hb dX12_mend_117 (by decide) (fun c_56 => ?_) (fun c_56 => ?_)
              · have hZ := jx_i_pos c_56 hZ
                have ho := Option.some.inj hZ
                subst ho
                have hE := hza_45
                rw [← (show S_44 = r_45 from hk_45)] at hE
                have hZ : f_X12_mend_142 x1_16 x2_16 x3_16 S_44 = some Z := hE
                exact j142 x1_16 x2_16 x3_16 S_44 _ _ hZ hP hD hS _ (lv_sub hl [0, 1, 2, 3] rfl)
              · have hZ := jx_i_neg c_56 hZ
                refine lv_aload_n hx hb dX12_mend_120 rfl (lv_at hl 0 rfl) ?_
                refine gf_12_changeOf hx hb hts in12 hown hK hP (hts (.fieldLink RX12 43 "CoinsOfLastModel" "changeOf" "[I") (List.mem_of_getElem? (i := 2) rfl)) dX12_mend_121 ?_
                refine lv_iload hx hb dX12_mend_124 (lv_at hl 4 rfl) ?_
                refine lv_iconst (v := (4 : Int32)) hx hb dX12_mend_126 (by decide) ?_
                refine lv_isub hx hb dX12_mend_127 ?_
                refine lv_aload_n hx hb dX12_mend_128 rfl (lv_at hl 0 rfl) ?_
                refine gf_12_changeOf hx hb hts in12 hown hK hP (hts (.fieldLink RX12 43 "CoinsOfLastModel" "changeOf" "[I") (List.mem_of_getElem? (i := 2) rfl)) dX12_mend_129 ?_
                refine lv_iload hx hb dX12_mend_132 (lv_at hl 4 rfl) ?_
                obtain ⟨c_58, hZ⟩ := jx_a_some hZ
                refine M_iald hx hb hK hP wM_12 c_58 dX12_mend_134 ?_
                obtain ⟨c_59, hZ⟩ := jx_a_some hZ
                obtain ⟨S_60, e_S_60, hZ⟩ := jx_l_some hZ
                refine M_iast hx hb hK hP hD hS wM_12 (fun _ => wMs_12) c_59 e_S_60 dX12_mend_135 (fun H locs hP hD hS => ?_)
                obtain ⟨x6_61, e_x6_61, hZ⟩ := jx_l_some hZ
                refine lv_iinc (v := x6_61) (lv' := [(6, .int x6_61), (0, .ref (q 0)), (1, .int x1_16), (2, .int x2_16), (3, .int x3_16)]) hx hb dX12_mend_136 hl (k := 4) rfl (by rw [e_x6_61]; rfl) (by decide) rfl (fun ls hl => ?_)
                refine lv_goto (tgt := 112) hx hb dX12_mend_139 (by decide) ?_
                have ho := Option.some.inj hZ
                subst ho
                exact ih_45 x6_61 S_60 _ _ hk_45 hP hD hS _ (lv_sub hl [1, 2, 3, 4, 0] rfl)
          exact l_45 FU (4 : Int32) S_21 _ _ hw hP hD hS _ (lv_sub hl [2, 3, 4, 5, 0] rfl)
      · have hZ := jx_i_pos c_24 hZ
        refine lv_iload_n hx hb dX12_mend_98 rfl (lv_at hl 4 rfl) ?_
        exact leave_i hx hb hr hlocks hP hS hZ dX12_mend_99
    · have hZ := jx_i_pos c_20 hZ
      refine lv_iconst (v := (-1 : Int32)) hx hb dX12_mend_86 (by decide) ?_
      exact leave_i hx hb hr hlocks hP hS hZ dX12_mend_87
  have j49 : ∀ (x1_13 : Int32) (x2_13 : Int32) (x3_13 : Int32) (s0_13 : Int32) (S_13 : St)  (H : Heap) (locs : List Loc) (hZ : f_X12_mend_49 x1_13 x2_13 x3_13 s0_13 S_13 = some Z) (hP : va_P D vwCl (W_M q k S_13) H) (hD : va_D A (W_M q k S_13)) (hS : va_S A s.heap H locs) (ls : Array Slot) (hl : lv_has ls 7 [(0, .ref (q 0)), (1, .int x1_13), (2, .int x2_13), (3, .int x3_13)]), W p l e ({ frames := 2, cells := 0, slots := 0, locals := 43 } : Room) s m ([.ref (q 0), .int x1, .int x2, .int x3] : List Value).toArray below meth c H locs 0 0 (MQ below (va_Qi (fun r u => (r, u) = Z) (fun u t => va_P D vwCl (W_M q k u) t.heap) A) ([.ref (q 0), .int x1, .int x2, .int x3] : List Value).toArray s 0 0 A) (F0 m 49 ls [.int s0_13]) := by
    intro x1_13 x2_13 x3_13 s0_13 S_13   H locs hZ hP hD hS ls hl
    unfold f_X12_mend_49 at hZ
    refine lv_istore (lv' := [(4, .int s0_13), (0, .ref (q 0)), (1, .int x1_13), (2, .int x2_13), (3, .int x3_13)]) hx hb dX12_mend_49 hl (by decide) rfl (fun ls hl => ?_)
    refine lv_iload_n hx hb dX12_mend_51 rfl (lv_at hl 3 rfl) ?_
    refine lv_if_ne (tgt := 60) hx hb dX12_mend_52 (by decide) (fun c_14 => ?_) (fun c_14 => ?_)
    · have hZ := jx_i_neg c_14 hZ
      refine lv_iload_n hx hb dX12_mend_60 rfl (lv_at hl 3 rfl) ?_
      refine lv_iconst (v := (3 : Int32)) hx hb dX12_mend_61 (by decide) ?_
      refine lv_icmp_ne (tgt := 71) hx hb dX12_mend_62 (by decide) (fun c_15 => ?_) (fun c_15 => ?_)
      · have hZ := jx_i_neg c_15 hZ
        refine lv_bipush (v := (99 : Int32)) hx hb dX12_mend_71 (by decide) ?_
        exact j73 x1_13 x2_13 x3_13 s0_13 (99 : Int32) S_13 _ _ hZ hP hD hS _ (lv_sub hl [1, 2, 3, 4, 0] rfl)
      · have hZ := jx_i_pos c_15 hZ
        refine lv_sipush (v := (200 : Int32)) hx hb dX12_mend_65 (by decide) ?_
        refine lv_goto (tgt := 73) hx hb dX12_mend_68 (by decide) ?_
        exact j73 x1_13 x2_13 x3_13 s0_13 (200 : Int32) S_13 _ _ hZ hP hD hS _ (lv_sub hl [1, 2, 3, 4, 0] rfl)
    · have hZ := jx_i_pos c_14 hZ
      refine lv_bipush (v := (40 : Int32)) hx hb dX12_mend_55 (by decide) ?_
      refine lv_goto (tgt := 73) hx hb dX12_mend_57 (by decide) ?_
      exact j73 x1_13 x2_13 x3_13 s0_13 (40 : Int32) S_13 _ _ hZ hP hD hS _ (lv_sub hl [1, 2, 3, 4, 0] rfl)
  have j44 : ∀ (x1_12 : Int32) (x2_12 : Int32) (x3_12 : Int32) (S_12 : St)  (H : Heap) (locs : List Loc) (hZ : f_X12_mend_44 x1_12 x2_12 x3_12 S_12 = some Z) (hP : va_P D vwCl (W_M q k S_12) H) (hD : va_D A (W_M q k S_12)) (hS : va_S A s.heap H locs) (ls : Array Slot) (hl : lv_has ls 7 [(0, .ref (q 0)), (1, .int x1_12), (2, .int x2_12), (3, .int x3_12)]), W p l e ({ frames := 2, cells := 0, slots := 0, locals := 43 } : Room) s m ([.ref (q 0), .int x1, .int x2, .int x3] : List Value).toArray below meth c H locs 0 0 (MQ below (va_Qi (fun r u => (r, u) = Z) (fun u t => va_P D vwCl (W_M q k u) t.heap) A) ([.ref (q 0), .int x1, .int x2, .int x3] : List Value).toArray s 0 0 A) (F0 m 44 ls []) := by
    intro x1_12 x2_12 x3_12 S_12   H locs hZ hP hD hS ls hl
    unfold f_X12_mend_44 at hZ
    refine lv_iconst (v := (1 : Int32)) hx hb dX12_mend_44 (by decide) ?_
    refine lv_goto (tgt := 49) hx hb dX12_mend_45 (by decide) ?_
    exact j49 x1_12 x2_12 x3_12 (1 : Int32) S_12 _ _ hZ hP hD hS _ (lv_sub hl [0, 1, 2, 3] rfl)
  have j35 : ∀ (x1_10 : Int32) (x2_10 : Int32) (x3_10 : Int32) (S_10 : St)  (H : Heap) (locs : List Loc) (hZ : f_X12_mend_35 x1_10 x2_10 x3_10 S_10 = some Z) (hP : va_P D vwCl (W_M q k S_10) H) (hD : va_D A (W_M q k S_10)) (hS : va_S A s.heap H locs) (ls : Array Slot) (hl : lv_has ls 7 [(0, .ref (q 0)), (1, .int x1_10), (2, .int x2_10), (3, .int x3_10)]), W p l e ({ frames := 2, cells := 0, slots := 0, locals := 43 } : Room) s m ([.ref (q 0), .int x1, .int x2, .int x3] : List Value).toArray below meth c H locs 0 0 (MQ below (va_Qi (fun r u => (r, u) = Z) (fun u t => va_P D vwCl (W_M q k u) t.heap) A) ([.ref (q 0), .int x1, .int x2, .int x3] : List Value).toArray s 0 0 A) (F0 m 35 ls []) := by
    intro x1_10 x2_10 x3_10 S_10   H locs hZ hP hD hS ls hl
    unfold f_X12_mend_35 at hZ
    refine lv_iload_n hx hb dX12_mend_35 rfl (lv_at hl 2 rfl) ?_
    refine lv_if_eq (tgt := 44) hx hb dX12_mend_36 (by decide) (fun c_11 => ?_) (fun c_11 => ?_)
    · have hZ := jx_i_pos c_11 hZ
      exact j44 x1_10 x2_10 x3_10 S_10 _ _ hZ hP hD hS _ (lv_sub hl [0, 1, 2, 3] rfl)
    · have hZ := jx_i_neg c_11 hZ
      refine lv_iload_n hx hb dX12_mend_39 rfl (lv_at hl 2 rfl) ?_
      refine lv_iconst (v := (3 : Int32)) hx hb dX12_mend_40 (by decide) ?_
      refine lv_icmp_ne (tgt := 48) hx hb dX12_mend_41 (by decide) (fun c_67 => ?_) (fun c_67 => ?_)
      · have hZ := jx_i_neg c_67 hZ
        refine lv_iconst (v := (0 : Int32)) hx hb dX12_mend_48 (by decide) ?_
        exact j49 x1_10 x2_10 x3_10 (0 : Int32) S_10 _ _ hZ hP hD hS _ (lv_sub hl [0, 1, 2, 3] rfl)
      · have hZ := jx_i_pos c_67 hZ
        exact j44 x1_10 x2_10 x3_10 S_10 _ _ hZ hP hD hS _ (lv_sub hl [0, 1, 2, 3] rfl)
  unfold f_X12_mend at hZ
  refine lv_iload_n hx hb dX12_mend_0 rfl (lv_at hl 2 rfl) ?_
  refine lv_iconst (v := (0 : Int32)) hx hb dX12_mend_1 (by decide) ?_
  refine lv_iconst (v := (4 : Int32)) hx hb dX12_mend_2 (by decide) ?_
  obtain ⟨r_3, S_1, hc_2, hZ⟩ := jx_b2_some hZ
  refine call_Si SM_ok sameM ⟨hx, hb, hml, hown, hts⟩ (c_X12_in l D q k x2 (0 : Int32) (4 : Int32) S _ (r_3, S_1)  hc_2) (va_cwS 3 hts gX12_mend_X12_in rfl rfl rfl hd_X12_in ⟨Nat.le_of_ble_eq_true rfl, Nat.le_of_ble_eq_true rfl⟩) hK hP hD hS hA hsp (As := [.int x2, .int (0 : Int32), .int (4 : Int32)]) rfl hl.1 rfl (Nat.le_of_ble_eq_true rfl) dX12_mend_3 ⟨Nat.zero_le _, Nat.zero_le _⟩ (fun H locs hP hD hS => ?_)
  refine lv_if_eq (tgt := 33) hx hb dX12_mend_6 (by decide) (fun c_4 => ?_) (fun c_4 => ?_)
  · have hZ := jx_i_pos c_4 hZ
    refine lv_iconst (v := (-1 : Int32)) hx hb dX12_mend_33 (by decide) ?_
    exact leave_i hx hb hr hlocks hP hS hZ dX12_mend_34
  · have hZ := jx_i_neg c_4 hZ
    refine lv_iload_n hx hb dX12_mend_9 rfl (lv_at hl 2 rfl) ?_
    refine lv_iconst (v := (3 : Int32)) hx hb dX12_mend_10 (by decide) ?_
    refine lv_icmp_ge (tgt := 25) hx hb dX12_mend_11 (by decide) (fun c_5 => ?_) (fun c_5 => ?_)
    · have hZ := jx_i_pos c_5 hZ
      refine lv_aload_n hx hb dX12_mend_25 rfl (lv_at hl 0 rfl) ?_
      refine lv_iload_n hx hb dX12_mend_26 rfl (lv_at hl 1 rfl) ?_
      obtain ⟨r_8, S_6, hc_7, hZ⟩ := jx_b2_some hZ
      refine call_Vi SM_ok sameM ⟨hx, hb, hml, hown, hts⟩ (c_X12_isThing l D q k x1 S_1 _ (r_8, S_6)  hc_7) (cwV 1 hts gX12_mend_X12_isThing rfl rfl rfl hd_X12_isThing ⟨Nat.le_of_ble_eq_true rfl, Nat.le_of_ble_eq_true rfl⟩) hK hP hD hS hA hsp (va_recv hK hP (ci := 12) (q0 := 0) rfl wM_0) (As := [.int x1]) rfl hl.1 rfl (Nat.le_of_ble_eq_true rfl) dX12_mend_27 ⟨Nat.zero_le _, Nat.zero_le _⟩ (fun H locs hP hD hS => ?_)
      refine lv_if_ne (tgt := 35) hx hb dX12_mend_30 (by decide) (fun c_9 => ?_) (fun c_9 => ?_)
      · have hZ := jx_i_neg c_9 hZ
        exact j35 x1 x2 x3 S_6 _ _ hZ hP hD hS _ (lv_sub hl [0, 1, 2, 3] rfl)
      · have hZ := jx_i_pos c_9 hZ
        refine lv_iconst (v := (-1 : Int32)) hx hb dX12_mend_33 (by decide) ?_
        exact leave_i hx hb hr hlocks hP hS hZ dX12_mend_34
    · have hZ := jx_i_neg c_5 hZ
      refine lv_aload_n hx hb dX12_mend_14 rfl (lv_at hl 0 rfl) ?_
      refine lv_iload_n hx hb dX12_mend_15 rfl (lv_at hl 1 rfl) ?_
      obtain ⟨r_73, S_71, hc_72, hZ⟩ := jx_b2_some hZ
      refine call_Vi SM_ok sameM ⟨hx, hb, hml, hown, hts⟩ (c_X12_isSort l D q k x1 S_1 _ (r_73, S_71)  hc_72) (cwV 1 hts gX12_mend_X12_isSort rfl rfl rfl hd_X12_isSort ⟨Nat.le_of_ble_eq_true rfl, Nat.le_of_ble_eq_true rfl⟩) hK hP hD hS hA hsp (va_recv hK hP (ci := 12) (q0 := 0) rfl wM_0) (As := [.int x1]) rfl hl.1 rfl (Nat.le_of_ble_eq_true rfl) dX12_mend_16 ⟨Nat.zero_le _, Nat.zero_le _⟩ (fun H locs hP hD hS => ?_)
      refine lv_if_ne (tgt := 35) hx hb dX12_mend_19 (by decide) (fun c_74 => ?_) (fun c_74 => ?_)
      · have hZ := jx_i_neg c_74 hZ
        exact j35 x1 x2 x3 S_71 _ _ hZ hP hD hS _ (lv_sub hl [0, 1, 2, 3] rfl)
      · have hZ := jx_i_pos c_74 hZ
        refine lv_goto (tgt := 33) hx hb dX12_mend_22 (by decide) ?_
        refine lv_iconst (v := (-1 : Int32)) hx hb dX12_mend_33 (by decide) ?_
        exact leave_i hx hb hr hlocks hP hS hZ dX12_mend_34
-- X12_undo
def f_X12_undo (S : St) : Option (Int32 × St) :=
  (if (S.1 0 20) = 0 then some ((-5 : Int32), S) else jx_l (u1 S 0 20 ((S.1 0 20) - (1 : Int32))) (fun S_2 => jx_l (u1 S_2 0 21 ((S_2.1 0 21) + (1 : Int32))) (fun S_3 => jx_a ((4 : Int32) * (S_3.1 0 20)) 160 (jx_a (((4 : Int32) * (S_3.1 0 20)) + (1 : Int32)) 160 (jx_a (((4 : Int32) * (S_3.1 0 20)) + (2 : Int32)) 160 (jx_b (f_X12_becomes (S_3.1 12 (Int32.toNatClampNeg ((4 : Int32) * (S_3.1 0 20)))) (S_3.1 12 (Int32.toNatClampNeg (((4 : Int32) * (S_3.1 0 20)) + (1 : Int32)))) (S_3.1 12 (Int32.toNatClampNeg (((4 : Int32) * (S_3.1 0 20)) + (2 : Int32)))) S_3) (fun S_7 => some ((S_7.1 0 20), S_7))))))))
set_option maxHeartbeats 4000000 in
set_option maxRecDepth 100000 in
theorem c_X12_undo (l : Launch) (D : va_G) (q : Nat → Nat) (k : CI) (S : St) (sz : Nat) (Z : Int32 × St) (hZ : f_X12_undo S = some Z) : MetI W_M SM l yX12_undo wsX12_undo { frames := 1, cells := 0, slots := 0, locals := 23 } [.ref (q 0)] D q k S sz Z := by
  refine enter (cc := cX12_undo) (maxL := 1) (ret := some .int) (by decide) rfl (Nat.le_of_ble_eq_true rfl) ?_
  intro p e s m below meth c A ls hx hb hr hts hown hlocks hml hP hK hD hA hS hsp hAe hl
  have hown : s.vm.findClass RX12 = some m.cls := hown
  have hl : lv_has ls 1 [(0, .ref (q 0))] := hl
  have in12 : ∀ w ∈ wsX120, w ∈ wsX12_undo := fun _ h => (List.mem_cons_of_mem _ (List.mem_append_right _ h))
  unfold f_X12_undo at hZ
  refine lv_aload_n hx hb dX12_undo_0 rfl (lv_at hl 0 rfl) ?_
  refine gf_12_changed hx hb hts in12 hown hK hP (hts (.fieldLink RX12 158 "CoinsOfLastModel" "changed" "I") (List.mem_of_getElem? (i := 1) rfl)) dX12_undo_1 ?_
  refine lv_if_ne (tgt := 10) hx hb dX12_undo_4 (by decide) (fun c_1 => ?_) (fun c_1 => ?_)
  · have hZ := jx_i_neg c_1 hZ
    refine lv_aload_n hx hb dX12_undo_10 rfl (lv_at hl 0 rfl) ?_
    refine lv_dup hx hb dX12_undo_11 rfl ?_
    refine gf_12_changed hx hb hts in12 hown hK hP (hts (.fieldLink RX12 158 "CoinsOfLastModel" "changed" "I") (List.mem_of_getElem? (i := 1) rfl)) dX12_undo_12 ?_
    refine lv_iconst (v := (1 : Int32)) hx hb dX12_undo_15 (by decide) ?_
    refine lv_isub hx hb dX12_undo_16 ?_
    obtain ⟨S_2, e_S_2, hZ⟩ := jx_l_some hZ
    refine pf_12_changed hx hb hts in12 hown hK hP hD hS (hts (.fieldLink RX12 158 "CoinsOfLastModel" "changed" "I") (List.mem_of_getElem? (i := 1) rfl)) e_S_2 dX12_undo_17 (fun H locs hP hD hS => ?_)
    refine lv_aload_n hx hb dX12_undo_20 rfl (lv_at hl 0 rfl) ?_
    refine lv_dup hx hb dX12_undo_21 rfl ?_
    refine gf_12_undone hx hb hts in12 hown hK hP (hts (.fieldLink RX12 161 "CoinsOfLastModel" "undone" "I") (List.mem_of_getElem? (i := 2) rfl)) dX12_undo_22 ?_
    refine lv_iconst (v := (1 : Int32)) hx hb dX12_undo_25 (by decide) ?_
    refine lv_iadd hx hb dX12_undo_26 ?_
    obtain ⟨S_3, e_S_3, hZ⟩ := jx_l_some hZ
    refine pf_12_undone hx hb hts in12 hown hK hP hD hS (hts (.fieldLink RX12 161 "CoinsOfLastModel" "undone" "I") (List.mem_of_getElem? (i := 2) rfl)) e_S_3 dX12_undo_27 (fun H locs hP hD hS => ?_)
    refine lv_aload_n hx hb dX12_undo_30 rfl (lv_at hl 0 rfl) ?_
    refine lv_aload_n hx hb dX12_undo_31 rfl (lv_at hl 0 rfl) ?_
    refine gf_12_changeOf hx hb hts in12 hown hK hP (hts (.fieldLink RX12 43 "CoinsOfLastModel" "changeOf" "[I") (List.mem_of_getElem? (i := 3) rfl)) dX12_undo_32 ?_
    refine lv_iconst (v := (4 : Int32)) hx hb dX12_undo_35 (by decide) ?_
    refine lv_aload_n hx hb dX12_undo_36 rfl (lv_at hl 0 rfl) ?_
    refine gf_12_changed hx hb hts in12 hown hK hP (hts (.fieldLink RX12 158 "CoinsOfLastModel" "changed" "I") (List.mem_of_getElem? (i := 1) rfl)) dX12_undo_37 ?_
    refine lv_imul hx hb dX12_undo_40 ?_
    obtain ⟨c_4, hZ⟩ := jx_a_some hZ
    refine M_iald hx hb hK hP wM_12 c_4 dX12_undo_41 ?_
    refine lv_aload_n hx hb dX12_undo_42 rfl (lv_at hl 0 rfl) ?_
    refine gf_12_changeOf hx hb hts in12 hown hK hP (hts (.fieldLink RX12 43 "CoinsOfLastModel" "changeOf" "[I") (List.mem_of_getElem? (i := 3) rfl)) dX12_undo_43 ?_
    refine lv_iconst (v := (4 : Int32)) hx hb dX12_undo_46 (by decide) ?_
    refine lv_aload_n hx hb dX12_undo_47 rfl (lv_at hl 0 rfl) ?_
    refine gf_12_changed hx hb hts in12 hown hK hP (hts (.fieldLink RX12 158 "CoinsOfLastModel" "changed" "I") (List.mem_of_getElem? (i := 1) rfl)) dX12_undo_48 ?_
    refine lv_imul hx hb dX12_undo_51 ?_
    refine lv_iconst (v := (1 : Int32)) hx hb dX12_undo_52 (by decide) ?_
    refine lv_iadd hx hb dX12_undo_53 ?_
    obtain ⟨c_5, hZ⟩ := jx_a_some hZ
    refine M_iald hx hb hK hP wM_12 c_5 dX12_undo_54 ?_
    refine lv_aload_n hx hb dX12_undo_55 rfl (lv_at hl 0 rfl) ?_
    refine gf_12_changeOf hx hb hts in12 hown hK hP (hts (.fieldLink RX12 43 "CoinsOfLastModel" "changeOf" "[I") (List.mem_of_getElem? (i := 3) rfl)) dX12_undo_56 ?_
    refine lv_iconst (v := (4 : Int32)) hx hb dX12_undo_59 (by decide) ?_
    refine lv_aload_n hx hb dX12_undo_60 rfl (lv_at hl 0 rfl) ?_
    refine gf_12_changed hx hb hts in12 hown hK hP (hts (.fieldLink RX12 158 "CoinsOfLastModel" "changed" "I") (List.mem_of_getElem? (i := 1) rfl)) dX12_undo_61 ?_
    refine lv_imul hx hb dX12_undo_64 ?_
    refine lv_iconst (v := (2 : Int32)) hx hb dX12_undo_65 (by decide) ?_
    refine lv_iadd hx hb dX12_undo_66 ?_
    obtain ⟨c_6, hZ⟩ := jx_a_some hZ
    refine M_iald hx hb hK hP wM_12 c_6 dX12_undo_67 ?_
    obtain ⟨S_7, hc_8, hZ⟩ := jx_b_some hZ
    refine call_Vv SM_ok sameM ⟨hx, hb, hml, hown, hts⟩ (c_X12_becomes l D q k (S_3.1 12 (Int32.toNatClampNeg ((4 : Int32) * (S_3.1 0 20)))) (S_3.1 12 (Int32.toNatClampNeg (((4 : Int32) * (S_3.1 0 20)) + (1 : Int32)))) (S_3.1 12 (Int32.toNatClampNeg (((4 : Int32) * (S_3.1 0 20)) + (2 : Int32)))) S_3 _ S_7  hc_8) (cwV 3 hts gX12_undo_X12_becomes rfl rfl rfl hd_X12_becomes ⟨Nat.le_of_ble_eq_true rfl, Nat.le_of_ble_eq_true rfl⟩) hK hP hD hS hA hsp (va_recv hK hP (ci := 12) (q0 := 0) rfl wM_0) (As := [.int (S_3.1 12 (Int32.toNatClampNeg ((4 : Int32) * (S_3.1 0 20)))), .int (S_3.1 12 (Int32.toNatClampNeg (((4 : Int32) * (S_3.1 0 20)) + (1 : Int32)))), .int (S_3.1 12 (Int32.toNatClampNeg (((4 : Int32) * (S_3.1 0 20)) + (2 : Int32))))]) rfl hl.1 rfl (Nat.le_of_ble_eq_true rfl) dX12_undo_68 ⟨Nat.zero_le _, Nat.zero_le _⟩ (fun H locs hP hD hS => ?_)
    refine lv_aload_n hx hb dX12_undo_71 rfl (lv_at hl 0 rfl) ?_
    refine gf_12_changed hx hb hts in12 hown hK hP (hts (.fieldLink RX12 158 "CoinsOfLastModel" "changed" "I") (List.mem_of_getElem? (i := 1) rfl)) dX12_undo_72 ?_
    exact leave_i hx hb hr hlocks hP hS hZ dX12_undo_75
  · have hZ := jx_i_pos c_1 hZ
    refine lv_bipush (v := (-5 : Int32)) hx hb dX12_undo_7 (by decide) ?_
    exact leave_i hx hb hr hlocks hP hS hZ dX12_undo_9
