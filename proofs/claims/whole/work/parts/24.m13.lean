-- X12_way
def f_X12_way (x1 : Int32) (x2 : Int32) (x3 : Int32) (x4 : Int32) (S : St) : Option (Int32 × St) :=
  jx_b2 (f_X12_isSum x1 S) (fun r_3 S_1 => (if r_3 = 0 then some ((-1 : Int32), S_1) else jx_b2 (f_X12_isPair x2 S_1) (fun r_7 S_5 => (if r_7 = 0 then some ((-1 : Int32), S_5) else jx_d (10 : Int32) (jx_d (10 : Int32) ((if (x2 / (10 : Int32)) = (x2 - x2 / (10 : Int32) * (10 : Int32)) then some ((-1 : Int32), S_5) else jx_b2 (f_X12_isDay x3 S_5) (fun r_14 S_12 => (if r_14 = 0 then some ((-1 : Int32), S_12) else jx_b2 (f_X12_in x4 (0 : Int32) (1 : Int32) S_12) (fun r_18 S_16 => (if r_18 = 0 then some ((-1 : Int32), S_16) else jx_l (u1 S_16 0 41 (0 : Int32)) (fun S_20 => jx_d (10 : Int32) (jx_d (10 : Int32) (jx_d (10 : Int32) (jx_d (10 : Int32) (jx_b (f_X12_goes 8 (Int32.toInt64 x1) (x2 / (10 : Int32)) (x2 - x2 / (10 : Int32) * (10 : Int32)) ((1 : Int32) <<< ((x2 / (10 : Int32)) &&& 31)) x3 ((x2 / (10 : Int32)) + (1 : Int32)) S_20) (fun S_25 => (if x4 = 0 then some ((Int64.toInt32 (S_25.2 0 40)), S_25) else some ((S_25.1 0 41), S_25)))))))))))))))))))
set_option maxHeartbeats 4000000 in
set_option maxRecDepth 100000 in
theorem c_X12_way (l : Launch) (D : va_G) (q : Nat → Nat) (k : CI) (x1 : Int32) (x2 : Int32) (x3 : Int32) (x4 : Int32) (S : St) (sz : Nat) (Z : Int32 × St) (hZ : f_X12_way x1 x2 x3 x4 S = some Z) : MetI W_M SM l yX12_way wsX12_way { frames := 41, cells := 0, slots := 0, locals := 1001 } [.ref (q 0), .int x1, .int x2, .int x3, .int x4] D q k S sz Z := by
  refine enter (cc := cX12_way) (maxL := 5) (ret := some .int) (by decide) rfl (Nat.le_of_ble_eq_true rfl) ?_
  intro p e s m below meth c A ls hx hb hr hts hown hlocks hml hP hK hD hA hS hsp hAe hl
  have hown : s.vm.findClass RX12 = some m.cls := hown
  have hl : lv_has ls 5 [(0, .ref (q 0)), (1, .int x1), (2, .int x2), (3, .int x3), (4, .int x4)] := hl
  have in12 : ∀ w ∈ wsX120, w ∈ wsX12_way := fun _ h => (List.mem_cons_of_mem _ (List.mem_append_right _ h))
  unfold f_X12_way at hZ
  refine lv_iload_n hx hb dX12_way_0 rfl (lv_at hl 1 rfl) ?_
  obtain ⟨r_3, S_1, hc_2, hZ⟩ := jx_b2_some hZ
  refine call_Si SM_ok sameM ⟨hx, hb, hml, hown, hts⟩ (c_X12_isSum l D q k x1 S _ (r_3, S_1)  hc_2) (va_cwS 1 hts gX12_way_X12_isSum rfl rfl rfl hd_X12_isSum ⟨Nat.le_of_ble_eq_true rfl, Nat.le_of_ble_eq_true rfl⟩) hK hP hD hS hA hsp (As := [.int x1]) rfl hl.1 rfl (Nat.le_of_ble_eq_true rfl) dX12_way_1 ⟨Nat.zero_le _, Nat.zero_le _⟩ (fun H locs hP hD hS => ?_)
  refine lv_if_eq (tgt := 42) hx hb dX12_way_4 (by decide) (fun c_4 => ?_) (fun c_4 => ?_)
  · have hZ := jx_i_pos c_4 hZ
    refine lv_iconst (v := (-1 : Int32)) hx hb dX12_way_42 (by decide) ?_
    exact leave_i hx hb hr hlocks hP hS hZ dX12_way_43
  · have hZ := jx_i_neg c_4 hZ
    refine lv_iload_n hx hb dX12_way_7 rfl (lv_at hl 2 rfl) ?_
    obtain ⟨r_7, S_5, hc_6, hZ⟩ := jx_b2_some hZ
    refine call_Si SM_ok sameM ⟨hx, hb, hml, hown, hts⟩ (c_X12_isPair l D q k x2 S_1 _ (r_7, S_5)  hc_6) (va_cwS 1 hts gX12_way_X12_isPair rfl rfl rfl hd_X12_isPair ⟨Nat.le_of_ble_eq_true rfl, Nat.le_of_ble_eq_true rfl⟩) hK hP hD hS hA hsp (As := [.int x2]) rfl hl.1 rfl (Nat.le_of_ble_eq_true rfl) dX12_way_8 ⟨Nat.zero_le _, Nat.zero_le _⟩ (fun H locs hP hD hS => ?_)
    refine lv_if_eq (tgt := 42) hx hb dX12_way_11 (by decide) (fun c_8 => ?_) (fun c_8 => ?_)
    · have hZ := jx_i_pos c_8 hZ
      refine lv_iconst (v := (-1 : Int32)) hx hb dX12_way_42 (by decide) ?_
      exact leave_i hx hb hr hlocks hP hS hZ dX12_way_43
    · have hZ := jx_i_neg c_8 hZ
      refine lv_iload_n hx hb dX12_way_14 rfl (lv_at hl 2 rfl) ?_
      refine lv_bipush (v := (10 : Int32)) hx hb dX12_way_15 (by decide) ?_
      obtain ⟨c_9, hZ⟩ := jx_d_some hZ
      refine lv_idiv hx hb dX12_way_17 c_9 ?_
      refine lv_iload_n hx hb dX12_way_18 rfl (lv_at hl 2 rfl) ?_
      refine lv_bipush (v := (10 : Int32)) hx hb dX12_way_19 (by decide) ?_
      obtain ⟨c_10, hZ⟩ := jx_d_some hZ
      refine lv_irem hx hb dX12_way_21 c_10 ?_
      refine lv_icmp_eq (tgt := 42) hx hb dX12_way_22 (by decide) (fun c_11 => ?_) (fun c_11 => ?_)
      · have hZ := jx_i_pos c_11 hZ
        refine lv_iconst (v := (-1 : Int32)) hx hb dX12_way_42 (by decide) ?_
        exact leave_i hx hb hr hlocks hP hS hZ dX12_way_43
      · have hZ := jx_i_neg c_11 hZ
        refine lv_iload_n hx hb dX12_way_25 rfl (lv_at hl 3 rfl) ?_
        obtain ⟨r_14, S_12, hc_13, hZ⟩ := jx_b2_some hZ
        refine call_Si SM_ok sameM ⟨hx, hb, hml, hown, hts⟩ (c_X12_isDay l D q k x3 S_5 _ (r_14, S_12)  hc_13) (va_cwS 1 hts gX12_way_X12_isDay rfl rfl rfl hd_X12_isDay ⟨Nat.le_of_ble_eq_true rfl, Nat.le_of_ble_eq_true rfl⟩) hK hP hD hS hA hsp (As := [.int x3]) rfl hl.1 rfl (Nat.le_of_ble_eq_true rfl) dX12_way_26 ⟨Nat.zero_le _, Nat.zero_le _⟩ (fun H locs hP hD hS => ?_)
        refine lv_if_eq (tgt := 42) hx hb dX12_way_29 (by decide) (fun c_15 => ?_) (fun c_15 => ?_)
        · have hZ := jx_i_pos c_15 hZ
          refine lv_iconst (v := (-1 : Int32)) hx hb dX12_way_42 (by decide) ?_
          exact leave_i hx hb hr hlocks hP hS hZ dX12_way_43
        · have hZ := jx_i_neg c_15 hZ
          refine lv_iload hx hb dX12_way_32 (lv_at hl 4 rfl) ?_
          refine lv_iconst (v := (0 : Int32)) hx hb dX12_way_34 (by decide) ?_
          refine lv_iconst (v := (1 : Int32)) hx hb dX12_way_35 (by decide) ?_
          obtain ⟨r_18, S_16, hc_17, hZ⟩ := jx_b2_some hZ
          refine call_Si SM_ok sameM ⟨hx, hb, hml, hown, hts⟩ (c_X12_in l D q k x4 (0 : Int32) (1 : Int32) S_12 _ (r_18, S_16)  hc_17) (va_cwS 3 hts gX12_way_X12_in rfl rfl rfl hd_X12_in ⟨Nat.le_of_ble_eq_true rfl, Nat.le_of_ble_eq_true rfl⟩) hK hP hD hS hA hsp (As := [.int x4, .int (0 : Int32), .int (1 : Int32)]) rfl hl.1 rfl (Nat.le_of_ble_eq_true rfl) dX12_way_36 ⟨Nat.zero_le _, Nat.zero_le _⟩ (fun H locs hP hD hS => ?_)
          refine lv_if_ne (tgt := 44) hx hb dX12_way_39 (by decide) (fun c_19 => ?_) (fun c_19 => ?_)
          · have hZ := jx_i_neg c_19 hZ
            refine lv_aload_n hx hb dX12_way_44 rfl (lv_at hl 0 rfl) ?_
            refine lv_iconst (v := (0 : Int32)) hx hb dX12_way_45 (by decide) ?_
            obtain ⟨S_20, e_S_20, hZ⟩ := jx_l_some hZ
            refine pf_12_bestDigits hx hb hts in12 hown hK hP hD hS (hts (.fieldLink RX12 311 "CoinsOfLastModel" "bestDigits" "I") (List.mem_of_getElem? (i := 1) rfl)) e_S_20 dX12_way_46 (fun H locs hP hD hS => ?_)
            refine lv_aload_n hx hb dX12_way_49 rfl (lv_at hl 0 rfl) ?_
            refine lv_iload_n hx hb dX12_way_50 rfl (lv_at hl 1 rfl) ?_
            refine lv_i2l (v := (Int32.toInt64 x1)) hx hb dX12_way_51 rfl ?_
            refine lv_iload_n hx hb dX12_way_52 rfl (lv_at hl 2 rfl) ?_
            refine lv_bipush (v := (10 : Int32)) hx hb dX12_way_53 (by decide) ?_
            obtain ⟨c_21, hZ⟩ := jx_d_some hZ
            refine lv_idiv hx hb dX12_way_55 c_21 ?_
            refine lv_iload_n hx hb dX12_way_56 rfl (lv_at hl 2 rfl) ?_
            refine lv_bipush (v := (10 : Int32)) hx hb dX12_way_57 (by decide) ?_
            obtain ⟨c_22, hZ⟩ := jx_d_some hZ
            refine lv_irem hx hb dX12_way_59 c_22 ?_
            refine lv_iconst (v := (1 : Int32)) hx hb dX12_way_60 (by decide) ?_
            refine lv_iload_n hx hb dX12_way_61 rfl (lv_at hl 2 rfl) ?_
            refine lv_bipush (v := (10 : Int32)) hx hb dX12_way_62 (by decide) ?_
            obtain ⟨c_23, hZ⟩ := jx_d_some hZ
            refine lv_idiv hx hb dX12_way_64 c_23 ?_
            refine lv_ishl hx hb dX12_way_65 ?_
            refine lv_iload_n hx hb dX12_way_66 rfl (lv_at hl 3 rfl) ?_
            refine lv_iload_n hx hb dX12_way_67 rfl (lv_at hl 2 rfl) ?_
            refine lv_bipush (v := (10 : Int32)) hx hb dX12_way_68 (by decide) ?_
            obtain ⟨c_24, hZ⟩ := jx_d_some hZ
            refine lv_idiv hx hb dX12_way_70 c_24 ?_
            refine lv_iconst (v := (1 : Int32)) hx hb dX12_way_71 (by decide) ?_
            refine lv_iadd hx hb dX12_way_72 ?_
            obtain ⟨S_25, hc_26, hZ⟩ := jx_b_some hZ
            refine call_Vv SM_ok sameM ⟨hx, hb, hml, hown, hts⟩ (c_X12_goes l D q k 8 (Int32.toInt64 x1) (x2 / (10 : Int32)) (x2 - x2 / (10 : Int32) * (10 : Int32)) ((1 : Int32) <<< ((x2 / (10 : Int32)) &&& 31)) x3 ((x2 / (10 : Int32)) + (1 : Int32)) S_20 _ S_25  hc_26) (cwV 6 hts gX12_way_X12_goes rfl rfl rfl hd_X12_goes ⟨Nat.le_of_ble_eq_true rfl, Nat.le_of_ble_eq_true rfl⟩) hK hP hD hS hA hsp (va_recv hK hP (ci := 12) (q0 := 0) rfl wM_0) (As := [.long (Int32.toInt64 x1), .int (x2 / (10 : Int32)), .int (x2 - x2 / (10 : Int32) * (10 : Int32)), .int ((1 : Int32) <<< ((x2 / (10 : Int32)) &&& 31)), .int x3, .int ((x2 / (10 : Int32)) + (1 : Int32))]) rfl hl.1 rfl (Nat.le_of_ble_eq_true rfl) dX12_way_73 ⟨Nat.zero_le _, Nat.zero_le _⟩ (fun H locs hP hD hS => ?_)
            refine lv_iload hx hb dX12_way_76 (lv_at hl 4 rfl) ?_
            refine lv_if_ne (tgt := 89) hx hb dX12_way_78 (by decide) (fun c_27 => ?_) (fun c_27 => ?_)
            · have hZ := jx_i_neg c_27 hZ
              refine lv_aload_n hx hb dX12_way_89 rfl (lv_at hl 0 rfl) ?_
              refine gf_12_bestDigits hx hb hts in12 hown hK hP (hts (.fieldLink RX12 311 "CoinsOfLastModel" "bestDigits" "I") (List.mem_of_getElem? (i := 1) rfl)) dX12_way_90 ?_
              exact leave_i hx hb hr hlocks hP hS hZ dX12_way_93
            · have hZ := jx_i_pos c_27 hZ
              refine lv_aload_n hx hb dX12_way_81 rfl (lv_at hl 0 rfl) ?_
              refine gf_12_bestSum hx hb hts in12 hown hK hP (hts (.fieldLink RX12 314 "CoinsOfLastModel" "bestSum" "J") (List.mem_of_getElem? (i := 2) rfl)) dX12_way_82 ?_
              refine lv_l2i (v := (Int64.toInt32 (S_25.2 0 40))) hx hb dX12_way_85 rfl ?_
              refine lv_goto (tgt := 93) hx hb dX12_way_86 (by decide) ?_
              exact leave_i hx hb hr hlocks hP hS hZ dX12_way_93
          · have hZ := jx_i_pos c_19 hZ
            refine lv_iconst (v := (-1 : Int32)) hx hb dX12_way_42 (by decide) ?_
            exact leave_i hx hb hr hlocks hP hS hZ dX12_way_43
-- X12_round
def f_X12_round (x1 : Int32) (x2 : Int32) (x3 : Int32) (x4 : Int32) (S : St) : Option (Int32 × St) :=
  jx_b2 (f_X12_isSum x1 S) (fun r_3 S_1 => (if r_3 = 0 then some ((-1 : Int32), S_1) else jx_b2 (f_X12_isLand x2 S_1) (fun r_7 S_5 => (if r_7 = 0 then some ((-1 : Int32), S_5) else jx_b2 (f_X12_isDay x3 S_5) (fun r_11 S_9 => (if r_11 = 0 then some ((-1 : Int32), S_9) else jx_b2 (f_X12_in x4 (0 : Int32) (1 : Int32) S_9) (fun r_15 S_13 => (if r_15 = 0 then some ((-1 : Int32), S_13) else jx_l (u1 S_13 0 41 (0 : Int32)) (fun S_17 => jx_b (f_X12_goes 8 (Int32.toInt64 x1) x2 x2 ((1 : Int32) <<< (x2 &&& 31)) x3 (x2 + (1 : Int32)) S_17) (fun S_18 => (if x4 = 0 then some ((Int64.toInt32 (S_18.2 0 40)), S_18) else some ((S_18.1 0 41), S_18))))))))))))
set_option maxHeartbeats 4000000 in
set_option maxRecDepth 100000 in
theorem c_X12_round (l : Launch) (D : va_G) (q : Nat → Nat) (k : CI) (x1 : Int32) (x2 : Int32) (x3 : Int32) (x4 : Int32) (S : St) (sz : Nat) (Z : Int32 × St) (hZ : f_X12_round x1 x2 x3 x4 S = some Z) : MetI W_M SM l yX12_round wsX12_round { frames := 41, cells := 0, slots := 0, locals := 1001 } [.ref (q 0), .int x1, .int x2, .int x3, .int x4] D q k S sz Z := by
  refine enter (cc := cX12_round) (maxL := 5) (ret := some .int) (by decide) rfl (Nat.le_of_ble_eq_true rfl) ?_
  intro p e s m below meth c A ls hx hb hr hts hown hlocks hml hP hK hD hA hS hsp hAe hl
  have hown : s.vm.findClass RX12 = some m.cls := hown
  have hl : lv_has ls 5 [(0, .ref (q 0)), (1, .int x1), (2, .int x2), (3, .int x3), (4, .int x4)] := hl
  have in12 : ∀ w ∈ wsX120, w ∈ wsX12_round := fun _ h => (List.mem_cons_of_mem _ (List.mem_append_right _ h))
  unfold f_X12_round at hZ
  refine lv_iload_n hx hb dX12_round_0 rfl (lv_at hl 1 rfl) ?_
  obtain ⟨r_3, S_1, hc_2, hZ⟩ := jx_b2_some hZ
  refine call_Si SM_ok sameM ⟨hx, hb, hml, hown, hts⟩ (c_X12_isSum l D q k x1 S _ (r_3, S_1)  hc_2) (va_cwS 1 hts gX12_round_X12_isSum rfl rfl rfl hd_X12_isSum ⟨Nat.le_of_ble_eq_true rfl, Nat.le_of_ble_eq_true rfl⟩) hK hP hD hS hA hsp (As := [.int x1]) rfl hl.1 rfl (Nat.le_of_ble_eq_true rfl) dX12_round_1 ⟨Nat.zero_le _, Nat.zero_le _⟩ (fun H locs hP hD hS => ?_)
  refine lv_if_eq (tgt := 31) hx hb dX12_round_4 (by decide) (fun c_4 => ?_) (fun c_4 => ?_)
  · have hZ := jx_i_pos c_4 hZ
    refine lv_iconst (v := (-1 : Int32)) hx hb dX12_round_31 (by decide) ?_
    exact leave_i hx hb hr hlocks hP hS hZ dX12_round_32
  · have hZ := jx_i_neg c_4 hZ
    refine lv_iload_n hx hb dX12_round_7 rfl (lv_at hl 2 rfl) ?_
    obtain ⟨r_7, S_5, hc_6, hZ⟩ := jx_b2_some hZ
    refine call_Si SM_ok sameM ⟨hx, hb, hml, hown, hts⟩ (c_X12_isLand l D q k x2 S_1 _ (r_7, S_5)  hc_6) (va_cwS 1 hts gX12_round_X12_isLand rfl rfl rfl hd_X12_isLand ⟨Nat.le_of_ble_eq_true rfl, Nat.le_of_ble_eq_true rfl⟩) hK hP hD hS hA hsp (As := [.int x2]) rfl hl.1 rfl (Nat.le_of_ble_eq_true rfl) dX12_round_8 ⟨Nat.zero_le _, Nat.zero_le _⟩ (fun H locs hP hD hS => ?_)
    refine lv_if_eq (tgt := 31) hx hb dX12_round_11 (by decide) (fun c_8 => ?_) (fun c_8 => ?_)
    · have hZ := jx_i_pos c_8 hZ
      refine lv_iconst (v := (-1 : Int32)) hx hb dX12_round_31 (by decide) ?_
      exact leave_i hx hb hr hlocks hP hS hZ dX12_round_32
    · have hZ := jx_i_neg c_8 hZ
      refine lv_iload_n hx hb dX12_round_14 rfl (lv_at hl 3 rfl) ?_
      obtain ⟨r_11, S_9, hc_10, hZ⟩ := jx_b2_some hZ
      refine call_Si SM_ok sameM ⟨hx, hb, hml, hown, hts⟩ (c_X12_isDay l D q k x3 S_5 _ (r_11, S_9)  hc_10) (va_cwS 1 hts gX12_round_X12_isDay rfl rfl rfl hd_X12_isDay ⟨Nat.le_of_ble_eq_true rfl, Nat.le_of_ble_eq_true rfl⟩) hK hP hD hS hA hsp (As := [.int x3]) rfl hl.1 rfl (Nat.le_of_ble_eq_true rfl) dX12_round_15 ⟨Nat.zero_le _, Nat.zero_le _⟩ (fun H locs hP hD hS => ?_)
      refine lv_if_eq (tgt := 31) hx hb dX12_round_18 (by decide) (fun c_12 => ?_) (fun c_12 => ?_)
      · have hZ := jx_i_pos c_12 hZ
        refine lv_iconst (v := (-1 : Int32)) hx hb dX12_round_31 (by decide) ?_
        exact leave_i hx hb hr hlocks hP hS hZ dX12_round_32
      · have hZ := jx_i_neg c_12 hZ
        refine lv_iload hx hb dX12_round_21 (lv_at hl 4 rfl) ?_
        refine lv_iconst (v := (0 : Int32)) hx hb dX12_round_23 (by decide) ?_
        refine lv_iconst (v := (1 : Int32)) hx hb dX12_round_24 (by decide) ?_
        obtain ⟨r_15, S_13, hc_14, hZ⟩ := jx_b2_some hZ
        refine call_Si SM_ok sameM ⟨hx, hb, hml, hown, hts⟩ (c_X12_in l D q k x4 (0 : Int32) (1 : Int32) S_9 _ (r_15, S_13)  hc_14) (va_cwS 3 hts gX12_round_X12_in rfl rfl rfl hd_X12_in ⟨Nat.le_of_ble_eq_true rfl, Nat.le_of_ble_eq_true rfl⟩) hK hP hD hS hA hsp (As := [.int x4, .int (0 : Int32), .int (1 : Int32)]) rfl hl.1 rfl (Nat.le_of_ble_eq_true rfl) dX12_round_25 ⟨Nat.zero_le _, Nat.zero_le _⟩ (fun H locs hP hD hS => ?_)
        refine lv_if_ne (tgt := 33) hx hb dX12_round_28 (by decide) (fun c_16 => ?_) (fun c_16 => ?_)
        · have hZ := jx_i_neg c_16 hZ
          refine lv_aload_n hx hb dX12_round_33 rfl (lv_at hl 0 rfl) ?_
          refine lv_iconst (v := (0 : Int32)) hx hb dX12_round_34 (by decide) ?_
          obtain ⟨S_17, e_S_17, hZ⟩ := jx_l_some hZ
          refine pf_12_bestDigits hx hb hts in12 hown hK hP hD hS (hts (.fieldLink RX12 311 "CoinsOfLastModel" "bestDigits" "I") (List.mem_of_getElem? (i := 1) rfl)) e_S_17 dX12_round_35 (fun H locs hP hD hS => ?_)
          refine lv_aload_n hx hb dX12_round_38 rfl (lv_at hl 0 rfl) ?_
          refine lv_iload_n hx hb dX12_round_39 rfl (lv_at hl 1 rfl) ?_
          refine lv_i2l (v := (Int32.toInt64 x1)) hx hb dX12_round_40 rfl ?_
          refine lv_iload_n hx hb dX12_round_41 rfl (lv_at hl 2 rfl) ?_
          refine lv_iload_n hx hb dX12_round_42 rfl (lv_at hl 2 rfl) ?_
          refine lv_iconst (v := (1 : Int32)) hx hb dX12_round_43 (by decide) ?_
          refine lv_iload_n hx hb dX12_round_44 rfl (lv_at hl 2 rfl) ?_
          refine lv_ishl hx hb dX12_round_45 ?_
          refine lv_iload_n hx hb dX12_round_46 rfl (lv_at hl 3 rfl) ?_
          refine lv_iload_n hx hb dX12_round_47 rfl (lv_at hl 2 rfl) ?_
          refine lv_iconst (v := (1 : Int32)) hx hb dX12_round_48 (by decide) ?_
          refine lv_iadd hx hb dX12_round_49 ?_
          obtain ⟨S_18, hc_19, hZ⟩ := jx_b_some hZ
          refine call_Vv SM_ok sameM ⟨hx, hb, hml, hown, hts⟩ (c_X12_goes l D q k 8 (Int32.toInt64 x1) x2 x2 ((1 : Int32) <<< (x2 &&& 31)) x3 (x2 + (1 : Int32)) S_17 _ S_18  hc_19) (cwV 6 hts gX12_round_X12_goes rfl rfl rfl hd_X12_goes ⟨Nat.le_of_ble_eq_true rfl, Nat.le_of_ble_eq_true rfl⟩) hK hP hD hS hA hsp (va_recv hK hP (ci := 12) (q0 := 0) rfl wM_0) (As := [.long (Int32.toInt64 x1), .int x2, .int x2, .int ((1 : Int32) <<< (x2 &&& 31)), .int x3, .int (x2 + (1 : Int32))]) rfl hl.1 rfl (Nat.le_of_ble_eq_true rfl) dX12_round_50 ⟨Nat.zero_le _, Nat.zero_le _⟩ (fun H locs hP hD hS => ?_)
          refine lv_iload hx hb dX12_round_53 (lv_at hl 4 rfl) ?_
          refine lv_if_ne (tgt := 66) hx hb dX12_round_55 (by decide) (fun c_20 => ?_) (fun c_20 => ?_)
          · have hZ := jx_i_neg c_20 hZ
            refine lv_aload_n hx hb dX12_round_66 rfl (lv_at hl 0 rfl) ?_
            refine gf_12_bestDigits hx hb hts in12 hown hK hP (hts (.fieldLink RX12 311 "CoinsOfLastModel" "bestDigits" "I") (List.mem_of_getElem? (i := 1) rfl)) dX12_round_67 ?_
            exact leave_i hx hb hr hlocks hP hS hZ dX12_round_70
          · have hZ := jx_i_pos c_20 hZ
            refine lv_aload_n hx hb dX12_round_58 rfl (lv_at hl 0 rfl) ?_
            refine gf_12_bestSum hx hb hts in12 hown hK hP (hts (.fieldLink RX12 314 "CoinsOfLastModel" "bestSum" "J") (List.mem_of_getElem? (i := 2) rfl)) dX12_round_59 ?_
            refine lv_l2i (v := (Int64.toInt32 (S_18.2 0 40))) hx hb dX12_round_62 rfl ?_
            refine lv_goto (tgt := 70) hx hb dX12_round_63 (by decide) ?_
            exact leave_i hx hb hr hlocks hP hS hZ dX12_round_70
        · have hZ := jx_i_pos c_16 hZ
          refine lv_iconst (v := (-1 : Int32)) hx hb dX12_round_31 (by decide) ?_
          exact leave_i hx hb hr hlocks hP hS hZ dX12_round_32
-- X12_waits
def f_X12_waits_161 (x4_21 : Int32) (x6_21 : Int32) (x7_21 : Int64) (S_21 : St) : Option (Int32 × St) :=
  (if x4_21 = 0 then some (x6_21, S_21) else some ((Int64.toInt32 x7_21), S_21))
def f_X12_waits_153i89 (x1 : Int32) (x2 : Int32) (x3 : Int32) (x4 : Int32) (x6_36 : Int32) (x9_36 : Int32) (s0_36 : Int64) (S_36 : St) : Option ((Int32 × Int64 × Int32 × St) ⊕ ((Int32 × Int64 × St))) :=
  jx_l (x9_36 + 1) (fun x9_37 => some (.inl (x6_36, s0_36, x9_37, S_36)))
def f_X12_waits_136i89 (x1 : Int32) (x2 : Int32) (x3 : Int32) (x4 : Int32) (x7_34 : Int64) (x9_34 : Int32) (x10_34 : Int64) (s0_34 : Int32) (S_34 : St) : Option ((Int32 × Int64 × Int32 × St) ⊕ ((Int32 × Int64 × St))) :=
  (if (lg_cmp x10_34 x7_34) ≤ 0 then f_X12_waits_153i89 x1 x2 x3 x4 s0_34 x9_34 x7_34 S_34 else f_X12_waits_153i89 x1 x2 x3 x4 s0_34 x9_34 x10_34 S_34)
def b_X12_waits_89 (x1 : Int32) (x2 : Int32) (x3 : Int32) (x4 : Int32) (x6 : Int32) (x7 : Int64) (x9 : Int32) (S : St) : Option ((Int32 × Int64 × Int32 × St) ⊕ ((Int32 × Int64 × St))) :=
  jx_d (100 : Int32) (jx_d (100 : Int32) ((if ((x3 / (100 : Int32)) + (x3 - x3 / (100 : Int32) * (100 : Int32))) < x9 then some (.inr (x6, x7, S)) else jx_d (10 : Int32) (jx_d (10 : Int32) (jx_b2 (f_X12_changedTo (Int32.toInt64 x1) (x2 / (10 : Int32)) (x2 - x2 / (10 : Int32) * (10 : Int32)) x9 S) (fun r_32 S_30 => (if (lg_cmp r_32 x7) ≤ 0 then f_X12_waits_136i89 x1 x2 x3 x4 x7 x9 r_32 x6 S_30 else f_X12_waits_136i89 x1 x2 x3 x4 x7 x9 r_32 x9 S_30)))))))
def g_X12_waits_89 (x1 : Int32) (x2 : Int32) (x3 : Int32) (x4 : Int32) : (Int32 × Int64 × Int32 × St) → Option ((Int32 × Int64 × Int32 × St) ⊕ ((Int32 × Int64 × St))) := fun z => b_X12_waits_89 x1 x2 x3 x4 z.1 z.2.1 z.2.2.1 z.2.2.2
def f_X12_waits_53 (x1_6 : Int32) (x2_6 : Int32) (x3_6 : Int32) (x4_6 : Int32) (s0_6 : Int32) (S_6 : St) : Option (Int32 × St) :=
  (if s0_6 = 0 then some ((-1 : Int32), S_6) else jx_b2 (f_X12_in x4_6 (0 : Int32) (1 : Int32) S_6) (fun r_10 S_8 => (if r_10 = 0 then some ((-1 : Int32), S_8) else jx_d (100 : Int32) (jx_l (x3_6 / (100 : Int32)) (fun x6_13 => jx_d (100 : Int32) (jx_l (x3_6 / (100 : Int32)) (fun x9_15 => jx_b (jx_w (g_X12_waits_89 x1_6 x2_6 x3_6 x4_6) FU (x6_13, (-1 : Int64), x9_15, S_8)) (fun z => f_X12_waits_161 x4_6 z.1 z.2.1 z.2.2))))))))
def f_X12_waits_52 (x1_5 : Int32) (x2_5 : Int32) (x3_5 : Int32) (x4_5 : Int32) (S_5 : St) : Option (Int32 × St) :=
  f_X12_waits_53 x1_5 x2_5 x3_5 x4_5 (0 : Int32) S_5
def f_X12_waits (x1 : Int32) (x2 : Int32) (x3 : Int32) (x4 : Int32) (S : St) : Option (Int32 × St) :=
  jx_b2 (f_X12_isSum x1 S) (fun r_3 S_1 => (if r_3 = 0 then f_X12_waits_52 x1 x2 x3 x4 S_1 else jx_b2 (f_X12_isPair x2 S_1) (fun r_64 S_62 => (if r_64 = 0 then f_X12_waits_52 x1 x2 x3 x4 S_62 else jx_d (10 : Int32) (jx_d (10 : Int32) ((if (x2 / (10 : Int32)) = (x2 - x2 / (10 : Int32) * (10 : Int32)) then f_X12_waits_52 x1 x2 x3 x4 S_62 else (if x3 < 0 then f_X12_waits_52 x1 x2 x3 x4 S_62 else jx_d (100 : Int32) (jx_b2 (f_X12_isDay (x3 / (100 : Int32)) S_62) (fun r_76 S_74 => (if r_76 = 0 then f_X12_waits_52 x1 x2 x3 x4 S_74 else jx_d (100 : Int32) ((if (60 : Int32) < (x3 - x3 / (100 : Int32) * (100 : Int32)) then f_X12_waits_52 x1 x2 x3 x4 S_74 else f_X12_waits_53 x1 x2 x3 x4 (1 : Int32) S_74)))))))))))))
set_option maxHeartbeats 4000000 in
set_option maxRecDepth 100000 in
theorem c_X12_waits (l : Launch) (D : va_G) (q : Nat → Nat) (k : CI) (x1 : Int32) (x2 : Int32) (x3 : Int32) (x4 : Int32) (S : St) (sz : Nat) (Z : Int32 × St) (hZ : f_X12_waits x1 x2 x3 x4 S = some Z) : MetI W_M SM l yX12_waits wsX12_waits { frames := 5, cells := 0, slots := 0, locals := 121 } [.ref (q 0), .int x1, .int x2, .int x3, .int x4] D q k S sz Z := by
  refine enter (cc := cX12_waits) (maxL := 12) (ret := some .int) (by decide) rfl (Nat.le_of_ble_eq_true rfl) ?_
  intro p e s m below meth c A ls hx hb hr hts hown hlocks hml hP hK hD hA hS hsp hAe hl
  have hown : s.vm.findClass RX12 = some m.cls := hown
  have hl : lv_has ls 12 [(0, .ref (q 0)), (1, .int x1), (2, .int x2), (3, .int x3), (4, .int x4)] := hl
  have j161 : ∀ (x4_21 : Int32) (x6_21 : Int32) (x7_21 : Int64) (S_21 : St)  (H : Heap) (locs : List Loc) (hZ : f_X12_waits_161 x4_21 x6_21 x7_21 S_21 = some Z) (hP : va_P D vwCl (W_M q k S_21) H) (hD : va_D A (W_M q k S_21)) (hS : va_S A s.heap H locs) (ls : Array Slot) (hl : lv_has ls 12 [(4, .int x4_21), (6, .int x6_21), (7, .long x7_21)]), W p l e ({ frames := 5, cells := 0, slots := 0, locals := 121 } : Room) s m ([.ref (q 0), .int x1, .int x2, .int x3, .int x4] : List Value).toArray below meth c H locs 0 0 (MQ below (va_Qi (fun r u => (r, u) = Z) (fun u t => va_P D vwCl (W_M q k u) t.heap) A) ([.ref (q 0), .int x1, .int x2, .int x3, .int x4] : List Value).toArray s 0 0 A) (F0 m 161 ls []) := by
    intro x4_21 x6_21 x7_21 S_21   H locs hZ hP hD hS ls hl
    unfold f_X12_waits_161 at hZ
    refine lv_iload hx hb dX12_waits_161 (lv_at hl 0 rfl) ?_
    refine lv_if_ne (tgt := 171) hx hb dX12_waits_163 (by decide) (fun c_22 => ?_) (fun c_22 => ?_)
    · have hZ := jx_i_neg c_22 hZ
      refine lv_lload hx hb dX12_waits_171 (lv_at hl 2 rfl) ?_
      refine lv_l2i (v := (Int64.toInt32 x7_21)) hx hb dX12_waits_173 rfl ?_
      exact leave_i hx hb hr hlocks hP hS hZ dX12_waits_174
    · have hZ := jx_i_pos c_22 hZ
      refine lv_iload hx hb dX12_waits_166 (lv_at hl 1 rfl) ?_
      refine lv_goto (tgt := 174) hx hb dX12_waits_168 (by decide) ?_
      exact leave_i hx hb hr hlocks hP hS hZ dX12_waits_174
  have j53 : ∀ (x1_6 : Int32) (x2_6 : Int32) (x3_6 : Int32) (x4_6 : Int32) (s0_6 : Int32) (S_6 : St)  (H : Heap) (locs : List Loc) (hZ : f_X12_waits_53 x1_6 x2_6 x3_6 x4_6 s0_6 S_6 = some Z) (hP : va_P D vwCl (W_M q k S_6) H) (hD : va_D A (W_M q k S_6)) (hS : va_S A s.heap H locs) (ls : Array Slot) (hl : lv_has ls 12 [(0, .ref (q 0)), (1, .int x1_6), (2, .int x2_6), (3, .int x3_6), (4, .int x4_6)]), W p l e ({ frames := 5, cells := 0, slots := 0, locals := 121 } : Room) s m ([.ref (q 0), .int x1, .int x2, .int x3, .int x4] : List Value).toArray below meth c H locs 0 0 (MQ below (va_Qi (fun r u => (r, u) = Z) (fun u t => va_P D vwCl (W_M q k u) t.heap) A) ([.ref (q 0), .int x1, .int x2, .int x3, .int x4] : List Value).toArray s 0 0 A) (F0 m 53 ls [.int s0_6]) := by
    intro x1_6 x2_6 x3_6 x4_6 s0_6 S_6   H locs hZ hP hD hS ls hl
    unfold f_X12_waits_53 at hZ
    refine lv_istore (lv' := [(5, .int s0_6), (0, .ref (q 0)), (1, .int x1_6), (2, .int x2_6), (3, .int x3_6), (4, .int x4_6)]) hx hb dX12_waits_53 hl (by decide) rfl (fun ls hl => ?_)
    refine lv_iload hx hb dX12_waits_55 (lv_at hl 0 rfl) ?_
    refine lv_if_eq (tgt := 70) hx hb dX12_waits_57 (by decide) (fun c_7 => ?_) (fun c_7 => ?_)
    · have hZ := jx_i_pos c_7 hZ
      refine lv_iconst (v := (-1 : Int32)) hx hb dX12_waits_70 (by decide) ?_
      exact leave_i hx hb hr hlocks hP hS hZ dX12_waits_71
    · have hZ := jx_i_neg c_7 hZ
      refine lv_iload hx hb dX12_waits_60 (lv_at hl 5 rfl) ?_
      refine lv_iconst (v := (0 : Int32)) hx hb dX12_waits_62 (by decide) ?_
      refine lv_iconst (v := (1 : Int32)) hx hb dX12_waits_63 (by decide) ?_
      obtain ⟨r_10, S_8, hc_9, hZ⟩ := jx_b2_some hZ
      refine call_Si SM_ok sameM ⟨hx, hb, hml, hown, hts⟩ (c_X12_in l D q k x4_6 (0 : Int32) (1 : Int32) S_6 _ (r_10, S_8)  hc_9) (va_cwS 3 hts gX12_waits_X12_in rfl rfl rfl hd_X12_in ⟨Nat.le_of_ble_eq_true rfl, Nat.le_of_ble_eq_true rfl⟩) hK hP hD hS hA hsp (As := [.int x4_6, .int (0 : Int32), .int (1 : Int32)]) rfl hl.1 rfl (Nat.le_of_ble_eq_true rfl) dX12_waits_64 ⟨Nat.zero_le _, Nat.zero_le _⟩ (fun H locs hP hD hS => ?_)
      refine lv_if_ne (tgt := 72) hx hb dX12_waits_67 (by decide) (fun c_11 => ?_) (fun c_11 => ?_)
      · have hZ := jx_i_neg c_11 hZ
        refine lv_iload_n hx hb dX12_waits_72 rfl (lv_at hl 4 rfl) ?_
        refine lv_bipush (v := (100 : Int32)) hx hb dX12_waits_73 (by decide) ?_
        obtain ⟨c_12, hZ⟩ := jx_d_some hZ
        refine lv_idiv hx hb dX12_waits_75 c_12 ?_
        obtain ⟨x6_13, e_x6_13, hZ⟩ := jx_l_some hZ
        refine tx_i e_x6_13 ?_
        refine lv_istore (lv' := [(6, .int x6_13), (5, .int s0_6), (0, .ref (q 0)), (1, .int x1_6), (2, .int x2_6), (3, .int x3_6), (4, .int x4_6)]) hx hb dX12_waits_76 hl (by decide) rfl (fun ls hl => ?_)
        refine lv_ldc2 (v := (-1 : Int64)) hx hb hown (hts (.constantLong RX12 322 (-1)) (List.mem_of_getElem? (i := 1) rfl)) dX12_waits_78 ?_
        refine lv_lstore (lv' := [(7, .long (-1 : Int64)), (6, .int x6_13), (5, .int s0_6), (0, .ref (q 0)), (1, .int x1_6), (2, .int x2_6), (3, .int x3_6), (4, .int x4_6)]) hx hb dX12_waits_81 hl (by decide) rfl (fun ls hl => ?_)
        refine lv_iload_n hx hb dX12_waits_83 rfl (lv_at hl 6 rfl) ?_
        refine lv_bipush (v := (100 : Int32)) hx hb dX12_waits_84 (by decide) ?_
        obtain ⟨c_14, hZ⟩ := jx_d_some hZ
        refine lv_idiv hx hb dX12_waits_86 c_14 ?_
        obtain ⟨x9_15, e_x9_15, hZ⟩ := jx_l_some hZ
        refine tx_i e_x9_15 ?_
        refine lv_istore (lv' := [(9, .int x9_15), (7, .long (-1 : Int64)), (6, .int x6_13), (5, .int s0_6), (0, .ref (q 0)), (1, .int x1_6), (2, .int x2_6), (3, .int x3_6), (4, .int x4_6)]) hx hb dX12_waits_87 hl (by decide) rfl (fun ls hl => ?_)
        obtain ⟨r_20, hw, hza_20⟩ := jx_b_some hZ
        have l_20 : ∀ (nn : Nat) (x6_16 : Int32) (x7_17 : Int64) (x9_18 : Int32) (S_19 : St) (H : Heap) (locs : List Loc) (hw : jx_w (g_X12_waits_89 x1_6 x2_6 x3_6 x4_6) nn (x6_16, x7_17, x9_18, S_19) = some r_20) (hP : va_P D vwCl (W_M q k S_19) H) (hD : va_D A (W_M q k S_19)) (hS : va_S A s.heap H locs) (ls : Array Slot) (hl : lv_has ls 12 [(0, .ref (q 0)), (1, .int x1_6), (2, .int x2_6), (3, .int x3_6), (4, .int x4_6), (6, .int x6_16), (7, .long x7_17), (9, .int x9_18)]), W p l e ({ frames := 5, cells := 0, slots := 0, locals := 121 } : Room) s m ([.ref (q 0), .int x1, .int x2, .int x3, .int x4] : List Value).toArray below meth c H locs 0 0 (MQ below (va_Qi (fun r u => (r, u) = Z) (fun u t => va_P D vwCl (W_M q k u) t.heap) A) ([.ref (q 0), .int x1, .int x2, .int x3, .int x4] : List Value).toArray s 0 0 A) (F0 m 89 ls []) := by
          intro nn
          induction nn with
          | zero =>
            intro x6_16 x7_17 x9_18 S_19 H locs hw hP hD hS ls hl
            exact jx_w_zero hw
          | succ n_20 ih_20 =>
            intro x6_16 x7_17 x9_18 S_19 H locs hw hP hD hS ls hl
            obtain ⟨o_20, hZ, hk_20⟩ := jx_w_succ hw
            have hZ : b_X12_waits_89 x1_6 x2_6 x3_6 x4_6 x6_16 x7_17 x9_18 S_19 = some o_20 := hZ
            have j153i89 : ∀ (x6_54 : Int32) (x9_54 : Int32) (s0_54 : Int64) (S_54 : St)  (o_20 : (Int32 × Int64 × Int32 × St) ⊕ ((Int32 × Int64 × St))) (hk_20 : jx_k (g_X12_waits_89 x1_6 x2_6 x3_6 x4_6) n_20 r_20 o_20) (H : Heap) (locs : List Loc) (hZ : f_X12_waits_153i89 x1_6 x2_6 x3_6 x4_6 x6_54 x9_54 s0_54 S_54 = some o_20) (hP : va_P D vwCl (W_M q k S_54) H) (hD : va_D A (W_M q k S_54)) (hS : va_S A s.heap H locs) (ls : Array Slot) (hl : lv_has ls 12 [(0, .ref (q 0)), (1, .int x1_6), (2, .int x2_6), (3, .int x3_6), (4, .int x4_6), (6, .int x6_54), (9, .int x9_54)]), W p l e ({ frames := 5, cells := 0, slots := 0, locals := 121 } : Room) s m ([.ref (q 0), .int x1, .int x2, .int x3, .int x4] : List Value).toArray below meth c H locs 0 0 (MQ below (va_Qi (fun r u => (r, u) = Z) (fun u t => va_P D vwCl (W_M q k u) t.heap) A) ([.ref (q 0), .int x1, .int x2, .int x3, .int x4] : List Value).toArray s 0 0 A) (F0 m 153 ls [.long s0_54]) := by
              intro x6_54 x9_54 s0_54 S_54  o_20 hk_20 H locs hZ hP hD hS ls hl
              unfold f_X12_waits_153i89 at hZ
              refine lv_lstore (lv' := [(7, .long s0_54), (0, .ref (q 0)), (1, .int x1_6), (2, .int x2_6), (3, .int x3_6), (4, .int x4_6), (6, .int x6_54), (9, .int x9_54)]) hx hb dX12_waits_153 hl (by decide) rfl (fun ls hl => ?_)
              obtain ⟨x9_55, e_x9_55, hZ⟩ := jx_l_some hZ
              refine lv_iinc (v := x9_55) (lv' := [(9, .int x9_55), (7, .long s0_54), (0, .ref (q 0)), (1, .int x1_6), (2, .int x2_6), (3, .int x3_6), (4, .int x4_6), (6, .int x6_54)]) hx hb dX12_waits_155 hl (k := 7) rfl (by rw [e_x9_55]; rfl) (by decide) rfl (fun ls hl => ?_)
              refine lv_goto (tgt := 89) hx hb dX12_waits_158 (by decide) ?_
              have ho := Option.some.inj hZ
              subst ho
              exact ih_20 x6_54 s0_54 x9_55 S_54 _ _ hk_20 hP hD hS _ (lv_sub hl [2, 3, 4, 5, 6, 7, 1, 0] rfl)
            have j136i89 : ∀ (x7_52 : Int64) (x9_52 : Int32) (x10_52 : Int64) (s0_52 : Int32) (S_52 : St)  (o_20 : (Int32 × Int64 × Int32 × St) ⊕ ((Int32 × Int64 × St))) (hk_20 : jx_k (g_X12_waits_89 x1_6 x2_6 x3_6 x4_6) n_20 r_20 o_20) (H : Heap) (locs : List Loc) (hZ : f_X12_waits_136i89 x1_6 x2_6 x3_6 x4_6 x7_52 x9_52 x10_52 s0_52 S_52 = some o_20) (hP : va_P D vwCl (W_M q k S_52) H) (hD : va_D A (W_M q k S_52)) (hS : va_S A s.heap H locs) (ls : Array Slot) (hl : lv_has ls 12 [(0, .ref (q 0)), (1, .int x1_6), (2, .int x2_6), (3, .int x3_6), (4, .int x4_6), (7, .long x7_52), (9, .int x9_52), (10, .long x10_52)]), W p l e ({ frames := 5, cells := 0, slots := 0, locals := 121 } : Room) s m ([.ref (q 0), .int x1, .int x2, .int x3, .int x4] : List Value).toArray below meth c H locs 0 0 (MQ below (va_Qi (fun r u => (r, u) = Z) (fun u t => va_P D vwCl (W_M q k u) t.heap) A) ([.ref (q 0), .int x1, .int x2, .int x3, .int x4] : List Value).toArray s 0 0 A) (F0 m 136 ls [.int s0_52]) := by
              intro x7_52 x9_52 x10_52 s0_52 S_52  o_20 hk_20 H locs hZ hP hD hS ls hl
              unfold f_X12_waits_136i89 at hZ
              refine lv_istore (lv' := [(6, .int s0_52), (0, .ref (q 0)), (1, .int x1_6), (2, .int x2_6), (3, .int x3_6), (4, .int x4_6), (7, .long x7_52), (9, .int x9_52), (10, .long x10_52)]) hx hb dX12_waits_136 hl (by decide) rfl (fun ls hl => ?_)
              refine lv_lload hx hb dX12_waits_138 (lv_at hl 8 rfl) ?_
              refine lv_lload hx hb dX12_waits_140 (lv_at hl 6 rfl) ?_
              refine W.lcmp hx hb dX12_waits_142 ?_
              refine lv_if_le (tgt := 151) hx hb dX12_waits_143 (by decide) (fun c_53 => ?_) (fun c_53 => ?_)
              · have hZ := jx_i_pos c_53 hZ
                refine lv_lload hx hb dX12_waits_151 (lv_at hl 6 rfl) ?_
                exact j153i89 s0_52 x9_52 x7_52 S_52 _ hk_20 _ _ hZ hP hD hS _ (lv_sub hl [1, 2, 3, 4, 5, 0, 7] rfl)
              · have hZ := jx_i_neg c_53 hZ
                refine lv_lload hx hb dX12_waits_146 (lv_at hl 8 rfl) ?_
                refine lv_goto (tgt := 153) hx hb dX12_waits_148 (by decide) ?_
                exact j153i89 s0_52 x9_52 x10_52 S_52 _ hk_20 _ _ hZ hP hD hS _ (lv_sub hl [1, 2, 3, 4, 5, 0, 7] rfl)
            unfold b_X12_waits_89 at hZ
            refine lv_iload hx hb dX12_waits_89 (lv_at hl 7 rfl) ?_
            refine lv_iload_n hx hb dX12_waits_91 rfl (lv_at hl 3 rfl) ?_
            refine lv_bipush (v := (100 : Int32)) hx hb dX12_waits_92 (by decide) ?_
            obtain ⟨c_42, hZ⟩ := jx_d_some hZ
            refine lv_idiv hx hb dX12_waits_94 c_42 ?_
            refine lv_iload_n hx hb dX12_waits_95 rfl (lv_at hl 3 rfl) ?_
            refine lv_bipush (v := (100 : Int32)) hx hb dX12_waits_96 (by decide) ?_
            obtain ⟨c_43, hZ⟩ := jx_d_some hZ
            refine lv_irem hx hb dX12_waits_98 c_43 ?_
            refine lv_iadd hx hb dX12_waits_99 ?_
            refine lv_icmp_gt (tgt := 161) hx hb dX12_waits_100 (by decide) (fun c_44 => ?_) (fun c_44 => ?_)
            · have hZ := jx_i_pos c_44 hZ
              have ho := Option.some.inj hZ
              subst ho
              have hE := hza_20
              rw [← (show (x6_16, x7_17, S_19) = r_20 from hk_20)] at hE
              have hZ : f_X12_waits_161 x4_6 x6_16 x7_17 S_19 = some Z := hE
              exact j161 x4_6 x6_16 x7_17 S_19 _ _ hZ hP hD hS _ (lv_sub hl [4, 5, 6] rfl)
            · have hZ := jx_i_neg c_44 hZ
              refine lv_aload_n hx hb dX12_waits_103 rfl (lv_at hl 0 rfl) ?_
              refine lv_iload_n hx hb dX12_waits_104 rfl (lv_at hl 1 rfl) ?_
              refine lv_i2l (v := (Int32.toInt64 x1_6)) hx hb dX12_waits_105 rfl ?_
              refine lv_iload_n hx hb dX12_waits_106 rfl (lv_at hl 2 rfl) ?_
              refine lv_bipush (v := (10 : Int32)) hx hb dX12_waits_107 (by decide) ?_
              obtain ⟨c_46, hZ⟩ := jx_d_some hZ
              refine lv_idiv hx hb dX12_waits_109 c_46 ?_
              refine lv_iload_n hx hb dX12_waits_110 rfl (lv_at hl 2 rfl) ?_
              refine lv_bipush (v := (10 : Int32)) hx hb dX12_waits_111 (by decide) ?_
              obtain ⟨c_47, hZ⟩ := jx_d_some hZ
              refine lv_irem hx hb dX12_waits_113 c_47 ?_
              refine lv_iload hx hb dX12_waits_114 (lv_at hl 7 rfl) ?_
              obtain ⟨r_50, S_48, hc_49, hZ⟩ := jx_b2_some hZ
              refine call_Vl SM_ok sameM ⟨hx, hb, hml, hown, hts⟩ (c_X12_changedTo l D q k (Int32.toInt64 x1_6) (x2_6 / (10 : Int32)) (x2_6 - x2_6 / (10 : Int32) * (10 : Int32)) x9_18 S_19 _ (r_50, S_48)  hc_49) (cwV 4 hts gX12_waits_X12_changedTo rfl rfl rfl hd_X12_changedTo ⟨Nat.le_of_ble_eq_true rfl, Nat.le_of_ble_eq_true rfl⟩) hK hP hD hS hA hsp (va_recv hK hP (ci := 12) (q0 := 0) rfl wM_0) (As := [.long (Int32.toInt64 x1_6), .int (x2_6 / (10 : Int32)), .int (x2_6 - x2_6 / (10 : Int32) * (10 : Int32)), .int x9_18]) rfl hl.1 rfl (Nat.le_of_ble_eq_true rfl) dX12_waits_116 ⟨Nat.zero_le _, Nat.zero_le _⟩ (fun H locs hP hD hS => ?_)
              refine lv_lstore (lv' := [(10, .long r_50), (0, .ref (q 0)), (1, .int x1_6), (2, .int x2_6), (3, .int x3_6), (4, .int x4_6), (6, .int x6_16), (7, .long x7_17), (9, .int x9_18)]) hx hb dX12_waits_119 hl (by decide) rfl (fun ls hl => ?_)
              refine lv_lload hx hb dX12_waits_121 (lv_at hl 0 rfl) ?_
              refine lv_lload hx hb dX12_waits_123 (lv_at hl 7 rfl) ?_
              refine W.lcmp hx hb dX12_waits_125 ?_
              refine lv_if_le (tgt := 134) hx hb dX12_waits_126 (by decide) (fun c_51 => ?_) (fun c_51 => ?_)
              · have hZ := jx_i_pos c_51 hZ
                refine lv_iload hx hb dX12_waits_134 (lv_at hl 6 rfl) ?_
                exact j136i89 x7_17 x9_18 r_50 x6_16 S_48 _ hk_20 _ _ hZ hP hD hS _ (lv_sub hl [1, 2, 3, 4, 5, 7, 8, 0] rfl)
              · have hZ := jx_i_neg c_51 hZ
                refine lv_iload hx hb dX12_waits_129 (lv_at hl 8 rfl) ?_
                refine lv_goto (tgt := 136) hx hb dX12_waits_131 (by decide) ?_
                exact j136i89 x7_17 x9_18 r_50 x9_18 S_48 _ hk_20 _ _ hZ hP hD hS _ (lv_sub hl [1, 2, 3, 4, 5, 7, 8, 0] rfl)
        exact l_20 FU x6_13 (-1 : Int64) x9_15 S_8 _ _ hw hP hD hS _ (lv_sub hl [4, 5, 6, 7, 8, 2, 1, 0] rfl)
      · have hZ := jx_i_pos c_11 hZ
        refine lv_iconst (v := (-1 : Int32)) hx hb dX12_waits_70 (by decide) ?_
        exact leave_i hx hb hr hlocks hP hS hZ dX12_waits_71
  have j52 : ∀ (x1_5 : Int32) (x2_5 : Int32) (x3_5 : Int32) (x4_5 : Int32) (S_5 : St)  (H : Heap) (locs : List Loc) (hZ : f_X12_waits_52 x1_5 x2_5 x3_5 x4_5 S_5 = some Z) (hP : va_P D vwCl (W_M q k S_5) H) (hD : va_D A (W_M q k S_5)) (hS : va_S A s.heap H locs) (ls : Array Slot) (hl : lv_has ls 12 [(0, .ref (q 0)), (1, .int x1_5), (2, .int x2_5), (3, .int x3_5), (4, .int x4_5)]), W p l e ({ frames := 5, cells := 0, slots := 0, locals := 121 } : Room) s m ([.ref (q 0), .int x1, .int x2, .int x3, .int x4] : List Value).toArray below meth c H locs 0 0 (MQ below (va_Qi (fun r u => (r, u) = Z) (fun u t => va_P D vwCl (W_M q k u) t.heap) A) ([.ref (q 0), .int x1, .int x2, .int x3, .int x4] : List Value).toArray s 0 0 A) (F0 m 52 ls []) := by
    intro x1_5 x2_5 x3_5 x4_5 S_5   H locs hZ hP hD hS ls hl
    unfold f_X12_waits_52 at hZ
    refine lv_iconst (v := (0 : Int32)) hx hb dX12_waits_52 (by decide) ?_
    exact j53 x1_5 x2_5 x3_5 x4_5 (0 : Int32) S_5 _ _ hZ hP hD hS _ (lv_sub hl [0, 1, 2, 3, 4] rfl)
  unfold f_X12_waits at hZ
  refine lv_iload_n hx hb dX12_waits_0 rfl (lv_at hl 1 rfl) ?_
  obtain ⟨r_3, S_1, hc_2, hZ⟩ := jx_b2_some hZ
  refine call_Si SM_ok sameM ⟨hx, hb, hml, hown, hts⟩ (c_X12_isSum l D q k x1 S _ (r_3, S_1)  hc_2) (va_cwS 1 hts gX12_waits_X12_isSum rfl rfl rfl hd_X12_isSum ⟨Nat.le_of_ble_eq_true rfl, Nat.le_of_ble_eq_true rfl⟩) hK hP hD hS hA hsp (As := [.int x1]) rfl hl.1 rfl (Nat.le_of_ble_eq_true rfl) dX12_waits_1 ⟨Nat.zero_le _, Nat.zero_le _⟩ (fun H locs hP hD hS => ?_)
  refine lv_if_eq (tgt := 52) hx hb dX12_waits_4 (by decide) (fun c_4 => ?_) (fun c_4 => ?_)
  · have hZ := jx_i_pos c_4 hZ
    exact j52 x1 x2 x3 x4 S_1 _ _ hZ hP hD hS _ (lv_sub hl [0, 1, 2, 3, 4] rfl)
  · have hZ := jx_i_neg c_4 hZ
    refine lv_iload_n hx hb dX12_waits_7 rfl (lv_at hl 2 rfl) ?_
    obtain ⟨r_64, S_62, hc_63, hZ⟩ := jx_b2_some hZ
    refine call_Si SM_ok sameM ⟨hx, hb, hml, hown, hts⟩ (c_X12_isPair l D q k x2 S_1 _ (r_64, S_62)  hc_63) (va_cwS 1 hts gX12_waits_X12_isPair rfl rfl rfl hd_X12_isPair ⟨Nat.le_of_ble_eq_true rfl, Nat.le_of_ble_eq_true rfl⟩) hK hP hD hS hA hsp (As := [.int x2]) rfl hl.1 rfl (Nat.le_of_ble_eq_true rfl) dX12_waits_8 ⟨Nat.zero_le _, Nat.zero_le _⟩ (fun H locs hP hD hS => ?_)
    refine lv_if_eq (tgt := 52) hx hb dX12_waits_11 (by decide) (fun c_65 => ?_) (fun c_65 => ?_)
    · have hZ := jx_i_pos c_65 hZ
      exact j52 x1 x2 x3 x4 S_62 _ _ hZ hP hD hS _ (lv_sub hl [0, 1, 2, 3, 4] rfl)
    · have hZ := jx_i_neg c_65 hZ
      refine lv_iload_n hx hb dX12_waits_14 rfl (lv_at hl 2 rfl) ?_
      refine lv_bipush (v := (10 : Int32)) hx hb dX12_waits_15 (by decide) ?_
      obtain ⟨c_67, hZ⟩ := jx_d_some hZ
      refine lv_idiv hx hb dX12_waits_17 c_67 ?_
      refine lv_iload_n hx hb dX12_waits_18 rfl (lv_at hl 2 rfl) ?_
      refine lv_bipush (v := (10 : Int32)) hx hb dX12_waits_19 (by decide) ?_
      obtain ⟨c_68, hZ⟩ := jx_d_some hZ
      refine lv_irem hx hb dX12_waits_21 c_68 ?_
      refine lv_icmp_eq (tgt := 52) hx hb dX12_waits_22 (by decide) (fun c_69 => ?_) (fun c_69 => ?_)
      · have hZ := jx_i_pos c_69 hZ
        exact j52 x1 x2 x3 x4 S_62 _ _ hZ hP hD hS _ (lv_sub hl [0, 1, 2, 3, 4] rfl)
      · have hZ := jx_i_neg c_69 hZ
        refine lv_iload_n hx hb dX12_waits_25 rfl (lv_at hl 3 rfl) ?_
        refine lv_if_lt (tgt := 52) hx hb dX12_waits_26 (by decide) (fun c_71 => ?_) (fun c_71 => ?_)
        · have hZ := jx_i_pos c_71 hZ
          exact j52 x1 x2 x3 x4 S_62 _ _ hZ hP hD hS _ (lv_sub hl [0, 1, 2, 3, 4] rfl)
        · have hZ := jx_i_neg c_71 hZ
          refine lv_iload_n hx hb dX12_waits_29 rfl (lv_at hl 3 rfl) ?_
          refine lv_bipush (v := (100 : Int32)) hx hb dX12_waits_30 (by decide) ?_
          obtain ⟨c_73, hZ⟩ := jx_d_some hZ
          refine lv_idiv hx hb dX12_waits_32 c_73 ?_
          obtain ⟨r_76, S_74, hc_75, hZ⟩ := jx_b2_some hZ
          refine call_Si SM_ok sameM ⟨hx, hb, hml, hown, hts⟩ (c_X12_isDay l D q k (x3 / (100 : Int32)) S_62 _ (r_76, S_74)  hc_75) (va_cwS 1 hts gX12_waits_X12_isDay rfl rfl rfl hd_X12_isDay ⟨Nat.le_of_ble_eq_true rfl, Nat.le_of_ble_eq_true rfl⟩) hK hP hD hS hA hsp (As := [.int (x3 / (100 : Int32))]) rfl hl.1 rfl (Nat.le_of_ble_eq_true rfl) dX12_waits_33 ⟨Nat.zero_le _, Nat.zero_le _⟩ (fun H locs hP hD hS => ?_)
          refine lv_if_eq (tgt := 52) hx hb dX12_waits_36 (by decide) (fun c_77 => ?_) (fun c_77 => ?_)
          · have hZ := jx_i_pos c_77 hZ
            exact j52 x1 x2 x3 x4 S_74 _ _ hZ hP hD hS _ (lv_sub hl [0, 1, 2, 3, 4] rfl)
          · have hZ := jx_i_neg c_77 hZ
            refine lv_iload_n hx hb dX12_waits_39 rfl (lv_at hl 3 rfl) ?_
            refine lv_bipush (v := (100 : Int32)) hx hb dX12_waits_40 (by decide) ?_
            obtain ⟨c_79, hZ⟩ := jx_d_some hZ
            refine lv_irem hx hb dX12_waits_42 c_79 ?_
            refine lv_bipush (v := (60 : Int32)) hx hb dX12_waits_43 (by decide) ?_
            refine lv_icmp_gt (tgt := 52) hx hb dX12_waits_45 (by decide) (fun c_80 => ?_) (fun c_80 => ?_)
            · have hZ := jx_i_pos c_80 hZ
              exact j52 x1 x2 x3 x4 S_74 _ _ hZ hP hD hS _ (lv_sub hl [0, 1, 2, 3, 4] rfl)
            · have hZ := jx_i_neg c_80 hZ
              refine lv_iconst (v := (1 : Int32)) hx hb dX12_waits_48 (by decide) ?_
              refine lv_goto (tgt := 53) hx hb dX12_waits_49 (by decide) ?_
              exact j53 x1 x2 x3 x4 (1 : Int32) S_74 _ _ hZ hP hD hS _ (lv_sub hl [0, 1, 2, 3, 4] rfl)
-- X12_isSwap
def f_X12_isSwap (x1 : Int32) (x2 : Int32) (x3 : Int32) (x4 : Int32) (x5 : Int32) (x6 : Int32) (x7 : Int32) (S : St) : Option (Int32 × St) :=
  (if x4 = x6 then some ((0 : Int32), S) else jx_a x4 8 ((if (S.1 5 (Int32.toNatClampNeg x4)) < x5 then some ((0 : Int32), S) else jx_a x6 8 ((if ((S.1 5 (Int32.toNatClampNeg x6)) + x7) ≤ (6 : Int32) then jx_a x4 8 (jx_a x4 8 (jx_a x6 8 (jx_b2 (f_X12_rateOf (S.1 1 (Int32.toNatClampNeg x4)) (S.1 1 (Int32.toNatClampNeg x6)) x3 S) (fun r_11 S_9 => jx_d (1000 : Int32) (jx_a x6 8 ((if (x7 * (S_9.1 2 (Int32.toNatClampNeg x6))) ≤ (((x5 * (S.1 2 (Int32.toNatClampNeg x4))) * r_11) / (1000 : Int32)) then jx_a x4 8 (jx_a x4 8 (jx_l (u1 S_9 5 (Int32.toNatClampNeg x4) ((S_9.1 5 (Int32.toNatClampNeg x4)) - x5)) (fun S_17 => jx_a x6 8 (jx_a x6 8 (jx_l (u1 S_17 5 (Int32.toNatClampNeg x6) ((S_17.1 5 (Int32.toNatClampNeg x6)) + x7)) (fun S_20 => jx_b (f_X12_pays x1 S_20) (fun S_21 => jx_a x4 8 (jx_a x4 8 (jx_l (u1 S_21 5 (Int32.toNatClampNeg x4) ((S_21.1 5 (Int32.toNatClampNeg x4)) + x5)) (fun S_25 => jx_a x6 8 (jx_a x6 8 (jx_l (u1 S_25 5 (Int32.toNatClampNeg x6) ((S_25.1 5 (Int32.toNatClampNeg x6)) - x7)) (fun S_28 => jx_b2 (f_X12_canPay x2 S_28) (fun r_31 S_29 => jx_z r_31 (some (r_31, S_29)))))))))))))))) else some ((0 : Int32), S_9)))))))) else some ((0 : Int32), S))))))
set_option maxHeartbeats 4000000 in
set_option maxRecDepth 100000 in
theorem c_X12_isSwap (l : Launch) (D : va_G) (q : Nat → Nat) (k : CI) (x1 : Int32) (x2 : Int32) (x3 : Int32) (x4 : Int32) (x5 : Int32) (x6 : Int32) (x7 : Int32) (S : St) (sz : Nat) (Z : Int32 × St) (hZ : f_X12_isSwap x1 x2 x3 x4 x5 x6 x7 S = some Z) : MetI W_M SM l yX12_isSwap wsX12_isSwap { frames := 4, cells := 0, slots := 0, locals := 94 } [.ref (q 0), .int x1, .int x2, .int x3, .int x4, .int x5, .int x6, .int x7] D q k S sz Z := by
  refine enter (cc := cX12_isSwap) (maxL := 8) (ret := some .boolean) (by decide) rfl (Nat.le_of_ble_eq_true rfl) ?_
  intro p e s m below meth c A ls hx hb hr hts hown hlocks hml hP hK hD hA hS hsp hAe hl
  have hown : s.vm.findClass RX12 = some m.cls := hown
  have hl : lv_has ls 8 [(0, .ref (q 0)), (1, .int x1), (2, .int x2), (3, .int x3), (4, .int x4), (5, .int x5), (6, .int x6), (7, .int x7)] := hl
  have in12 : ∀ w ∈ wsX120, w ∈ wsX12_isSwap := fun _ h => (List.mem_cons_of_mem _ (List.mem_append_right _ h))
  unfold f_X12_isSwap at hZ
  refine lv_iload hx hb dX12_isSwap_0 (lv_at hl 4 rfl) ?_
  refine lv_iload hx hb dX12_isSwap_2 (lv_at hl 6 rfl) ?_
  refine lv_icmp_eq (tgt := 34) hx hb dX12_isSwap_4 (by decide) (fun c_1 => ?_) (fun c_1 => ?_)
  · have hZ := jx_i_pos c_1 hZ
    refine lv_iconst (v := (0 : Int32)) hx hb dX12_isSwap_34 (by decide) ?_
    exact leave_z hx hb hr hlocks rfl hP hS hZ dX12_isSwap_35
  · have hZ := jx_i_neg c_1 hZ
    refine lv_aload_n hx hb dX12_isSwap_7 rfl (lv_at hl 0 rfl) ?_
    refine gf_12_purse hx hb hts in12 hown hK hP (hts (.fieldLink RX12 22 "CoinsOfLastModel" "purse" "[I") (List.mem_of_getElem? (i := 1) rfl)) dX12_isSwap_8 ?_
    refine lv_iload hx hb dX12_isSwap_11 (lv_at hl 4 rfl) ?_
    obtain ⟨c_2, hZ⟩ := jx_a_some hZ
    refine M_iald hx hb hK hP wM_5 c_2 dX12_isSwap_13 ?_
    refine lv_iload hx hb dX12_isSwap_14 (lv_at hl 5 rfl) ?_
    refine lv_icmp_lt (tgt := 34) hx hb dX12_isSwap_16 (by decide) (fun c_3 => ?_) (fun c_3 => ?_)
    · have hZ := jx_i_pos c_3 hZ
      refine lv_iconst (v := (0 : Int32)) hx hb dX12_isSwap_34 (by decide) ?_
      exact leave_z hx hb hr hlocks rfl hP hS hZ dX12_isSwap_35
    · have hZ := jx_i_neg c_3 hZ
      refine lv_aload_n hx hb dX12_isSwap_19 rfl (lv_at hl 0 rfl) ?_
      refine gf_12_purse hx hb hts in12 hown hK hP (hts (.fieldLink RX12 22 "CoinsOfLastModel" "purse" "[I") (List.mem_of_getElem? (i := 1) rfl)) dX12_isSwap_20 ?_
      refine lv_iload hx hb dX12_isSwap_23 (lv_at hl 6 rfl) ?_
      obtain ⟨c_4, hZ⟩ := jx_a_some hZ
      refine M_iald hx hb hK hP wM_5 c_4 dX12_isSwap_25 ?_
      refine lv_iload hx hb dX12_isSwap_26 (lv_at hl 7 rfl) ?_
      refine lv_iadd hx hb dX12_isSwap_28 ?_
      refine lv_bipush (v := (6 : Int32)) hx hb dX12_isSwap_29 (by decide) ?_
      refine lv_icmp_le (tgt := 36) hx hb dX12_isSwap_31 (by decide) (fun c_5 => ?_) (fun c_5 => ?_)
      · have hZ := jx_i_pos c_5 hZ
        refine lv_iload hx hb dX12_isSwap_36 (lv_at hl 5 rfl) ?_
        refine lv_aload_n hx hb dX12_isSwap_38 rfl (lv_at hl 0 rfl) ?_
        refine gf_12_worth hx hb hts in12 hown hK hP (hts (.fieldLink RX12 13 "CoinsOfLastModel" "worth" "[I") (List.mem_of_getElem? (i := 2) rfl)) dX12_isSwap_39 ?_
        refine lv_iload hx hb dX12_isSwap_42 (lv_at hl 4 rfl) ?_
        obtain ⟨c_6, hZ⟩ := jx_a_some hZ
        refine M_iald hx hb hK hP wM_2 c_6 dX12_isSwap_44 ?_
        refine lv_imul hx hb dX12_isSwap_45 ?_
        refine lv_aload_n hx hb dX12_isSwap_46 rfl (lv_at hl 0 rfl) ?_
        refine lv_aload_n hx hb dX12_isSwap_47 rfl (lv_at hl 0 rfl) ?_
        refine gf_12_landOf hx hb hts in12 hown hK hP (hts (.fieldLink RX12 7 "CoinsOfLastModel" "landOf" "[I") (List.mem_of_getElem? (i := 3) rfl)) dX12_isSwap_48 ?_
        refine lv_iload hx hb dX12_isSwap_51 (lv_at hl 4 rfl) ?_
        obtain ⟨c_7, hZ⟩ := jx_a_some hZ
        refine M_iald hx hb hK hP wM_1 c_7 dX12_isSwap_53 ?_
        refine lv_aload_n hx hb dX12_isSwap_54 rfl (lv_at hl 0 rfl) ?_
        refine gf_12_landOf hx hb hts in12 hown hK hP (hts (.fieldLink RX12 7 "CoinsOfLastModel" "landOf" "[I") (List.mem_of_getElem? (i := 3) rfl)) dX12_isSwap_55 ?_
        refine lv_iload hx hb dX12_isSwap_58 (lv_at hl 6 rfl) ?_
        obtain ⟨c_8, hZ⟩ := jx_a_some hZ
        refine M_iald hx hb hK hP wM_1 c_8 dX12_isSwap_60 ?_
        refine lv_iload_n hx hb dX12_isSwap_61 rfl (lv_at hl 3 rfl) ?_
        obtain ⟨r_11, S_9, hc_10, hZ⟩ := jx_b2_some hZ
        refine call_Vi SM_ok sameM ⟨hx, hb, hml, hown, hts⟩ (c_X12_rateOf l D q k (S.1 1 (Int32.toNatClampNeg x4)) (S.1 1 (Int32.toNatClampNeg x6)) x3 S _ (r_11, S_9)  hc_10) (cwV 3 hts gX12_isSwap_X12_rateOf rfl rfl rfl hd_X12_rateOf ⟨Nat.le_of_ble_eq_true rfl, Nat.le_of_ble_eq_true rfl⟩) hK hP hD hS hA hsp (va_recv hK hP (ci := 12) (q0 := 0) rfl wM_0) (As := [.int (S.1 1 (Int32.toNatClampNeg x4)), .int (S.1 1 (Int32.toNatClampNeg x6)), .int x3]) rfl hl.1 rfl (Nat.le_of_ble_eq_true rfl) dX12_isSwap_62 ⟨Nat.zero_le _, Nat.zero_le _⟩ (fun H locs hP hD hS => ?_)
        refine lv_imul hx hb dX12_isSwap_65 ?_
        refine lv_sipush (v := (1000 : Int32)) hx hb dX12_isSwap_66 (by decide) ?_
        obtain ⟨c_12, hZ⟩ := jx_d_some hZ
        refine lv_idiv hx hb dX12_isSwap_69 c_12 ?_
        refine lv_iload hx hb dX12_isSwap_70 (lv_at hl 7 rfl) ?_
        refine lv_aload_n hx hb dX12_isSwap_72 rfl (lv_at hl 0 rfl) ?_
        refine gf_12_worth hx hb hts in12 hown hK hP (hts (.fieldLink RX12 13 "CoinsOfLastModel" "worth" "[I") (List.mem_of_getElem? (i := 2) rfl)) dX12_isSwap_73 ?_
        refine lv_iload hx hb dX12_isSwap_76 (lv_at hl 6 rfl) ?_
        obtain ⟨c_13, hZ⟩ := jx_a_some hZ
        refine M_iald hx hb hK hP wM_2 c_13 dX12_isSwap_78 ?_
        refine lv_imul hx hb dX12_isSwap_79 ?_
        refine lv_icmp_ge (tgt := 85) hx hb dX12_isSwap_80 (by decide) (fun c_14 => ?_) (fun c_14 => ?_)
        · have hZ := jx_i_pos c_14 hZ
          refine lv_aload_n hx hb dX12_isSwap_85 rfl (lv_at hl 0 rfl) ?_
          refine gf_12_purse hx hb hts in12 hown hK hP (hts (.fieldLink RX12 22 "CoinsOfLastModel" "purse" "[I") (List.mem_of_getElem? (i := 1) rfl)) dX12_isSwap_86 ?_
          refine lv_iload hx hb dX12_isSwap_89 (lv_at hl 4 rfl) ?_
          refine lv_dup2_11 hx hb dX12_isSwap_91 rfl rfl ?_
          obtain ⟨c_15, hZ⟩ := jx_a_some hZ
          refine M_iald hx hb hK hP wM_5 c_15 dX12_isSwap_92 ?_
          refine lv_iload hx hb dX12_isSwap_93 (lv_at hl 5 rfl) ?_
          refine lv_isub hx hb dX12_isSwap_95 ?_
          obtain ⟨c_16, hZ⟩ := jx_a_some hZ
          obtain ⟨S_17, e_S_17, hZ⟩ := jx_l_some hZ
          refine M_iast hx hb hK hP hD hS wM_5 (fun _ => wMs_5) c_16 e_S_17 dX12_isSwap_96 (fun H locs hP hD hS => ?_)
          refine lv_aload_n hx hb dX12_isSwap_97 rfl (lv_at hl 0 rfl) ?_
          refine gf_12_purse hx hb hts in12 hown hK hP (hts (.fieldLink RX12 22 "CoinsOfLastModel" "purse" "[I") (List.mem_of_getElem? (i := 1) rfl)) dX12_isSwap_98 ?_
          refine lv_iload hx hb dX12_isSwap_101 (lv_at hl 6 rfl) ?_
          refine lv_dup2_11 hx hb dX12_isSwap_103 rfl rfl ?_
          obtain ⟨c_18, hZ⟩ := jx_a_some hZ
          refine M_iald hx hb hK hP wM_5 c_18 dX12_isSwap_104 ?_
          refine lv_iload hx hb dX12_isSwap_105 (lv_at hl 7 rfl) ?_
          refine lv_iadd hx hb dX12_isSwap_107 ?_
          obtain ⟨c_19, hZ⟩ := jx_a_some hZ
          obtain ⟨S_20, e_S_20, hZ⟩ := jx_l_some hZ
          refine M_iast hx hb hK hP hD hS wM_5 (fun _ => wMs_5) c_19 e_S_20 dX12_isSwap_108 (fun H locs hP hD hS => ?_)
          refine lv_aload_n hx hb dX12_isSwap_109 rfl (lv_at hl 0 rfl) ?_
          refine lv_iload_n hx hb dX12_isSwap_110 rfl (lv_at hl 1 rfl) ?_
          obtain ⟨S_21, hc_22, hZ⟩ := jx_b_some hZ
          refine call_Vv SM_ok sameM ⟨hx, hb, hml, hown, hts⟩ (c_X12_pays l D q k x1 S_20 _ S_21  hc_22) (cwV 1 hts gX12_isSwap_X12_pays rfl rfl rfl hd_X12_pays ⟨Nat.le_of_ble_eq_true rfl, Nat.le_of_ble_eq_true rfl⟩) hK hP hD hS hA hsp (va_recv hK hP (ci := 12) (q0 := 0) rfl wM_0) (As := [.int x1]) rfl hl.1 rfl (Nat.le_of_ble_eq_true rfl) dX12_isSwap_111 ⟨Nat.zero_le _, Nat.zero_le _⟩ (fun H locs hP hD hS => ?_)
          refine lv_aload_n hx hb dX12_isSwap_114 rfl (lv_at hl 0 rfl) ?_
          refine gf_12_purse hx hb hts in12 hown hK hP (hts (.fieldLink RX12 22 "CoinsOfLastModel" "purse" "[I") (List.mem_of_getElem? (i := 1) rfl)) dX12_isSwap_115 ?_
          refine lv_iload hx hb dX12_isSwap_118 (lv_at hl 4 rfl) ?_
          refine lv_dup2_11 hx hb dX12_isSwap_120 rfl rfl ?_
          obtain ⟨c_23, hZ⟩ := jx_a_some hZ
          refine M_iald hx hb hK hP wM_5 c_23 dX12_isSwap_121 ?_
          refine lv_iload hx hb dX12_isSwap_122 (lv_at hl 5 rfl) ?_
          refine lv_iadd hx hb dX12_isSwap_124 ?_
          obtain ⟨c_24, hZ⟩ := jx_a_some hZ
          obtain ⟨S_25, e_S_25, hZ⟩ := jx_l_some hZ
          refine M_iast hx hb hK hP hD hS wM_5 (fun _ => wMs_5) c_24 e_S_25 dX12_isSwap_125 (fun H locs hP hD hS => ?_)
          refine lv_aload_n hx hb dX12_isSwap_126 rfl (lv_at hl 0 rfl) ?_
          refine gf_12_purse hx hb hts in12 hown hK hP (hts (.fieldLink RX12 22 "CoinsOfLastModel" "purse" "[I") (List.mem_of_getElem? (i := 1) rfl)) dX12_isSwap_127 ?_
          refine lv_iload hx hb dX12_isSwap_130 (lv_at hl 6 rfl) ?_
          refine lv_dup2_11 hx hb dX12_isSwap_132 rfl rfl ?_
          obtain ⟨c_26, hZ⟩ := jx_a_some hZ
          refine M_iald hx hb hK hP wM_5 c_26 dX12_isSwap_133 ?_
          refine lv_iload hx hb dX12_isSwap_134 (lv_at hl 7 rfl) ?_
          refine lv_isub hx hb dX12_isSwap_136 ?_
          obtain ⟨c_27, hZ⟩ := jx_a_some hZ
          obtain ⟨S_28, e_S_28, hZ⟩ := jx_l_some hZ
          refine M_iast hx hb hK hP hD hS wM_5 (fun _ => wMs_5) c_27 e_S_28 dX12_isSwap_137 (fun H locs hP hD hS => ?_)
          refine lv_aload_n hx hb dX12_isSwap_138 rfl (lv_at hl 0 rfl) ?_
          refine lv_iload_n hx hb dX12_isSwap_139 rfl (lv_at hl 2 rfl) ?_
          obtain ⟨r_31, S_29, hc_30, hZ⟩ := jx_b2_some hZ
          refine call_Vi SM_ok sameM ⟨hx, hb, hml, hown, hts⟩ (c_X12_canPay l D q k x2 S_28 _ (r_31, S_29)  hc_30) (cwV 1 hts gX12_isSwap_X12_canPay rfl rfl rfl hd_X12_canPay ⟨Nat.le_of_ble_eq_true rfl, Nat.le_of_ble_eq_true rfl⟩) hK hP hD hS hA hsp (va_recv hK hP (ci := 12) (q0 := 0) rfl wM_0) (As := [.int x2]) rfl hl.1 rfl (Nat.le_of_ble_eq_true rfl) dX12_isSwap_140 ⟨Nat.zero_le _, Nat.zero_le _⟩ (fun H locs hP hD hS => ?_)
          obtain ⟨hnz, hZ⟩ := jx_z_some hZ
          exact leave_z hx hb hr hlocks hnz hP hS hZ dX12_isSwap_143
        · have hZ := jx_i_neg c_14 hZ
          refine lv_iconst (v := (0 : Int32)) hx hb dX12_isSwap_83 (by decide) ?_
          exact leave_z hx hb hr hlocks rfl hP hS hZ dX12_isSwap_84
      · have hZ := jx_i_neg c_5 hZ
        refine lv_iconst (v := (0 : Int32)) hx hb dX12_isSwap_34 (by decide) ?_
        exact leave_z hx hb hr hlocks rfl hP hS hZ dX12_isSwap_35
theorem hd_X12_isSwap : yX12_isSwap.cls = RX12 ∧ yX12_isSwap.cls ≠ "java/lang/invoke/MethodHandle" ∧ yX12_isSwap.cls ≠ "java/lang/invoke/VarHandle" ∧ (parseMethodDescriptor yX12_isSwap.desc).map (fun d => d.parameters.length) = some 7 := by decide +kernel
-- X12_swap
def f_X12_swap_188 (S_20 : St) : Option (Int32 × St) :=
  some ((-2 : Int32), S_20)
def f_X12_swap_136 (x3_22 : Int32) (x4_22 : Int32) (x5_22 : Int32) (S_22 : St) : Option (Int32 × St) :=
  jx_d (S_22.1 0 0) (jx_d (S_22.1 0 0) (some (((((((1000 : Int32) * (x4_22 / (S_22.1 0 0))) + ((100 : Int32) * x5_22)) + ((10 : Int32) * (x4_22 - x4_22 / (S_22.1 0 0) * (S_22.1 0 0)))) + x3_22) - x5_22), S_22)))
def f_X12_swap_182i42 (x1 : Int32) (x2 : Int32) (x3_31 : Int32) (S_31 : St) : Option ((Int32 × St) ⊕ ((St) ⊕ ((Int32 × Int32 × Int32 × St)))) :=
  jx_l (x3_31 + 1) (fun x3_32 => some (.inl (x3_32, S_31)))
def f_X12_swap_176i51 (x1 : Int32) (x2 : Int32) (x3 : Int32) (x4_40 : Int32) (S_40 : St) : Option ((Int32 × St) ⊕ ((St) ⊕ ((Int32 × Int32 × St)))) :=
  jx_l (x4_40 + 1) (fun x4_41 => some (.inl (x4_41, S_40)))
def f_X12_swap_129i68 (x1 : Int32) (x2 : Int32) (x3 : Int32) (x4 : Int32) (x5_51 : Int32) (s0_51 : Int32) (S_51 : St) : Option ((Int32 × St) ⊕ ((St) ⊕ ((Int32 × St)))) :=
  (if s0_51 = 0 then jx_l (x5_51 + 1) (fun x5_53 => some (.inl (x5_53, S_51))) else some (.inr (.inr (x5_51, S_51))))
def f_X12_swap_128i68 (x1 : Int32) (x2 : Int32) (x3 : Int32) (x4 : Int32) (x5_50 : Int32) (S_50 : St) : Option ((Int32 × St) ⊕ ((St) ⊕ ((Int32 × St)))) :=
  f_X12_swap_129i68 x1 x2 x3 x4 x5_50 (0 : Int32) S_50
def b_X12_swap_68 (x1 : Int32) (x2 : Int32) (x3 : Int32) (x4 : Int32) (x5 : Int32) (S : St) : Option ((Int32 × St) ⊕ ((St) ⊕ ((Int32 × St)))) :=
  (if (3 : Int32) < x5 then some (.inr (.inl S)) else jx_b2 (f_X12_in (x3 - x5) (1 : Int32) (3 : Int32) S) (fun r_48 S_46 => (if r_48 = 0 then f_X12_swap_128i68 x1 x2 x3 x4 x5 S_46 else jx_d (10000 : Int32) (jx_d (10000 : Int32) (jx_d (S_46.1 0 0) (jx_d (S_46.1 0 0) (jx_b2 (f_X12_isSwap (x1 / (10000 : Int32)) (x1 - x1 / (10000 : Int32) * (10000 : Int32)) x2 (x4 / (S_46.1 0 0)) x5 (x4 - x4 / (S_46.1 0 0) * (S_46.1 0 0)) (x3 - x5) S_46) (fun r_63 S_61 => (if r_63 = 0 then f_X12_swap_128i68 x1 x2 x3 x4 x5 S_61 else f_X12_swap_129i68 x1 x2 x3 x4 x5 (1 : Int32) S_61)))))))))
def g_X12_swap_68 (x1 : Int32) (x2 : Int32) (x3 : Int32) (x4 : Int32) : (Int32 × St) → Option ((Int32 × St) ⊕ ((St) ⊕ ((Int32 × St)))) := fun z => b_X12_swap_68 x1 x2 x3 x4 z.1 z.2
def b_X12_swap_51 (x1 : Int32) (x2 : Int32) (x3 : Int32) (x4 : Int32) (S : St) : Option ((Int32 × St) ⊕ ((St) ⊕ ((Int32 × Int32 × St)))) :=
  (if ((S.1 0 0) * (S.1 0 0)) ≤ x4 then some (.inr (.inl S)) else jx_b (jx_w (g_X12_swap_68 x1 x2 x3 x4) FU ((1 : Int32), S)) (fun z => Sum.elim (fun z => f_X12_swap_176i51 x1 x2 x3 x4 z) (fun z => some (.inr (.inr (x4, z.1, z.2)))) z))
def g_X12_swap_51 (x1 : Int32) (x2 : Int32) (x3 : Int32) : (Int32 × St) → Option ((Int32 × St) ⊕ ((St) ⊕ ((Int32 × Int32 × St)))) := fun z => b_X12_swap_51 x1 x2 x3 z.1 z.2
def b_X12_swap_42 (x1 : Int32) (x2 : Int32) (x3 : Int32) (S : St) : Option ((Int32 × St) ⊕ ((St) ⊕ ((Int32 × Int32 × Int32 × St)))) :=
  (if (6 : Int32) < x3 then some (.inr (.inl S)) else jx_b (jx_w (g_X12_swap_51 x1 x2 x3) FU ((0 : Int32), S)) (fun z => Sum.elim (fun z => f_X12_swap_182i42 x1 x2 x3 z) (fun z => some (.inr (.inr (x3, z.1, z.2.1, z.2.2)))) z))
def g_X12_swap_42 (x1 : Int32) (x2 : Int32) : (Int32 × St) → Option ((Int32 × St) ⊕ ((St) ⊕ ((Int32 × Int32 × Int32 × St)))) := fun z => b_X12_swap_42 x1 x2 z.1 z.2
def f_X12_swap (x1 : Int32) (x2 : Int32) (S : St) : Option (Int32 × St) :=
  jx_b2 (f_X12_isAmount x1 S) (fun r_3 S_1 => (if r_3 = 0 then some ((-1 : Int32), S_1) else jx_b2 (f_X12_isDay x2 S_1) (fun r_7 S_5 => (if r_7 = 0 then some ((-1 : Int32), S_5) else jx_d (10000 : Int32) (jx_b (f_X12_pays (x1 / (10000 : Int32)) S_5) (fun S_10 => jx_d (10000 : Int32) (jx_b2 (f_X12_canPay (x1 - x1 / (10000 : Int32) * (10000 : Int32)) S_10) (fun r_15 S_13 => (if r_15 = 0 then jx_b (jx_w (g_X12_swap_42 x1 x2) FU ((2 : Int32), S_13)) (fun z => Sum.elim (fun z => f_X12_swap_188 z) (fun z => f_X12_swap_136 z.1 z.2.1 z.2.2.1 z.2.2.2) z) else some ((-5 : Int32), S_13))))))))))
set_option maxHeartbeats 4000000 in
set_option maxRecDepth 100000 in
theorem c_X12_swap (l : Launch) (D : va_G) (q : Nat → Nat) (k : CI) (x1 : Int32) (x2 : Int32) (S : St) (sz : Nat) (Z : Int32 × St) (hZ : f_X12_swap x1 x2 S = some Z) : MetI W_M SM l yX12_swap wsX12_swap { frames := 5, cells := 0, slots := 0, locals := 121 } [.ref (q 0), .int x1, .int x2] D q k S sz Z := by
  refine enter (cc := cX12_swap) (maxL := 7) (ret := some .int) (by decide) rfl (Nat.le_of_ble_eq_true rfl) ?_
  intro p e s m below meth c A ls hx hb hr hts hown hlocks hml hP hK hD hA hS hsp hAe hl
  have hown : s.vm.findClass RX12 = some m.cls := hown
  have hl : lv_has ls 7 [(0, .ref (q 0)), (1, .int x1), (2, .int x2)] := hl
  have in12 : ∀ w ∈ wsX120, w ∈ wsX12_swap := fun _ h => (List.mem_cons_of_mem _ (List.mem_append_right _ h))
  have j188 : ∀ (S_20 : St)  (H : Heap) (locs : List Loc) (hZ : f_X12_swap_188 S_20 = some Z) (hP : va_P D vwCl (W_M q k S_20) H) (hD : va_D A (W_M q k S_20)) (hS : va_S A s.heap H locs) (ls : Array Slot) (hl : lv_has ls 7 []), W p l e ({ frames := 5, cells := 0, slots := 0, locals := 121 } : Room) s m ([.ref (q 0), .int x1, .int x2] : List Value).toArray below meth c H locs 0 0 (MQ below (va_Qi (fun r u => (r, u) = Z) (fun u t => va_P D vwCl (W_M q k u) t.heap) A) ([.ref (q 0), .int x1, .int x2] : List Value).toArray s 0 0 A) (F0 m 188 ls []) := by
    intro S_20   H locs hZ hP hD hS ls hl
    unfold f_X12_swap_188 at hZ
    refine lv_bipush (v := (-2 : Int32)) hx hb dX12_swap_188 (by decide) ?_
    exact leave_i hx hb hr hlocks hP hS hZ dX12_swap_190
  have j136 : ∀ (x3_22 : Int32) (x4_22 : Int32) (x5_22 : Int32) (S_22 : St)  (H : Heap) (locs : List Loc) (hZ : f_X12_swap_136 x3_22 x4_22 x5_22 S_22 = some Z) (hP : va_P D vwCl (W_M q k S_22) H) (hD : va_D A (W_M q k S_22)) (hS : va_S A s.heap H locs) (ls : Array Slot) (hl : lv_has ls 7 [(0, .ref (q 0)), (3, .int x3_22), (4, .int x4_22), (5, .int x5_22)]), W p l e ({ frames := 5, cells := 0, slots := 0, locals := 121 } : Room) s m ([.ref (q 0), .int x1, .int x2] : List Value).toArray below meth c H locs 0 0 (MQ below (va_Qi (fun r u => (r, u) = Z) (fun u t => va_P D vwCl (W_M q k u) t.heap) A) ([.ref (q 0), .int x1, .int x2] : List Value).toArray s 0 0 A) (F0 m 136 ls []) := by
    intro x3_22 x4_22 x5_22 S_22   H locs hZ hP hD hS ls hl
    unfold f_X12_swap_136 at hZ
    refine lv_sipush (v := (1000 : Int32)) hx hb dX12_swap_136 (by decide) ?_
    refine lv_iload hx hb dX12_swap_139 (lv_at hl 2 rfl) ?_
    refine lv_aload_n hx hb dX12_swap_141 rfl (lv_at hl 0 rfl) ?_
    refine gf_12_sorts hx hb hts in12 hown hK hP (hts (.fieldLink RX12 114 "CoinsOfLastModel" "sorts" "I") (List.mem_of_getElem? (i := 1) rfl)) dX12_swap_142 ?_
    obtain ⟨c_23, hZ⟩ := jx_d_some hZ
    refine lv_idiv hx hb dX12_swap_145 c_23 ?_
    refine lv_imul hx hb dX12_swap_146 ?_
    refine lv_bipush (v := (100 : Int32)) hx hb dX12_swap_147 (by decide) ?_
    refine lv_iload hx hb dX12_swap_149 (lv_at hl 3 rfl) ?_
    refine lv_imul hx hb dX12_swap_151 ?_
    refine lv_iadd hx hb dX12_swap_152 ?_
    refine lv_bipush (v := (10 : Int32)) hx hb dX12_swap_153 (by decide) ?_
    refine lv_iload hx hb dX12_swap_155 (lv_at hl 2 rfl) ?_
    refine lv_aload_n hx hb dX12_swap_157 rfl (lv_at hl 0 rfl) ?_
    refine gf_12_sorts hx hb hts in12 hown hK hP (hts (.fieldLink RX12 114 "CoinsOfLastModel" "sorts" "I") (List.mem_of_getElem? (i := 1) rfl)) dX12_swap_158 ?_
    obtain ⟨c_24, hZ⟩ := jx_d_some hZ
    refine lv_irem hx hb dX12_swap_161 c_24 ?_
    refine lv_imul hx hb dX12_swap_162 ?_
    refine lv_iadd hx hb dX12_swap_163 ?_
    refine lv_iload_n hx hb dX12_swap_164 rfl (lv_at hl 1 rfl) ?_
    refine lv_iadd hx hb dX12_swap_165 ?_
    refine lv_iload hx hb dX12_swap_166 (lv_at hl 3 rfl) ?_
    refine lv_isub hx hb dX12_swap_168 ?_
    exact leave_i hx hb hr hlocks hP hS hZ dX12_swap_169
  unfold f_X12_swap at hZ
  refine lv_iload_n hx hb dX12_swap_0 rfl (lv_at hl 1 rfl) ?_
  obtain ⟨r_3, S_1, hc_2, hZ⟩ := jx_b2_some hZ
  refine call_Si SM_ok sameM ⟨hx, hb, hml, hown, hts⟩ (c_X12_isAmount l D q k x1 S _ (r_3, S_1)  hc_2) (va_cwS 1 hts gX12_swap_X12_isAmount rfl rfl rfl hd_X12_isAmount ⟨Nat.le_of_ble_eq_true rfl, Nat.le_of_ble_eq_true rfl⟩) hK hP hD hS hA hsp (As := [.int x1]) rfl hl.1 rfl (Nat.le_of_ble_eq_true rfl) dX12_swap_1 ⟨Nat.zero_le _, Nat.zero_le _⟩ (fun H locs hP hD hS => ?_)
  refine lv_if_eq (tgt := 14) hx hb dX12_swap_4 (by decide) (fun c_4 => ?_) (fun c_4 => ?_)
  · have hZ := jx_i_pos c_4 hZ
    refine lv_iconst (v := (-1 : Int32)) hx hb dX12_swap_14 (by decide) ?_
    exact leave_i hx hb hr hlocks hP hS hZ dX12_swap_15
  · have hZ := jx_i_neg c_4 hZ
    refine lv_iload_n hx hb dX12_swap_7 rfl (lv_at hl 2 rfl) ?_
    obtain ⟨r_7, S_5, hc_6, hZ⟩ := jx_b2_some hZ
    refine call_Si SM_ok sameM ⟨hx, hb, hml, hown, hts⟩ (c_X12_isDay l D q k x2 S_1 _ (r_7, S_5)  hc_6) (va_cwS 1 hts gX12_swap_X12_isDay rfl rfl rfl hd_X12_isDay ⟨Nat.le_of_ble_eq_true rfl, Nat.le_of_ble_eq_true rfl⟩) hK hP hD hS hA hsp (As := [.int x2]) rfl hl.1 rfl (Nat.le_of_ble_eq_true rfl) dX12_swap_8 ⟨Nat.zero_le _, Nat.zero_le _⟩ (fun H locs hP hD hS => ?_)
    refine lv_if_ne (tgt := 16) hx hb dX12_swap_11 (by decide) (fun c_8 => ?_) (fun c_8 => ?_)
    · have hZ := jx_i_neg c_8 hZ
      refine lv_aload_n hx hb dX12_swap_16 rfl (lv_at hl 0 rfl) ?_
      refine lv_iload_n hx hb dX12_swap_17 rfl (lv_at hl 1 rfl) ?_
      refine lv_sipush (v := (10000 : Int32)) hx hb dX12_swap_18 (by decide) ?_
      obtain ⟨c_9, hZ⟩ := jx_d_some hZ
      refine lv_idiv hx hb dX12_swap_21 c_9 ?_
      obtain ⟨S_10, hc_11, hZ⟩ := jx_b_some hZ
      refine call_Vv SM_ok sameM ⟨hx, hb, hml, hown, hts⟩ (c_X12_pays l D q k (x1 / (10000 : Int32)) S_5 _ S_10  hc_11) (cwV 1 hts gX12_swap_X12_pays rfl rfl rfl hd_X12_pays ⟨Nat.le_of_ble_eq_true rfl, Nat.le_of_ble_eq_true rfl⟩) hK hP hD hS hA hsp (va_recv hK hP (ci := 12) (q0 := 0) rfl wM_0) (As := [.int (x1 / (10000 : Int32))]) rfl hl.1 rfl (Nat.le_of_ble_eq_true rfl) dX12_swap_22 ⟨Nat.zero_le _, Nat.zero_le _⟩ (fun H locs hP hD hS => ?_)
      refine lv_aload_n hx hb dX12_swap_25 rfl (lv_at hl 0 rfl) ?_
      refine lv_iload_n hx hb dX12_swap_26 rfl (lv_at hl 1 rfl) ?_
      refine lv_sipush (v := (10000 : Int32)) hx hb dX12_swap_27 (by decide) ?_
      obtain ⟨c_12, hZ⟩ := jx_d_some hZ
      refine lv_irem hx hb dX12_swap_30 c_12 ?_
      obtain ⟨r_15, S_13, hc_14, hZ⟩ := jx_b2_some hZ
      refine call_Vi SM_ok sameM ⟨hx, hb, hml, hown, hts⟩ (c_X12_canPay l D q k (x1 - x1 / (10000 : Int32) * (10000 : Int32)) S_10 _ (r_15, S_13)  hc_14) (cwV 1 hts gX12_swap_X12_canPay rfl rfl rfl hd_X12_canPay ⟨Nat.le_of_ble_eq_true rfl, Nat.le_of_ble_eq_true rfl⟩) hK hP hD hS hA hsp (va_recv hK hP (ci := 12) (q0 := 0) rfl wM_0) (As := [.int (x1 - x1 / (10000 : Int32) * (10000 : Int32))]) rfl hl.1 rfl (Nat.le_of_ble_eq_true rfl) dX12_swap_31 ⟨Nat.zero_le _, Nat.zero_le _⟩ (fun H locs hP hD hS => ?_)
      refine lv_if_eq (tgt := 40) hx hb dX12_swap_34 (by decide) (fun c_16 => ?_) (fun c_16 => ?_)
      · have hZ := jx_i_pos c_16 hZ
        refine lv_iconst (v := (2 : Int32)) hx hb dX12_swap_40 (by decide) ?_
        refine lv_istore_n (lv' := [(3, .int (2 : Int32)), (0, .ref (q 0)), (1, .int x1), (2, .int x2)]) hx hb dX12_swap_41 rfl hl (by decide) rfl (fun ls hl => ?_)
        obtain ⟨r_19, hw, hza_19⟩ := jx_b_some hZ
        have l_19 : ∀ (nn : Nat) (x3_17 : Int32) (S_18 : St) (H : Heap) (locs : List Loc) (hw : jx_w (g_X12_swap_42 x1 x2) nn (x3_17, S_18) = some r_19) (hP : va_P D vwCl (W_M q k S_18) H) (hD : va_D A (W_M q k S_18)) (hS : va_S A s.heap H locs) (ls : Array Slot) (hl : lv_has ls 7 [(0, .ref (q 0)), (1, .int x1), (2, .int x2), (3, .int x3_17)]), W p l e ({ frames := 5, cells := 0, slots := 0, locals := 121 } : Room) s m ([.ref (q 0), .int x1, .int x2] : List Value).toArray below meth c H locs 0 0 (MQ below (va_Qi (fun r u => (r, u) = Z) (fun u t => va_P D vwCl (W_M q k u) t.heap) A) ([.ref (q 0), .int x1, .int x2] : List Value).toArray s 0 0 A) (F0 m 42 ls []) := by
          intro nn
          induction nn with
          | zero =>
            intro x3_17 S_18 H locs hw hP hD hS ls hl
            exact jx_w_zero hw
          | succ n_19 ih_19 =>
            intro x3_17 S_18 H locs hw hP hD hS ls hl
            obtain ⟨o_19, hZ, hk_19⟩ := jx_w_succ hw
            have hZ : b_X12_swap_42 x1 x2 x3_17 S_18 = some o_19 := hZ
            have j182i42 : ∀ (x3_150 : Int32) (S_150 : St)  (o_19 : (Int32 × St) ⊕ ((St) ⊕ ((Int32 × Int32 × Int32 × St)))) (hk_19 : jx_k (g_X12_swap_42 x1 x2) n_19 r_19 o_19) (H : Heap) (locs : List Loc) (hZ : f_X12_swap_182i42 x1 x2 x3_150 S_150 = some o_19) (hP : va_P D vwCl (W_M q k S_150) H) (hD : va_D A (W_M q k S_150)) (hS : va_S A s.heap H locs) (ls : Array Slot) (hl : lv_has ls 7 [(0, .ref (q 0)), (1, .int x1), (2, .int x2), (3, .int x3_150)]), W p l e ({ frames := 5, cells := 0, slots := 0, locals := 121 } : Room) s m ([.ref (q 0), .int x1, .int x2] : List Value).toArray below meth c H locs 0 0 (MQ below (va_Qi (fun r u => (r, u) = Z) (fun u t => va_P D vwCl (W_M q k u) t.heap) A) ([.ref (q 0), .int x1, .int x2] : List Value).toArray s 0 0 A) (F0 m 182 ls []) := by
              intro x3_150 S_150  o_19 hk_19 H locs hZ hP hD hS ls hl
              unfold f_X12_swap_182i42 at hZ
              obtain ⟨x3_151, e_x3_151, hZ⟩ := jx_l_some hZ
              refine lv_iinc (v := x3_151) (lv' := [(3, .int x3_151), (0, .ref (q 0)), (1, .int x1), (2, .int x2)]) hx hb dX12_swap_182 hl (k := 3) rfl (by rw [e_x3_151]; rfl) (by decide) rfl (fun ls hl => ?_)
              refine lv_goto (tgt := 42) hx hb dX12_swap_185 (by decide) ?_
              have ho := Option.some.inj hZ
              subst ho
              exact ih_19 x3_151 S_150 _ _ hk_19 hP hD hS _ (lv_sub hl [1, 2, 3, 0] rfl)
            unfold b_X12_swap_42 at hZ
            refine lv_iload_n hx hb dX12_swap_42 rfl (lv_at hl 3 rfl) ?_
            refine lv_bipush (v := (6 : Int32)) hx hb dX12_swap_43 (by decide) ?_
            refine lv_icmp_gt (tgt := 188) hx hb dX12_swap_45 (by decide) (fun c_145 => ?_) (fun c_145 => ?_)
            · have hZ := jx_i_pos c_145 hZ
              have ho := Option.some.inj hZ
              subst ho
              have hE := hza_19
              rw [← (show .inl S_18 = r_19 from hk_19)] at hE
              have hZ : f_X12_swap_188 S_18 = some Z := hE
              exact j188 S_18 _ _ hZ hP hD hS _ (lv_sub hl [] rfl)
            · have hZ := jx_i_neg c_145 hZ
              refine lv_iconst (v := (0 : Int32)) hx hb dX12_swap_48 (by decide) ?_
              refine lv_istore (lv' := [(4, .int (0 : Int32)), (0, .ref (q 0)), (1, .int x1), (2, .int x2), (3, .int x3_17)]) hx hb dX12_swap_49 hl (by decide) rfl (fun ls hl => ?_)
              obtain ⟨r_149, hw, hza_149⟩ := jx_b_some hZ
              have l_149 : ∀ (nn : Nat) (x4_147 : Int32) (S_148 : St) (H : Heap) (locs : List Loc) (hw : jx_w (g_X12_swap_51 x1 x2 x3_17) nn (x4_147, S_148) = some r_149) (hP : va_P D vwCl (W_M q k S_148) H) (hD : va_D A (W_M q k S_148)) (hS : va_S A s.heap H locs) (ls : Array Slot) (hl : lv_has ls 7 [(0, .ref (q 0)), (1, .int x1), (2, .int x2), (3, .int x3_17), (4, .int x4_147)]), W p l e ({ frames := 5, cells := 0, slots := 0, locals := 121 } : Room) s m ([.ref (q 0), .int x1, .int x2] : List Value).toArray below meth c H locs 0 0 (MQ below (va_Qi (fun r u => (r, u) = Z) (fun u t => va_P D vwCl (W_M q k u) t.heap) A) ([.ref (q 0), .int x1, .int x2] : List Value).toArray s 0 0 A) (F0 m 51 ls []) := by
                intro nn
                induction nn with
                | zero =>
                  intro x4_147 S_148 H locs hw hP hD hS ls hl
                  exact jx_w_zero hw
                | succ n_149 ih_149 =>
                  intro x4_147 S_148 H locs hw hP hD hS ls hl
                  obtain ⟨o_149, hZ, hk_149⟩ := jx_w_succ hw
                  have hZ : b_X12_swap_51 x1 x2 x3_17 x4_147 S_148 = some o_149 := hZ
                  have j176i51 : ∀ (x4_214 : Int32) (S_214 : St)  (o_149 : (Int32 × St) ⊕ ((St) ⊕ ((Int32 × Int32 × St)))) (hk_149 : jx_k (g_X12_swap_51 x1 x2 x3_17) n_149 r_149 o_149) (H : Heap) (locs : List Loc) (hZ : f_X12_swap_176i51 x1 x2 x3_17 x4_214 S_214 = some o_149) (hP : va_P D vwCl (W_M q k S_214) H) (hD : va_D A (W_M q k S_214)) (hS : va_S A s.heap H locs) (ls : Array Slot) (hl : lv_has ls 7 [(0, .ref (q 0)), (1, .int x1), (2, .int x2), (3, .int x3_17), (4, .int x4_214)]), W p l e ({ frames := 5, cells := 0, slots := 0, locals := 121 } : Room) s m ([.ref (q 0), .int x1, .int x2] : List Value).toArray below meth c H locs 0 0 (MQ below (va_Qi (fun r u => (r, u) = Z) (fun u t => va_P D vwCl (W_M q k u) t.heap) A) ([.ref (q 0), .int x1, .int x2] : List Value).toArray s 0 0 A) (F0 m 176 ls []) := by
                    intro x4_214 S_214  o_149 hk_149 H locs hZ hP hD hS ls hl
                    unfold f_X12_swap_176i51 at hZ
                    obtain ⟨x4_215, e_x4_215, hZ⟩ := jx_l_some hZ
                    refine lv_iinc (v := x4_215) (lv' := [(4, .int x4_215), (0, .ref (q 0)), (1, .int x1), (2, .int x2), (3, .int x3_17)]) hx hb dX12_swap_176 hl (k := 4) rfl (by rw [e_x4_215]; rfl) (by decide) rfl (fun ls hl => ?_)
                    refine lv_goto (tgt := 51) hx hb dX12_swap_179 (by decide) ?_
                    have ho := Option.some.inj hZ
                    subst ho
                    exact ih_149 x4_215 S_214 _ _ hk_149 hP hD hS _ (lv_sub hl [1, 2, 3, 4, 0] rfl)
                  unfold b_X12_swap_51 at hZ
                  refine lv_iload hx hb dX12_swap_51 (lv_at hl 4 rfl) ?_
                  refine lv_aload_n hx hb dX12_swap_53 rfl (lv_at hl 0 rfl) ?_
                  refine gf_12_sorts hx hb hts in12 hown hK hP (hts (.fieldLink RX12 114 "CoinsOfLastModel" "sorts" "I") (List.mem_of_getElem? (i := 1) rfl)) dX12_swap_54 ?_
                  refine lv_aload_n hx hb dX12_swap_57 rfl (lv_at hl 0 rfl) ?_
                  refine gf_12_sorts hx hb hts in12 hown hK hP (hts (.fieldLink RX12 114 "CoinsOfLastModel" "sorts" "I") (List.mem_of_getElem? (i := 1) rfl)) dX12_swap_58 ?_
                  refine lv_imul hx hb dX12_swap_61 ?_
                  refine lv_icmp_ge (tgt := 182) hx hb dX12_swap_62 (by decide) (fun c_209 => ?_) (fun c_209 => ?_)
                  · have hZ := jx_i_pos c_209 hZ
                    have ho := Option.some.inj hZ
                    subst ho
                    have hE := hza_149
                    rw [← (show .inl S_148 = r_149 from hk_149)] at hE
                    have hZ : f_X12_swap_182i42 x1 x2 x3_17 S_148 = some o_19 := hE
                    exact j182i42 x3_17 S_148 _ hk_19 _ _ hZ hP hD hS _ (lv_sub hl [0, 1, 2, 3] rfl)
                  · have hZ := jx_i_neg c_209 hZ
                    refine lv_iconst (v := (1 : Int32)) hx hb dX12_swap_65 (by decide) ?_
                    refine lv_istore (lv' := [(5, .int (1 : Int32)), (0, .ref (q 0)), (1, .int x1), (2, .int x2), (3, .int x3_17), (4, .int x4_147)]) hx hb dX12_swap_66 hl (by decide) rfl (fun ls hl => ?_)
                    obtain ⟨r_213, hw, hza_213⟩ := jx_b_some hZ
                    have l_213 : ∀ (nn : Nat) (x5_211 : Int32) (S_212 : St) (H : Heap) (locs : List Loc) (hw : jx_w (g_X12_swap_68 x1 x2 x3_17 x4_147) nn (x5_211, S_212) = some r_213) (hP : va_P D vwCl (W_M q k S_212) H) (hD : va_D A (W_M q k S_212)) (hS : va_S A s.heap H locs) (ls : Array Slot) (hl : lv_has ls 7 [(0, .ref (q 0)), (1, .int x1), (2, .int x2), (3, .int x3_17), (4, .int x4_147), (5, .int x5_211)]), W p l e ({ frames := 5, cells := 0, slots := 0, locals := 121 } : Room) s m ([.ref (q 0), .int x1, .int x2] : List Value).toArray below meth c H locs 0 0 (MQ below (va_Qi (fun r u => (r, u) = Z) (fun u t => va_P D vwCl (W_M q k u) t.heap) A) ([.ref (q 0), .int x1, .int x2] : List Value).toArray s 0 0 A) (F0 m 68 ls []) := by
                      intro nn
                      induction nn with
                      | zero =>
                        intro x5_211 S_212 H locs hw hP hD hS ls hl
                        exact jx_w_zero hw
                      | succ n_213 ih_213 =>
                        intro x5_211 S_212 H locs hw hP hD hS ls hl
                        obtain ⟨o_213, hZ, hk_213⟩ := jx_w_succ hw
                        have hZ : b_X12_swap_68 x1 x2 x3_17 x4_147 x5_211 S_212 = some o_213 := hZ
                        have j129i68 : ∀ (x5_248 : Int32) (s0_248 : Int32) (S_248 : St)  (o_213 : (Int32 × St) ⊕ ((St) ⊕ ((Int32 × St)))) (hk_213 : jx_k (g_X12_swap_68 x1 x2 x3_17 x4_147) n_213 r_213 o_213) (H : Heap) (locs : List Loc) (hZ : f_X12_swap_129i68 x1 x2 x3_17 x4_147 x5_248 s0_248 S_248 = some o_213) (hP : va_P D vwCl (W_M q k S_248) H) (hD : va_D A (W_M q k S_248)) (hS : va_S A s.heap H locs) (ls : Array Slot) (hl : lv_has ls 7 [(0, .ref (q 0)), (1, .int x1), (2, .int x2), (3, .int x3_17), (4, .int x4_147), (5, .int x5_248)]), W p l e ({ frames := 5, cells := 0, slots := 0, locals := 121 } : Room) s m ([.ref (q 0), .int x1, .int x2] : List Value).toArray below meth c H locs 0 0 (MQ below (va_Qi (fun r u => (r, u) = Z) (fun u t => va_P D vwCl (W_M q k u) t.heap) A) ([.ref (q 0), .int x1, .int x2] : List Value).toArray s 0 0 A) (F0 m 129 ls [.int s0_248]) := by
                          intro x5_248 s0_248 S_248  o_213 hk_213 H locs hZ hP hD hS ls hl
                          unfold f_X12_swap_129i68 at hZ
                          refine lv_istore (lv' := [(6, .int s0_248), (0, .ref (q 0)), (1, .int x1), (2, .int x2), (3, .int x3_17), (4, .int x4_147), (5, .int x5_248)]) hx hb dX12_swap_129 hl (by decide) rfl (fun ls hl => ?_)
                          refine lv_iload hx hb dX12_swap_131 (lv_at hl 0 rfl) ?_
                          refine lv_if_eq (tgt := 170) hx hb dX12_swap_133 (by decide) (fun c_249 => ?_) (fun c_249 => ?_)
                          · have hZ := jx_i_pos c_249 hZ
                            obtain ⟨x5_250, e_x5_250, hZ⟩ := jx_l_some hZ
                            refine lv_iinc (v := x5_250) (lv' := [(5, .int x5_250), (6, .int s0_248), (0, .ref (q 0)), (1, .int x1), (2, .int x2), (3, .int x3_17), (4, .int x4_147)]) hx hb dX12_swap_170 hl (k := 6) rfl (by rw [e_x5_250]; rfl) (by decide) rfl (fun ls hl => ?_)
                            refine lv_goto (tgt := 68) hx hb dX12_swap_173 (by decide) ?_
                            have ho := Option.some.inj hZ
                            subst ho
                            exact ih_213 x5_250 S_248 _ _ hk_213 hP hD hS _ (lv_sub hl [2, 3, 4, 5, 6, 0] rfl)
                          · have hZ := jx_i_neg c_249 hZ
                            have ho := Option.some.inj hZ
                            subst ho
                            have hE := hza_213
                            rw [← (show .inr (x5_248, S_248) = r_213 from hk_213)] at hE
                            have hZ : some (.inr (.inr (x4_147, x5_248, S_248))) = some o_149 := hE
                            have ho := Option.some.inj hZ
                            subst ho
                            have hE := hza_149
                            rw [← (show .inr (x4_147, x5_248, S_248) = r_149 from hk_149)] at hE
                            have hZ : some (.inr (.inr (x3_17, x4_147, x5_248, S_248))) = some o_19 := hE
                            have ho := Option.some.inj hZ
                            subst ho
                            have hE := hza_19
                            rw [← (show .inr (x3_17, x4_147, x5_248, S_248) = r_19 from hk_19)] at hE
                            have hZ : f_X12_swap_136 x3_17 x4_147 x5_248 S_248 = some Z := hE
                            exact j136 x3_17 x4_147 x5_248 S_248 _ _ hZ hP hD hS _ (lv_sub hl [1, 4, 5, 6] rfl)
                        have j128i68 : ∀ (x5_247 : Int32) (S_247 : St)  (o_213 : (Int32 × St) ⊕ ((St) ⊕ ((Int32 × St)))) (hk_213 : jx_k (g_X12_swap_68 x1 x2 x3_17 x4_147) n_213 r_213 o_213) (H : Heap) (locs : List Loc) (hZ : f_X12_swap_128i68 x1 x2 x3_17 x4_147 x5_247 S_247 = some o_213) (hP : va_P D vwCl (W_M q k S_247) H) (hD : va_D A (W_M q k S_247)) (hS : va_S A s.heap H locs) (ls : Array Slot) (hl : lv_has ls 7 [(0, .ref (q 0)), (1, .int x1), (2, .int x2), (3, .int x3_17), (4, .int x4_147), (5, .int x5_247)]), W p l e ({ frames := 5, cells := 0, slots := 0, locals := 121 } : Room) s m ([.ref (q 0), .int x1, .int x2] : List Value).toArray below meth c H locs 0 0 (MQ below (va_Qi (fun r u => (r, u) = Z) (fun u t => va_P D vwCl (W_M q k u) t.heap) A) ([.ref (q 0), .int x1, .int x2] : List Value).toArray s 0 0 A) (F0 m 128 ls []) := by
                          intro x5_247 S_247  o_213 hk_213 H locs hZ hP hD hS ls hl
                          unfold f_X12_swap_128i68 at hZ
                          refine lv_iconst (v := (0 : Int32)) hx hb dX12_swap_128 (by decide) ?_
                          exact j129i68 x5_247 (0 : Int32) S_247 _ hk_213 _ _ hZ hP hD hS _ (lv_sub hl [0, 1, 2, 3, 4, 5] rfl)
                        unfold b_X12_swap_68 at hZ
                        refine lv_iload hx hb dX12_swap_68 (lv_at hl 5 rfl) ?_
                        refine lv_iconst (v := (3 : Int32)) hx hb dX12_swap_70 (by decide) ?_
                        refine lv_icmp_gt (tgt := 176) hx hb dX12_swap_71 (by decide) (fun c_241 => ?_) (fun c_241 => ?_)
                        · have hZ := jx_i_pos c_241 hZ
                          have ho := Option.some.inj hZ
                          subst ho
                          have hE := hza_213
                          rw [← (show .inl S_212 = r_213 from hk_213)] at hE
                          have hZ : f_X12_swap_176i51 x1 x2 x3_17 x4_147 S_212 = some o_149 := hE
                          exact j176i51 x4_147 S_212 _ hk_149 _ _ hZ hP hD hS _ (lv_sub hl [0, 1, 2, 3, 4] rfl)
                        · have hZ := jx_i_neg c_241 hZ
                          refine lv_iload_n hx hb dX12_swap_74 rfl (lv_at hl 3 rfl) ?_
                          refine lv_iload hx hb dX12_swap_75 (lv_at hl 5 rfl) ?_
                          refine lv_isub hx hb dX12_swap_77 ?_
                          refine lv_iconst (v := (1 : Int32)) hx hb dX12_swap_78 (by decide) ?_
                          refine lv_iconst (v := (3 : Int32)) hx hb dX12_swap_79 (by decide) ?_
                          obtain ⟨r_245, S_243, hc_244, hZ⟩ := jx_b2_some hZ
                          refine call_Si SM_ok sameM ⟨hx, hb, hml, hown, hts⟩ (c_X12_in l D q k (x3_17 - x5_211) (1 : Int32) (3 : Int32) S_212 _ (r_245, S_243)  hc_244) (va_cwS 3 hts gX12_swap_X12_in rfl rfl rfl hd_X12_in ⟨Nat.le_of_ble_eq_true rfl, Nat.le_of_ble_eq_true rfl⟩) hK hP hD hS hA hsp (As := [.int (x3_17 - x5_211), .int (1 : Int32), .int (3 : Int32)]) rfl hl.1 rfl (Nat.le_of_ble_eq_true rfl) dX12_swap_80 ⟨Nat.zero_le _, Nat.zero_le _⟩ (fun H locs hP hD hS => ?_)
                          refine lv_if_eq (tgt := 128) hx hb dX12_swap_83 (by decide) (fun c_246 => ?_) (fun c_246 => ?_)
                          · have hZ := jx_i_pos c_246 hZ
                            exact j128i68 x5_211 S_243 _ hk_213 _ _ hZ hP hD hS _ (lv_sub hl [0, 1, 2, 3, 4, 5] rfl)
                          · have hZ := jx_i_neg c_246 hZ
                            refine lv_aload_n hx hb dX12_swap_86 rfl (lv_at hl 0 rfl) ?_
                            refine lv_iload_n hx hb dX12_swap_87 rfl (lv_at hl 1 rfl) ?_
                            refine lv_sipush (v := (10000 : Int32)) hx hb dX12_swap_88 (by decide) ?_
                            obtain ⟨c_254, hZ⟩ := jx_d_some hZ
                            refine lv_idiv hx hb dX12_swap_91 c_254 ?_
                            refine lv_iload_n hx hb dX12_swap_92 rfl (lv_at hl 1 rfl) ?_
                            refine lv_sipush (v := (10000 : Int32)) hx hb dX12_swap_93 (by decide) ?_
                            obtain ⟨c_255, hZ⟩ := jx_d_some hZ
                            refine lv_irem hx hb dX12_swap_96 c_255 ?_
                            refine lv_iload_n hx hb dX12_swap_97 rfl (lv_at hl 2 rfl) ?_
                            refine lv_iload hx hb dX12_swap_98 (lv_at hl 4 rfl) ?_
                            refine lv_aload_n hx hb dX12_swap_100 rfl (lv_at hl 0 rfl) ?_
                            refine gf_12_sorts hx hb hts in12 hown hK hP (hts (.fieldLink RX12 114 "CoinsOfLastModel" "sorts" "I") (List.mem_of_getElem? (i := 1) rfl)) dX12_swap_101 ?_
                            obtain ⟨c_256, hZ⟩ := jx_d_some hZ
                            refine lv_idiv hx hb dX12_swap_104 c_256 ?_
                            refine lv_iload hx hb dX12_swap_105 (lv_at hl 5 rfl) ?_
                            refine lv_iload hx hb dX12_swap_107 (lv_at hl 4 rfl) ?_
                            refine lv_aload_n hx hb dX12_swap_109 rfl (lv_at hl 0 rfl) ?_
                            refine gf_12_sorts hx hb hts in12 hown hK hP (hts (.fieldLink RX12 114 "CoinsOfLastModel" "sorts" "I") (List.mem_of_getElem? (i := 1) rfl)) dX12_swap_110 ?_
                            obtain ⟨c_257, hZ⟩ := jx_d_some hZ
                            refine lv_irem hx hb dX12_swap_113 c_257 ?_
                            refine lv_iload_n hx hb dX12_swap_114 rfl (lv_at hl 3 rfl) ?_
                            refine lv_iload hx hb dX12_swap_115 (lv_at hl 5 rfl) ?_
                            refine lv_isub hx hb dX12_swap_117 ?_
                            obtain ⟨r_260, S_258, hc_259, hZ⟩ := jx_b2_some hZ
                            refine call_Vi SM_ok sameM ⟨hx, hb, hml, hown, hts⟩ (c_X12_isSwap l D q k (x1 / (10000 : Int32)) (x1 - x1 / (10000 : Int32) * (10000 : Int32)) x2 (x4_147 / (S_243.1 0 0)) x5_211 (x4_147 - x4_147 / (S_243.1 0 0) * (S_243.1 0 0)) (x3_17 - x5_211) S_243 _ (r_260, S_258)  hc_259) (cwV 7 hts gX12_swap_X12_isSwap rfl rfl rfl hd_X12_isSwap ⟨Nat.le_of_ble_eq_true rfl, Nat.le_of_ble_eq_true rfl⟩) hK hP hD hS hA hsp (va_recv hK hP (ci := 12) (q0 := 0) rfl wM_0) (As := [.int (x1 / (10000 : Int32)), .int (x1 - x1 / (10000 : Int32) * (10000 : Int32)), .int x2, .int (x4_147 / (S_243.1 0 0)), .int x5_211, .int (x4_147 - x4_147 / (S_243.1 0 0) * (S_243.1 0 0)), .int (x3_17 - x5_211)]) rfl hl.1 rfl (Nat.le_of_ble_eq_true rfl) dX12_swap_118 ⟨Nat.zero_le _, Nat.zero_le _⟩ (fun H locs hP hD hS => ?_)
                            refine lv_if_eq (tgt := 128) hx hb dX12_swap_121 (by decide) (fun c_261 => ?_) (fun c_261 => ?_)
                            · have hZ := jx_i_pos c_261 hZ
                              exact j128i68 x5_211 S_258 _ hk_213 _ _ hZ hP hD hS _ (lv_sub hl [0, 1, 2, 3, 4, 5] rfl)
                            · have hZ := jx_i_neg c_261 hZ
                              refine lv_iconst (v := (1 : Int32)) hx hb dX12_swap_124 (by decide) ?_
                              refine lv_goto (tgt := 129) hx hb dX12_swap_125 (by decide) ?_
                              exact j129i68 x5_211 (1 : Int32) S_258 _ hk_213 _ _ hZ hP hD hS _ (lv_sub hl [0, 1, 2, 3, 4, 5] rfl)
                    exact l_213 FU (1 : Int32) S_148 _ _ hw hP hD hS _ (lv_sub hl [1, 2, 3, 4, 5, 0] rfl)
              exact l_149 FU (0 : Int32) S_18 _ _ hw hP hD hS _ (lv_sub hl [1, 2, 3, 4, 0] rfl)
        exact l_19 FU (2 : Int32) S_13 _ _ hw hP hD hS _ (lv_sub hl [1, 2, 3, 0] rfl)
      · have hZ := jx_i_neg c_16 hZ
        refine lv_bipush (v := (-5 : Int32)) hx hb dX12_swap_37 (by decide) ?_
        exact leave_i hx hb hr hlocks hP hS hZ dX12_swap_39
    · have hZ := jx_i_pos c_8 hZ
      refine lv_iconst (v := (-1 : Int32)) hx hb dX12_swap_14 (by decide) ?_
      exact leave_i hx hb hr hlocks hP hS hZ dX12_swap_15
-- X12_keptFor
def f_X12_keptFor_84 (x2_5 : Int32) (S_5 : St) : Option (Int32 × St) :=
  some (x2_5, S_5)
def f_X12_keptFor_75i4 (x1 : Int32) (x3_23 : Int32) (s0_23 : Int32) (s1_23 : Int32) (s2_23 : Int32) (S_23 : St) : Option ((Int32 × Int32 × St) ⊕ ((Int32 × St))) :=
  jx_l (s0_23 + (s1_23 * s2_23)) (fun x2_24 => jx_l (x3_23 + 1) (fun x3_25 => some (.inl (x2_24, x3_25, S_23))))
def b_X12_keptFor_4 (x1 : Int32) (x2 : Int32) (x3 : Int32) (S : St) : Option ((Int32 × Int32 × St) ⊕ ((Int32 × St))) :=
  (if (S.1 0 0) ≤ x3 then some (.inr (x2, S)) else jx_a x3 8 (jx_a x3 8 (jx_a x3 8 (jx_b (f_X12_names (0 : Int32) (0 : Int32) (0 : Int32) (S.1 2 (Int32.toNatClampNeg x3)) (S.1 1 (Int32.toNatClampNeg x3)) (S.1 3 (Int32.toNatClampNeg x3)) x1 S) (fun S_12 => jx_a x3 8 (jx_a (1 : Int32) 3 ((if (S_12.1 13 (Int32.toNatClampNeg (1 : Int32))) = 0 then jx_a x3 8 (f_X12_keptFor_75i4 x1 x3 x2 (S_12.1 5 (Int32.toNatClampNeg x3)) (S_12.1 2 (Int32.toNatClampNeg x3)) S_12) else jx_b2 (f_X12_told (1 : Int32) S_12) (fun r_19 S_17 => jx_b2 (f_X12_within r_19 (0 : Int32) (9999 : Int32) S_17) (fun r_22 S_20 => f_X12_keptFor_75i4 x1 x3 x2 (S_12.1 5 (Int32.toNatClampNeg x3)) r_22 S_20))))))))))
def g_X12_keptFor_4 (x1 : Int32) : (Int32 × Int32 × St) → Option ((Int32 × Int32 × St) ⊕ ((Int32 × St))) := fun z => b_X12_keptFor_4 x1 z.1 z.2.1 z.2.2
def f_X12_keptFor (x1 : Int32) (S : St) : Option (Int32 × St) :=
  jx_b (jx_w (g_X12_keptFor_4 x1) FU ((0 : Int32), (0 : Int32), S)) (fun z => f_X12_keptFor_84 z.1 z.2)
set_option maxHeartbeats 4000000 in
set_option maxRecDepth 100000 in
theorem c_X12_keptFor (l : Launch) (D : va_G) (q : Nat → Nat) (k : CI) (x1 : Int32) (S : St) (sz : Nat) (Z : Int32 × St) (hZ : f_X12_keptFor x1 S = some Z) : MetI W_M SM l yX12_keptFor wsX12_keptFor { frames := 3, cells := 0, slots := 0, locals := 71 } [.ref (q 0), .int x1] D q k S sz Z := by
  refine enter (cc := cX12_keptFor) (maxL := 4) (ret := some .int) (by decide) rfl (Nat.le_of_ble_eq_true rfl) ?_
  intro p e s m below meth c A ls hx hb hr hts hown hlocks hml hP hK hD hA hS hsp hAe hl
  have hown : s.vm.findClass RX12 = some m.cls := hown
  have hl : lv_has ls 4 [(0, .ref (q 0)), (1, .int x1)] := hl
  have in12 : ∀ w ∈ wsX120, w ∈ wsX12_keptFor := fun _ h => (List.mem_cons_of_mem _ (List.mem_append_right _ h))
  have j84 : ∀ (x2_5 : Int32) (S_5 : St)  (H : Heap) (locs : List Loc) (hZ : f_X12_keptFor_84 x2_5 S_5 = some Z) (hP : va_P D vwCl (W_M q k S_5) H) (hD : va_D A (W_M q k S_5)) (hS : va_S A s.heap H locs) (ls : Array Slot) (hl : lv_has ls 4 [(2, .int x2_5)]), W p l e ({ frames := 3, cells := 0, slots := 0, locals := 71 } : Room) s m ([.ref (q 0), .int x1] : List Value).toArray below meth c H locs 0 0 (MQ below (va_Qi (fun r u => (r, u) = Z) (fun u t => va_P D vwCl (W_M q k u) t.heap) A) ([.ref (q 0), .int x1] : List Value).toArray s 0 0 A) (F0 m 84 ls []) := by
    intro x2_5 S_5   H locs hZ hP hD hS ls hl
    unfold f_X12_keptFor_84 at hZ
    refine lv_iload_n hx hb dX12_keptFor_84 rfl (lv_at hl 0 rfl) ?_
    exact leave_i hx hb hr hlocks hP hS hZ dX12_keptFor_85
  unfold f_X12_keptFor at hZ
  refine lv_iconst (v := (0 : Int32)) hx hb dX12_keptFor_0 (by decide) ?_
  refine lv_istore_n (lv' := [(2, .int (0 : Int32)), (0, .ref (q 0)), (1, .int x1)]) hx hb dX12_keptFor_1 rfl hl (by decide) rfl (fun ls hl => ?_)
  refine lv_iconst (v := (0 : Int32)) hx hb dX12_keptFor_2 (by decide) ?_
  refine lv_istore_n (lv' := [(3, .int (0 : Int32)), (2, .int (0 : Int32)), (0, .ref (q 0)), (1, .int x1)]) hx hb dX12_keptFor_3 rfl hl (by decide) rfl (fun ls hl => ?_)
  obtain ⟨r_4, hw, hza_4⟩ := jx_b_some hZ
  have l_4 : ∀ (nn : Nat) (x2_1 : Int32) (x3_2 : Int32) (S_3 : St) (H : Heap) (locs : List Loc) (hw : jx_w (g_X12_keptFor_4 x1) nn (x2_1, x3_2, S_3) = some r_4) (hP : va_P D vwCl (W_M q k S_3) H) (hD : va_D A (W_M q k S_3)) (hS : va_S A s.heap H locs) (ls : Array Slot) (hl : lv_has ls 4 [(0, .ref (q 0)), (1, .int x1), (2, .int x2_1), (3, .int x3_2)]), W p l e ({ frames := 3, cells := 0, slots := 0, locals := 71 } : Room) s m ([.ref (q 0), .int x1] : List Value).toArray below meth c H locs 0 0 (MQ below (va_Qi (fun r u => (r, u) = Z) (fun u t => va_P D vwCl (W_M q k u) t.heap) A) ([.ref (q 0), .int x1] : List Value).toArray s 0 0 A) (F0 m 4 ls []) := by
    intro nn
    induction nn with
    | zero =>
      intro x2_1 x3_2 S_3 H locs hw hP hD hS ls hl
      exact jx_w_zero hw
    | succ n_4 ih_4 =>
      intro x2_1 x3_2 S_3 H locs hw hP hD hS ls hl
      obtain ⟨o_4, hZ, hk_4⟩ := jx_w_succ hw
      have hZ : b_X12_keptFor_4 x1 x2_1 x3_2 S_3 = some o_4 := hZ
      have j75i4 : ∀ (x3_45 : Int32) (s0_45 : Int32) (s1_45 : Int32) (s2_45 : Int32) (S_45 : St)  (o_4 : (Int32 × Int32 × St) ⊕ ((Int32 × St))) (hk_4 : jx_k (g_X12_keptFor_4 x1) n_4 r_4 o_4) (H : Heap) (locs : List Loc) (hZ : f_X12_keptFor_75i4 x1 x3_45 s0_45 s1_45 s2_45 S_45 = some o_4) (hP : va_P D vwCl (W_M q k S_45) H) (hD : va_D A (W_M q k S_45)) (hS : va_S A s.heap H locs) (ls : Array Slot) (hl : lv_has ls 4 [(0, .ref (q 0)), (1, .int x1), (3, .int x3_45)]), W p l e ({ frames := 3, cells := 0, slots := 0, locals := 71 } : Room) s m ([.ref (q 0), .int x1] : List Value).toArray below meth c H locs 0 0 (MQ below (va_Qi (fun r u => (r, u) = Z) (fun u t => va_P D vwCl (W_M q k u) t.heap) A) ([.ref (q 0), .int x1] : List Value).toArray s 0 0 A) (F0 m 75 ls [.int s2_45, .int s1_45, .int s0_45]) := by
        intro x3_45 s0_45 s1_45 s2_45 S_45  o_4 hk_4 H locs hZ hP hD hS ls hl
        unfold f_X12_keptFor_75i4 at hZ
        refine lv_imul hx hb dX12_keptFor_75 ?_
        refine lv_iadd hx hb dX12_keptFor_76 ?_
        obtain ⟨x2_46, e_x2_46, hZ⟩ := jx_l_some hZ
        refine tx_i e_x2_46 ?_
        refine lv_istore_n (lv' := [(2, .int x2_46), (0, .ref (q 0)), (1, .int x1), (3, .int x3_45)]) hx hb dX12_keptFor_77 rfl hl (by decide) rfl (fun ls hl => ?_)
        obtain ⟨x3_47, e_x3_47, hZ⟩ := jx_l_some hZ
        refine lv_iinc (v := x3_47) (lv' := [(3, .int x3_47), (2, .int x2_46), (0, .ref (q 0)), (1, .int x1)]) hx hb dX12_keptFor_78 hl (k := 3) rfl (by rw [e_x3_47]; rfl) (by decide) rfl (fun ls hl => ?_)
        refine lv_goto (tgt := 4) hx hb dX12_keptFor_81 (by decide) ?_
        have ho := Option.some.inj hZ
        subst ho
        exact ih_4 x2_46 x3_47 S_45 _ _ hk_4 hP hD hS _ (lv_sub hl [2, 3, 1, 0] rfl)
      unfold b_X12_keptFor_4 at hZ
      refine lv_iload_n hx hb dX12_keptFor_4 rfl (lv_at hl 3 rfl) ?_
      refine lv_aload_n hx hb dX12_keptFor_5 rfl (lv_at hl 0 rfl) ?_
      refine gf_12_sorts hx hb hts in12 hown hK hP (hts (.fieldLink RX12 114 "CoinsOfLastModel" "sorts" "I") (List.mem_of_getElem? (i := 1) rfl)) dX12_keptFor_6 ?_
      refine lv_icmp_ge (tgt := 84) hx hb dX12_keptFor_9 (by decide) (fun c_29 => ?_) (fun c_29 => ?_)
      · have hZ := jx_i_pos c_29 hZ
        have ho := Option.some.inj hZ
        subst ho
        have hE := hza_4
        rw [← (show (x2_1, S_3) = r_4 from hk_4)] at hE
        have hZ : f_X12_keptFor_84 x2_1 S_3 = some Z := hE
        exact j84 x2_1 S_3 _ _ hZ hP hD hS _ (lv_sub hl [2] rfl)
      · have hZ := jx_i_neg c_29 hZ
        refine lv_aload_n hx hb dX12_keptFor_12 rfl (lv_at hl 0 rfl) ?_
        refine lv_iconst (v := (0 : Int32)) hx hb dX12_keptFor_13 (by decide) ?_
        refine lv_iconst (v := (0 : Int32)) hx hb dX12_keptFor_14 (by decide) ?_
        refine lv_iconst (v := (0 : Int32)) hx hb dX12_keptFor_15 (by decide) ?_
        refine lv_aload_n hx hb dX12_keptFor_16 rfl (lv_at hl 0 rfl) ?_
        refine gf_12_worth hx hb hts in12 hown hK hP (hts (.fieldLink RX12 13 "CoinsOfLastModel" "worth" "[I") (List.mem_of_getElem? (i := 2) rfl)) dX12_keptFor_17 ?_
        refine lv_iload_n hx hb dX12_keptFor_20 rfl (lv_at hl 3 rfl) ?_
        obtain ⟨c_31, hZ⟩ := jx_a_some hZ
        refine M_iald hx hb hK hP wM_2 c_31 dX12_keptFor_21 ?_
        refine lv_aload_n hx hb dX12_keptFor_22 rfl (lv_at hl 0 rfl) ?_
        refine gf_12_landOf hx hb hts in12 hown hK hP (hts (.fieldLink RX12 7 "CoinsOfLastModel" "landOf" "[I") (List.mem_of_getElem? (i := 3) rfl)) dX12_keptFor_23 ?_
        refine lv_iload_n hx hb dX12_keptFor_26 rfl (lv_at hl 3 rfl) ?_
        obtain ⟨c_32, hZ⟩ := jx_a_some hZ
        refine M_iald hx hb hK hP wM_1 c_32 dX12_keptFor_27 ?_
        refine lv_aload_n hx hb dX12_keptFor_28 rfl (lv_at hl 0 rfl) ?_
        refine gf_12_sizeOf hx hb hts in12 hown hK hP (hts (.fieldLink RX12 16 "CoinsOfLastModel" "sizeOf" "[I") (List.mem_of_getElem? (i := 4) rfl)) dX12_keptFor_29 ?_
        refine lv_iload_n hx hb dX12_keptFor_32 rfl (lv_at hl 3 rfl) ?_
        obtain ⟨c_33, hZ⟩ := jx_a_some hZ
        refine M_iald hx hb hK hP wM_3 c_33 dX12_keptFor_33 ?_
        refine lv_iload_n hx hb dX12_keptFor_34 rfl (lv_at hl 1 rfl) ?_
        obtain ⟨S_34, hc_35, hZ⟩ := jx_b_some hZ
        refine call_Vv SM_ok sameM ⟨hx, hb, hml, hown, hts⟩ (c_X12_names l D q k (0 : Int32) (0 : Int32) (0 : Int32) (S_3.1 2 (Int32.toNatClampNeg x3_2)) (S_3.1 1 (Int32.toNatClampNeg x3_2)) (S_3.1 3 (Int32.toNatClampNeg x3_2)) x1 S_3 _ S_34  hc_35) (cwV 7 hts gX12_keptFor_X12_names rfl rfl rfl hd_X12_names ⟨Nat.le_of_ble_eq_true rfl, Nat.le_of_ble_eq_true rfl⟩) hK hP hD hS hA hsp (va_recv hK hP (ci := 12) (q0 := 0) rfl wM_0) (As := [.int (0 : Int32), .int (0 : Int32), .int (0 : Int32), .int (S_3.1 2 (Int32.toNatClampNeg x3_2)), .int (S_3.1 1 (Int32.toNatClampNeg x3_2)), .int (S_3.1 3 (Int32.toNatClampNeg x3_2)), .int x1]) rfl hl.1 rfl (Nat.le_of_ble_eq_true rfl) dX12_keptFor_35 ⟨Nat.zero_le _, Nat.zero_le _⟩ (fun H locs hP hD hS => ?_)
        refine lv_iload_n hx hb dX12_keptFor_38 rfl (lv_at hl 2 rfl) ?_
        refine lv_aload_n hx hb dX12_keptFor_39 rfl (lv_at hl 0 rfl) ?_
        refine gf_12_purse hx hb hts in12 hown hK hP (hts (.fieldLink RX12 22 "CoinsOfLastModel" "purse" "[I") (List.mem_of_getElem? (i := 5) rfl)) dX12_keptFor_40 ?_
        refine lv_iload_n hx hb dX12_keptFor_43 rfl (lv_at hl 3 rfl) ?_
        obtain ⟨c_36, hZ⟩ := jx_a_some hZ
        refine M_iald hx hb hK hP wM_5 c_36 dX12_keptFor_44 ?_
        refine lv_aload_n hx hb dX12_keptFor_45 rfl (lv_at hl 0 rfl) ?_
        refine gf_12_lineMany hx hb hts in12 hown hK hP (hts (.fieldLink RX12 46 "CoinsOfLastModel" "lineMany" "[I") (List.mem_of_getElem? (i := 6) rfl)) dX12_keptFor_46 ?_
        refine lv_iconst (v := (1 : Int32)) hx hb dX12_keptFor_49 (by decide) ?_
        obtain ⟨c_37, hZ⟩ := jx_a_some hZ
        refine M_iald hx hb hK hP wM_13 c_37 dX12_keptFor_50 ?_
        refine lv_if_ne (tgt := 63) hx hb dX12_keptFor_51 (by decide) (fun c_38 => ?_) (fun c_38 => ?_)
        · have hZ := jx_i_neg c_38 hZ
          refine lv_aload_n hx hb dX12_keptFor_63 rfl (lv_at hl 0 rfl) ?_
          refine lv_iconst (v := (1 : Int32)) hx hb dX12_keptFor_64 (by decide) ?_
          obtain ⟨r_41, S_39, hc_40, hZ⟩ := jx_b2_some hZ
          refine call_Vi SM_ok sameM ⟨hx, hb, hml, hown, hts⟩ (c_X12_told l D q k (1 : Int32) S_34 _ (r_41, S_39)  hc_40) (cwV 1 hts gX12_keptFor_X12_told rfl rfl rfl hd_X12_told ⟨Nat.le_of_ble_eq_true rfl, Nat.le_of_ble_eq_true rfl⟩) hK hP hD hS hA hsp (va_recv hK hP (ci := 12) (q0 := 0) rfl wM_0) (As := [.int (1 : Int32)]) rfl hl.1 rfl (Nat.le_of_ble_eq_true rfl) dX12_keptFor_65 ⟨Nat.zero_le _, Nat.zero_le _⟩ (fun H locs hP hD hS => ?_)
          refine lv_iconst (v := (0 : Int32)) hx hb dX12_keptFor_68 (by decide) ?_
          refine lv_sipush (v := (9999 : Int32)) hx hb dX12_keptFor_69 (by decide) ?_
          obtain ⟨r_44, S_42, hc_43, hZ⟩ := jx_b2_some hZ
          refine call_Si SM_ok sameM ⟨hx, hb, hml, hown, hts⟩ (c_X12_within l D q k r_41 (0 : Int32) (9999 : Int32) S_39 _ (r_44, S_42)  hc_43) (va_cwS 3 hts gX12_keptFor_X12_within rfl rfl rfl hd_X12_within ⟨Nat.le_of_ble_eq_true rfl, Nat.le_of_ble_eq_true rfl⟩) hK hP hD hS hA hsp (As := [.int r_41, .int (0 : Int32), .int (9999 : Int32)]) rfl hl.1 rfl (Nat.le_of_ble_eq_true rfl) dX12_keptFor_72 ⟨Nat.zero_le _, Nat.zero_le _⟩ (fun H locs hP hD hS => ?_)
          exact j75i4 x3_2 x2_1 (S_34.1 5 (Int32.toNatClampNeg x3_2)) r_44 S_42 _ hk_4 _ _ hZ hP hD hS _ (lv_sub hl [0, 1, 3] rfl)
        · have hZ := jx_i_pos c_38 hZ
          refine lv_aload_n hx hb dX12_keptFor_54 rfl (lv_at hl 0 rfl) ?_
          refine gf_12_worth hx hb hts in12 hown hK hP (hts (.fieldLink RX12 13 "CoinsOfLastModel" "worth" "[I") (List.mem_of_getElem? (i := 2) rfl)) dX12_keptFor_55 ?_
          refine lv_iload_n hx hb dX12_keptFor_58 rfl (lv_at hl 3 rfl) ?_
          obtain ⟨c_49, hZ⟩ := jx_a_some hZ
          refine M_iald hx hb hK hP wM_2 c_49 dX12_keptFor_59 ?_
          refine lv_goto (tgt := 75) hx hb dX12_keptFor_60 (by decide) ?_
          exact j75i4 x3_2 x2_1 (S_34.1 5 (Int32.toNatClampNeg x3_2)) (S_34.1 2 (Int32.toNatClampNeg x3_2)) S_34 _ hk_4 _ _ hZ hP hD hS _ (lv_sub hl [0, 1, 3] rfl)
  exact l_4 FU (0 : Int32) (0 : Int32) S _ _ hw hP hD hS _ (lv_sub hl [2, 3, 1, 0] rfl)
theorem hd_X12_keptFor : yX12_keptFor.cls = RX12 ∧ yX12_keptFor.cls ≠ "java/lang/invoke/MethodHandle" ∧ yX12_keptFor.cls ≠ "java/lang/invoke/VarHandle" ∧ (parseMethodDescriptor yX12_keptFor.desc).map (fun d => d.parameters.length) = some 1 := by decide +kernel
-- X12_kept
def f_X12_kept_87 (x1_17 : Int32) (x2_17 : Int32) (x3_17 : Int32) (S_17 : St) : Option (Int32 × St) :=
  (if x1_17 = (100 : Int32) then some (x2_17, S_17) else some (x3_17, S_17))
def f_X12_kept_80i40 (x1 : Int32) (x2_28 : Int32) (x4_28 : Int32) (s0_28 : Int32) (S_28 : St) : Option ((Int32 × Int32 × Int32 × St) ⊕ ((Int32 × Int32 × St))) :=
  jx_l (x4_28 + 1) (fun x4_29 => some (.inl (x2_28, s0_28, x4_29, S_28)))
def f_X12_kept_67i40 (x1 : Int32) (x3_26 : Int32) (x4_26 : Int32) (x5_26 : Int32) (s0_26 : Int32) (S_26 : St) : Option ((Int32 × Int32 × Int32 × St) ⊕ ((Int32 × Int32 × St))) :=
  (if x5_26 ≤ x3_26 then f_X12_kept_80i40 x1 s0_26 x4_26 x3_26 S_26 else f_X12_kept_80i40 x1 s0_26 x4_26 x5_26 S_26)
def b_X12_kept_40 (x1 : Int32) (x2 : Int32) (x3 : Int32) (x4 : Int32) (S : St) : Option ((Int32 × Int32 × Int32 × St) ⊕ ((Int32 × Int32 × St))) :=
  (if (60 : Int32) < x4 then some (.inr (x2, x3, S)) else jx_b2 (f_X12_keptFor x4 S) (fun r_24 S_22 => (if r_24 ≤ x3 then f_X12_kept_67i40 x1 x3 x4 r_24 x2 S_22 else f_X12_kept_67i40 x1 x3 x4 r_24 x4 S_22)))
def g_X12_kept_40 (x1 : Int32) : (Int32 × Int32 × Int32 × St) → Option ((Int32 × Int32 × Int32 × St) ⊕ ((Int32 × Int32 × St))) := fun z => b_X12_kept_40 x1 z.1 z.2.1 z.2.2.1 z.2.2.2
def f_X12_kept (x1 : Int32) (S : St) : Option (Int32 × St) :=
  jx_b2 (f_X12_in x1 (0 : Int32) (60 : Int32) S) (fun r_3 S_1 => (if r_3 = 0 then jx_b2 (f_X12_in x1 (100 : Int32) (101 : Int32) S_1) (fun r_7 S_5 => (if r_7 = 0 then some ((-1 : Int32), S_5) else jx_b2 (f_X12_keptFor (0 : Int32) S_5) (fun r_11 S_9 => jx_b (jx_w (g_X12_kept_40 x1) FU ((0 : Int32), r_11, (1 : Int32), S_9)) (fun z => f_X12_kept_87 x1 z.1 z.2.1 z.2.2)))) else jx_b2 (f_X12_keptFor x1 S_1) (fun r_50 S_48 => some (r_50, S_48))))
set_option maxHeartbeats 4000000 in
set_option maxRecDepth 100000 in
theorem c_X12_kept (l : Launch) (D : va_G) (q : Nat → Nat) (k : CI) (x1 : Int32) (S : St) (sz : Nat) (Z : Int32 × St) (hZ : f_X12_kept x1 S = some Z) : MetI W_M SM l yX12_kept wsX12_kept { frames := 4, cells := 0, slots := 0, locals := 94 } [.ref (q 0), .int x1] D q k S sz Z := by
  refine enter (cc := cX12_kept) (maxL := 6) (ret := some .int) (by decide) rfl (Nat.le_of_ble_eq_true rfl) ?_
  intro p e s m below meth c A ls hx hb hr hts hown hlocks hml hP hK hD hA hS hsp hAe hl
  have hown : s.vm.findClass RX12 = some m.cls := hown
  have hl : lv_has ls 6 [(0, .ref (q 0)), (1, .int x1)] := hl
  have j87 : ∀ (x1_17 : Int32) (x2_17 : Int32) (x3_17 : Int32) (S_17 : St)  (H : Heap) (locs : List Loc) (hZ : f_X12_kept_87 x1_17 x2_17 x3_17 S_17 = some Z) (hP : va_P D vwCl (W_M q k S_17) H) (hD : va_D A (W_M q k S_17)) (hS : va_S A s.heap H locs) (ls : Array Slot) (hl : lv_has ls 6 [(1, .int x1_17), (2, .int x2_17), (3, .int x3_17)]), W p l e ({ frames := 4, cells := 0, slots := 0, locals := 94 } : Room) s m ([.ref (q 0), .int x1] : List Value).toArray below meth c H locs 0 0 (MQ below (va_Qi (fun r u => (r, u) = Z) (fun u t => va_P D vwCl (W_M q k u) t.heap) A) ([.ref (q 0), .int x1] : List Value).toArray s 0 0 A) (F0 m 87 ls []) := by
    intro x1_17 x2_17 x3_17 S_17   H locs hZ hP hD hS ls hl
    unfold f_X12_kept_87 at hZ
    refine lv_iload_n hx hb dX12_kept_87 rfl (lv_at hl 0 rfl) ?_
    refine lv_bipush (v := (100 : Int32)) hx hb dX12_kept_88 (by decide) ?_
    refine lv_icmp_ne (tgt := 97) hx hb dX12_kept_90 (by decide) (fun c_18 => ?_) (fun c_18 => ?_)
    · have hZ := jx_i_neg c_18 hZ
      refine lv_iload_n hx hb dX12_kept_97 rfl (lv_at hl 2 rfl) ?_
      exact leave_i hx hb hr hlocks hP hS hZ dX12_kept_98
    · have hZ := jx_i_pos c_18 hZ
      refine lv_iload_n hx hb dX12_kept_93 rfl (lv_at hl 1 rfl) ?_
      refine lv_goto (tgt := 98) hx hb dX12_kept_94 (by decide) ?_
      exact leave_i hx hb hr hlocks hP hS hZ dX12_kept_98
  unfold f_X12_kept at hZ
  refine lv_iload_n hx hb dX12_kept_0 rfl (lv_at hl 1 rfl) ?_
  refine lv_iconst (v := (0 : Int32)) hx hb dX12_kept_1 (by decide) ?_
  refine lv_bipush (v := (60 : Int32)) hx hb dX12_kept_2 (by decide) ?_
  obtain ⟨r_3, S_1, hc_2, hZ⟩ := jx_b2_some hZ
  refine call_Si SM_ok sameM ⟨hx, hb, hml, hown, hts⟩ (c_X12_in l D q k x1 (0 : Int32) (60 : Int32) S _ (r_3, S_1)  hc_2) (va_cwS 3 hts gX12_kept_X12_in rfl rfl rfl hd_X12_in ⟨Nat.le_of_ble_eq_true rfl, Nat.le_of_ble_eq_true rfl⟩) hK hP hD hS hA hsp (As := [.int x1, .int (0 : Int32), .int (60 : Int32)]) rfl hl.1 rfl (Nat.le_of_ble_eq_true rfl) dX12_kept_4 ⟨Nat.zero_le _, Nat.zero_le _⟩ (fun H locs hP hD hS => ?_)
  refine lv_if_eq (tgt := 16) hx hb dX12_kept_7 (by decide) (fun c_4 => ?_) (fun c_4 => ?_)
  · have hZ := jx_i_pos c_4 hZ
    refine lv_iload_n hx hb dX12_kept_16 rfl (lv_at hl 1 rfl) ?_
    refine lv_bipush (v := (100 : Int32)) hx hb dX12_kept_17 (by decide) ?_
    refine lv_bipush (v := (101 : Int32)) hx hb dX12_kept_19 (by decide) ?_
    obtain ⟨r_7, S_5, hc_6, hZ⟩ := jx_b2_some hZ
    refine call_Si SM_ok sameM ⟨hx, hb, hml, hown, hts⟩ (c_X12_in l D q k x1 (100 : Int32) (101 : Int32) S_1 _ (r_7, S_5)  hc_6) (va_cwS 3 hts gX12_kept_X12_in rfl rfl rfl hd_X12_in ⟨Nat.le_of_ble_eq_true rfl, Nat.le_of_ble_eq_true rfl⟩) hK hP hD hS hA hsp (As := [.int x1, .int (100 : Int32), .int (101 : Int32)]) rfl hl.1 rfl (Nat.le_of_ble_eq_true rfl) dX12_kept_21 ⟨Nat.zero_le _, Nat.zero_le _⟩ (fun H locs hP hD hS => ?_)
    refine lv_if_ne (tgt := 29) hx hb dX12_kept_24 (by decide) (fun c_8 => ?_) (fun c_8 => ?_)
    · have hZ := jx_i_neg c_8 hZ
      refine lv_iconst (v := (0 : Int32)) hx hb dX12_kept_29 (by decide) ?_
      refine lv_istore_n (lv' := [(2, .int (0 : Int32)), (0, .ref (q 0)), (1, .int x1)]) hx hb dX12_kept_30 rfl hl (by decide) rfl (fun ls hl => ?_)
      refine lv_aload_n hx hb dX12_kept_31 rfl (lv_at hl 1 rfl) ?_
      refine lv_iconst (v := (0 : Int32)) hx hb dX12_kept_32 (by decide) ?_
      obtain ⟨r_11, S_9, hc_10, hZ⟩ := jx_b2_some hZ
      refine call_Vi SM_ok sameM ⟨hx, hb, hml, hown, hts⟩ (c_X12_keptFor l D q k (0 : Int32) S_5 _ (r_11, S_9)  hc_10) (cwV 1 hts gX12_kept_X12_keptFor rfl rfl rfl hd_X12_keptFor ⟨Nat.le_of_ble_eq_true rfl, Nat.le_of_ble_eq_true rfl⟩) hK hP hD hS hA hsp (va_recv hK hP (ci := 12) (q0 := 0) rfl wM_0) (As := [.int (0 : Int32)]) rfl hl.1 rfl (Nat.le_of_ble_eq_true rfl) dX12_kept_33 ⟨Nat.zero_le _, Nat.zero_le _⟩ (fun H locs hP hD hS => ?_)
      refine lv_istore_n (lv' := [(3, .int r_11), (2, .int (0 : Int32)), (0, .ref (q 0)), (1, .int x1)]) hx hb dX12_kept_36 rfl hl (by decide) rfl (fun ls hl => ?_)
      refine lv_iconst (v := (1 : Int32)) hx hb dX12_kept_37 (by decide) ?_
      refine lv_istore (lv' := [(4, .int (1 : Int32)), (3, .int r_11), (2, .int (0 : Int32)), (0, .ref (q 0)), (1, .int x1)]) hx hb dX12_kept_38 hl (by decide) rfl (fun ls hl => ?_)
      obtain ⟨r_16, hw, hza_16⟩ := jx_b_some hZ
      have l_16 : ∀ (nn : Nat) (x2_12 : Int32) (x3_13 : Int32) (x4_14 : Int32) (S_15 : St) (H : Heap) (locs : List Loc) (hw : jx_w (g_X12_kept_40 x1) nn (x2_12, x3_13, x4_14, S_15) = some r_16) (hP : va_P D vwCl (W_M q k S_15) H) (hD : va_D A (W_M q k S_15)) (hS : va_S A s.heap H locs) (ls : Array Slot) (hl : lv_has ls 6 [(0, .ref (q 0)), (1, .int x1), (2, .int x2_12), (3, .int x3_13), (4, .int x4_14)]), W p l e ({ frames := 4, cells := 0, slots := 0, locals := 94 } : Room) s m ([.ref (q 0), .int x1] : List Value).toArray below meth c H locs 0 0 (MQ below (va_Qi (fun r u => (r, u) = Z) (fun u t => va_P D vwCl (W_M q k u) t.heap) A) ([.ref (q 0), .int x1] : List Value).toArray s 0 0 A) (F0 m 40 ls []) := by
        intro nn
        induction nn with
        | zero =>
          intro x2_12 x3_13 x4_14 S_15 H locs hw hP hD hS ls hl
          exact jx_w_zero hw
        | succ n_16 ih_16 =>
          intro x2_12 x3_13 x4_14 S_15 H locs hw hP hD hS ls hl
          obtain ⟨o_16, hZ, hk_16⟩ := jx_w_succ hw
          have hZ : b_X12_kept_40 x1 x2_12 x3_13 x4_14 S_15 = some o_16 := hZ
          have j80i40 : ∀ (x2_42 : Int32) (x4_42 : Int32) (s0_42 : Int32) (S_42 : St)  (o_16 : (Int32 × Int32 × Int32 × St) ⊕ ((Int32 × Int32 × St))) (hk_16 : jx_k (g_X12_kept_40 x1) n_16 r_16 o_16) (H : Heap) (locs : List Loc) (hZ : f_X12_kept_80i40 x1 x2_42 x4_42 s0_42 S_42 = some o_16) (hP : va_P D vwCl (W_M q k S_42) H) (hD : va_D A (W_M q k S_42)) (hS : va_S A s.heap H locs) (ls : Array Slot) (hl : lv_has ls 6 [(0, .ref (q 0)), (1, .int x1), (2, .int x2_42), (4, .int x4_42)]), W p l e ({ frames := 4, cells := 0, slots := 0, locals := 94 } : Room) s m ([.ref (q 0), .int x1] : List Value).toArray below meth c H locs 0 0 (MQ below (va_Qi (fun r u => (r, u) = Z) (fun u t => va_P D vwCl (W_M q k u) t.heap) A) ([.ref (q 0), .int x1] : List Value).toArray s 0 0 A) (F0 m 80 ls [.int s0_42]) := by
            intro x2_42 x4_42 s0_42 S_42  o_16 hk_16 H locs hZ hP hD hS ls hl
            unfold f_X12_kept_80i40 at hZ
            refine lv_istore_n (lv' := [(3, .int s0_42), (0, .ref (q 0)), (1, .int x1), (2, .int x2_42), (4, .int x4_42)]) hx hb dX12_kept_80 rfl hl (by decide) rfl (fun ls hl => ?_)
            obtain ⟨x4_43, e_x4_43, hZ⟩ := jx_l_some hZ
            refine lv_iinc (v := x4_43) (lv' := [(4, .int x4_43), (3, .int s0_42), (0, .ref (q 0)), (1, .int x1), (2, .int x2_42)]) hx hb dX12_kept_81 hl (k := 4) rfl (by rw [e_x4_43]; rfl) (by decide) rfl (fun ls hl => ?_)
            refine lv_goto (tgt := 40) hx hb dX12_kept_84 (by decide) ?_
            have ho := Option.some.inj hZ
            subst ho
            exact ih_16 x2_42 s0_42 x4_43 S_42 _ _ hk_16 hP hD hS _ (lv_sub hl [2, 3, 4, 1, 0] rfl)
          have j67i40 : ∀ (x3_40 : Int32) (x4_40 : Int32) (x5_40 : Int32) (s0_40 : Int32) (S_40 : St)  (o_16 : (Int32 × Int32 × Int32 × St) ⊕ ((Int32 × Int32 × St))) (hk_16 : jx_k (g_X12_kept_40 x1) n_16 r_16 o_16) (H : Heap) (locs : List Loc) (hZ : f_X12_kept_67i40 x1 x3_40 x4_40 x5_40 s0_40 S_40 = some o_16) (hP : va_P D vwCl (W_M q k S_40) H) (hD : va_D A (W_M q k S_40)) (hS : va_S A s.heap H locs) (ls : Array Slot) (hl : lv_has ls 6 [(0, .ref (q 0)), (1, .int x1), (3, .int x3_40), (4, .int x4_40), (5, .int x5_40)]), W p l e ({ frames := 4, cells := 0, slots := 0, locals := 94 } : Room) s m ([.ref (q 0), .int x1] : List Value).toArray below meth c H locs 0 0 (MQ below (va_Qi (fun r u => (r, u) = Z) (fun u t => va_P D vwCl (W_M q k u) t.heap) A) ([.ref (q 0), .int x1] : List Value).toArray s 0 0 A) (F0 m 67 ls [.int s0_40]) := by
            intro x3_40 x4_40 x5_40 s0_40 S_40  o_16 hk_16 H locs hZ hP hD hS ls hl
            unfold f_X12_kept_67i40 at hZ
            refine lv_istore_n (lv' := [(2, .int s0_40), (0, .ref (q 0)), (1, .int x1), (3, .int x3_40), (4, .int x4_40), (5, .int x5_40)]) hx hb dX12_kept_67 rfl hl (by decide) rfl (fun ls hl => ?_)
            refine lv_iload hx hb dX12_kept_68 (lv_at hl 5 rfl) ?_
            refine lv_iload_n hx hb dX12_kept_70 rfl (lv_at hl 3 rfl) ?_
            refine lv_icmp_le (tgt := 79) hx hb dX12_kept_71 (by decide) (fun c_41 => ?_) (fun c_41 => ?_)
            · have hZ := jx_i_pos c_41 hZ
              refine lv_iload_n hx hb dX12_kept_79 rfl (lv_at hl 3 rfl) ?_
              exact j80i40 s0_40 x4_40 x3_40 S_40 _ hk_16 _ _ hZ hP hD hS _ (lv_sub hl [1, 2, 0, 4] rfl)
            · have hZ := jx_i_neg c_41 hZ
              refine lv_iload hx hb dX12_kept_74 (lv_at hl 5 rfl) ?_
              refine lv_goto (tgt := 80) hx hb dX12_kept_76 (by decide) ?_
              exact j80i40 s0_40 x4_40 x5_40 S_40 _ hk_16 _ _ hZ hP hD hS _ (lv_sub hl [1, 2, 0, 4] rfl)
          unfold b_X12_kept_40 at hZ
          refine lv_iload hx hb dX12_kept_40 (lv_at hl 4 rfl) ?_
          refine lv_bipush (v := (60 : Int32)) hx hb dX12_kept_42 (by decide) ?_
          refine lv_icmp_gt (tgt := 87) hx hb dX12_kept_44 (by decide) (fun c_34 => ?_) (fun c_34 => ?_)
          · have hZ := jx_i_pos c_34 hZ
            have ho := Option.some.inj hZ
            subst ho
            have hE := hza_16
            rw [← (show (x2_12, x3_13, S_15) = r_16 from hk_16)] at hE
            have hZ : f_X12_kept_87 x1 x2_12 x3_13 S_15 = some Z := hE
            exact j87 x1 x2_12 x3_13 S_15 _ _ hZ hP hD hS _ (lv_sub hl [1, 2, 3] rfl)
          · have hZ := jx_i_neg c_34 hZ
            refine lv_aload_n hx hb dX12_kept_47 rfl (lv_at hl 0 rfl) ?_
            refine lv_iload hx hb dX12_kept_48 (lv_at hl 4 rfl) ?_
            obtain ⟨r_38, S_36, hc_37, hZ⟩ := jx_b2_some hZ
            refine call_Vi SM_ok sameM ⟨hx, hb, hml, hown, hts⟩ (c_X12_keptFor l D q k x4_14 S_15 _ (r_38, S_36)  hc_37) (cwV 1 hts gX12_kept_X12_keptFor rfl rfl rfl hd_X12_keptFor ⟨Nat.le_of_ble_eq_true rfl, Nat.le_of_ble_eq_true rfl⟩) hK hP hD hS hA hsp (va_recv hK hP (ci := 12) (q0 := 0) rfl wM_0) (As := [.int x4_14]) rfl hl.1 rfl (Nat.le_of_ble_eq_true rfl) dX12_kept_50 ⟨Nat.zero_le _, Nat.zero_le _⟩ (fun H locs hP hD hS => ?_)
            refine lv_istore (lv' := [(5, .int r_38), (0, .ref (q 0)), (1, .int x1), (2, .int x2_12), (3, .int x3_13), (4, .int x4_14)]) hx hb dX12_kept_53 hl (by decide) rfl (fun ls hl => ?_)
            refine lv_iload hx hb dX12_kept_55 (lv_at hl 0 rfl) ?_
            refine lv_iload_n hx hb dX12_kept_57 rfl (lv_at hl 4 rfl) ?_
            refine lv_icmp_le (tgt := 66) hx hb dX12_kept_58 (by decide) (fun c_39 => ?_) (fun c_39 => ?_)
            · have hZ := jx_i_pos c_39 hZ
              refine lv_iload_n hx hb dX12_kept_66 rfl (lv_at hl 3 rfl) ?_
              exact j67i40 x3_13 x4_14 r_38 x2_12 S_36 _ hk_16 _ _ hZ hP hD hS _ (lv_sub hl [1, 2, 4, 5, 0] rfl)
            · have hZ := jx_i_neg c_39 hZ
              refine lv_iload hx hb dX12_kept_61 (lv_at hl 5 rfl) ?_
              refine lv_goto (tgt := 67) hx hb dX12_kept_63 (by decide) ?_
              exact j67i40 x3_13 x4_14 r_38 x4_14 S_36 _ hk_16 _ _ hZ hP hD hS _ (lv_sub hl [1, 2, 4, 5, 0] rfl)
      exact l_16 FU (0 : Int32) r_11 (1 : Int32) S_9 _ _ hw hP hD hS _ (lv_sub hl [3, 4, 2, 1, 0] rfl)
    · have hZ := jx_i_pos c_8 hZ
      refine lv_iconst (v := (-1 : Int32)) hx hb dX12_kept_27 (by decide) ?_
      exact leave_i hx hb hr hlocks hP hS hZ dX12_kept_28
  · have hZ := jx_i_neg c_4 hZ
    refine lv_aload_n hx hb dX12_kept_10 rfl (lv_at hl 0 rfl) ?_
    refine lv_iload_n hx hb dX12_kept_11 rfl (lv_at hl 1 rfl) ?_
    obtain ⟨r_50, S_48, hc_49, hZ⟩ := jx_b2_some hZ
    refine call_Vi SM_ok sameM ⟨hx, hb, hml, hown, hts⟩ (c_X12_keptFor l D q k x1 S_1 _ (r_50, S_48)  hc_49) (cwV 1 hts gX12_kept_X12_keptFor rfl rfl rfl hd_X12_keptFor ⟨Nat.le_of_ble_eq_true rfl, Nat.le_of_ble_eq_true rfl⟩) hK hP hD hS hA hsp (va_recv hK hP (ci := 12) (q0 := 0) rfl wM_0) (As := [.int x1]) rfl hl.1 rfl (Nat.le_of_ble_eq_true rfl) dX12_kept_12 ⟨Nat.zero_le _, Nat.zero_le _⟩ (fun H locs hP hD hS => ?_)
    exact leave_i hx hb hr hlocks hP hS hZ dX12_kept_15
theorem hd_X12_heaps : yX12_heaps.cls = RX12 ∧ yX12_heaps.cls ≠ "java/lang/invoke/MethodHandle" ∧ yX12_heaps.cls ≠ "java/lang/invoke/VarHandle" ∧ (parseMethodDescriptor yX12_heaps.desc).map (fun d => d.parameters.length) = some 5 := by decide +kernel
-- X12_heaps
def f_X12_heaps_155 (rc : Int32 → Int32 → Int32 → Int32 → Int32 → St → Option (Int32 × St)) (x6_11 : Int32) (S_11 : St) : Option (Int32 × St) :=
  some (x6_11, S_11)
def b_X12_heaps_74 (rc : Int32 → Int32 → Int32 → Int32 → Int32 → St → Option (Int32 × St)) (x1 : Int32) (x2 : Int32) (x3 : Int32) (x4 : Int32) (x5 : Int32) (x6 : Int32) (x7 : Int32) (S : St) : Option ((Int32 × Int32 × St) ⊕ ((Int32 × St))) :=
  (if x3 < x7 then some (.inr (x6, S)) else jx_a x1 8 ((if x4 < (x7 * (S.1 4 (Int32.toNatClampNeg x1))) then some (.inr (x6, S)) else jx_a x1 8 ((if x5 < (x7 * (S.1 2 (Int32.toNatClampNeg x1))) then some (.inr (x6, S)) else jx_a x1 8 (jx_a x1 8 (jx_b2 (rc (x1 + (1 : Int32)) x2 (x3 - x7) (x4 - (x7 * (S.1 4 (Int32.toNatClampNeg x1)))) (x5 - (x7 * (S.1 2 (Int32.toNatClampNeg x1)))) S) (fun r_25 S_23 => jx_l (x6 + r_25) (fun x6_26 => jx_l (x7 + 1) (fun x7_27 => some (.inl (x6_26, x7_27, S_23))))))))))))
def g_X12_heaps_74 (rc : Int32 → Int32 → Int32 → Int32 → Int32 → St → Option (Int32 × St)) (x1 : Int32) (x2 : Int32) (x3 : Int32) (x4 : Int32) (x5 : Int32) : (Int32 × Int32 × St) → Option ((Int32 × Int32 × St) ⊕ ((Int32 × St))) := fun z => b_X12_heaps_74 rc x1 x2 x3 x4 x5 z.1 z.2.1 z.2.2
def fb_X12_heaps (rc : Int32 → Int32 → Int32 → Int32 → Int32 → St → Option (Int32 × St)) (x1 : Int32) (x2 : Int32) (x3 : Int32) (x4 : Int32) (x5 : Int32) (S : St) : Option (Int32 × St) :=
  (if x3 < 0 then some ((0 : Int32), S) else (if x4 < 0 then some ((0 : Int32), S) else (if 0 ≤ x5 then (if x1 = (S.1 0 0) then (if x3 = 0 then (if x4 = 0 then (if x5 = 0 then some ((1 : Int32), S) else some ((0 : Int32), S)) else some ((0 : Int32), S)) else some ((0 : Int32), S)) else jx_a x1 8 ((if (S.1 1 (Int32.toNatClampNeg x1)) = x2 then jx_b (jx_w (g_X12_heaps_74 rc x1 x2 x3 x4 x5) FU ((0 : Int32), (0 : Int32), S)) (fun z => f_X12_heaps_155 rc z.1 z.2) else jx_b2 (rc (x1 + (1 : Int32)) x2 x3 x4 x5 S) (fun r_45 S_43 => some (r_45, S_43))))) else some ((0 : Int32), S))))
def f_X12_heaps : Nat → Int32 → Int32 → Int32 → Int32 → Int32 → St → Option (Int32 × St)
  | 0, _, _, _, _, _, _ => none
  | n + 1, x1, x2, x3, x4, x5, S => fb_X12_heaps (f_X12_heaps n) x1 x2 x3 x4 x5 S
set_option maxHeartbeats 4000000 in
set_option maxRecDepth 100000 in
theorem cb_X12_heaps (l : Launch) (D : va_G) (q : Nat → Nat) (k : CI) (rc : Int32 → Int32 → Int32 → Int32 → Int32 → St → Option (Int32 × St)) (fr lo : Nat) (hrc : ∀ (x1 : Int32) (x2 : Int32) (x3 : Int32) (x4 : Int32) (x5 : Int32) (S : St) (sz : Nat) (Z : Int32 × St), rc x1 x2 x3 x4 x5 S = some Z → MetI W_M SM l yX12_heaps wsX12_heaps { frames := fr, cells := 0, slots := 0, locals := lo } [.ref (q 0), .int x1, .int x2, .int x3, .int x4, .int x5] D q k S sz Z) (x1 : Int32) (x2 : Int32) (x3 : Int32) (x4 : Int32) (x5 : Int32) (S : St) (sz : Nat) (Z : Int32 × St) (hZ : fb_X12_heaps rc x1 x2 x3 x4 x5 S = some Z) : MetI W_M SM l yX12_heaps wsX12_heaps { frames := fr + 1, cells := 0, slots := 0, locals := lo + 27 } [.ref (q 0), .int x1, .int x2, .int x3, .int x4, .int x5] D q k S sz Z := by
  refine enter (cc := cX12_heaps) (maxL := 8) (ret := some .int) (by decide) rfl (Nat.le_of_ble_eq_true rfl) ?_
  intro p e s m below meth c A ls hx hb hr hts hown hlocks hml hP hK hD hA hS hsp hAe hl
  have hown : s.vm.findClass RX12 = some m.cls := hown
  have hl : lv_has ls 8 [(0, .ref (q 0)), (1, .int x1), (2, .int x2), (3, .int x3), (4, .int x4), (5, .int x5)] := hl
  have in12 : ∀ w ∈ wsX120, w ∈ wsX12_heaps := fun _ h => (List.mem_cons_of_mem _ (List.mem_append_right _ h))
  have j155 : ∀ (x6_11 : Int32) (S_11 : St)  (H : Heap) (locs : List Loc) (hZ : f_X12_heaps_155 rc x6_11 S_11 = some Z) (hP : va_P D vwCl (W_M q k S_11) H) (hD : va_D A (W_M q k S_11)) (hS : va_S A s.heap H locs) (ls : Array Slot) (hl : lv_has ls 8 [(6, .int x6_11)]), W p l e ({ frames := fr + 1, cells := 0, slots := 0, locals := lo + 27 } : Room) s m ([.ref (q 0), .int x1, .int x2, .int x3, .int x4, .int x5] : List Value).toArray below meth c H locs 0 0 (MQ below (va_Qi (fun r u => (r, u) = Z) (fun u t => va_P D vwCl (W_M q k u) t.heap) A) ([.ref (q 0), .int x1, .int x2, .int x3, .int x4, .int x5] : List Value).toArray s 0 0 A) (F0 m 155 ls []) := by
    intro x6_11 S_11   H locs hZ hP hD hS ls hl
    unfold f_X12_heaps_155 at hZ
    refine lv_iload hx hb dX12_heaps_155 (lv_at hl 0 rfl) ?_
    exact leave_i hx hb hr hlocks hP hS hZ dX12_heaps_157
  unfold fb_X12_heaps at hZ
  refine lv_iload_n hx hb dX12_heaps_0 rfl (lv_at hl 3 rfl) ?_
  refine lv_if_lt (tgt := 14) hx hb dX12_heaps_1 (by decide) (fun c_1 => ?_) (fun c_1 => ?_)
  · have hZ := jx_i_pos c_1 hZ
    refine lv_iconst (v := (0 : Int32)) hx hb dX12_heaps_14 (by decide) ?_
    exact leave_i hx hb hr hlocks hP hS hZ dX12_heaps_15
  · have hZ := jx_i_neg c_1 hZ
    refine lv_iload hx hb dX12_heaps_4 (lv_at hl 4 rfl) ?_
    refine lv_if_lt (tgt := 14) hx hb dX12_heaps_6 (by decide) (fun c_2 => ?_) (fun c_2 => ?_)
    · have hZ := jx_i_pos c_2 hZ
      refine lv_iconst (v := (0 : Int32)) hx hb dX12_heaps_14 (by decide) ?_
      exact leave_i hx hb hr hlocks hP hS hZ dX12_heaps_15
    · have hZ := jx_i_neg c_2 hZ
      refine lv_iload hx hb dX12_heaps_9 (lv_at hl 5 rfl) ?_
      refine lv_if_ge (tgt := 16) hx hb dX12_heaps_11 (by decide) (fun c_3 => ?_) (fun c_3 => ?_)
      · have hZ := jx_i_pos c_3 hZ
        refine lv_iload_n hx hb dX12_heaps_16 rfl (lv_at hl 1 rfl) ?_
        refine lv_aload_n hx hb dX12_heaps_17 rfl (lv_at hl 0 rfl) ?_
        refine gf_12_sorts hx hb hts in12 hown hK hP (hts (.fieldLink RX12 114 "CoinsOfLastModel" "sorts" "I") (List.mem_of_getElem? (i := 1) rfl)) dX12_heaps_18 ?_
        refine lv_icmp_ne (tgt := 44) hx hb dX12_heaps_21 (by decide) (fun c_4 => ?_) (fun c_4 => ?_)
        · have hZ := jx_i_neg c_4 hZ
          refine lv_aload_n hx hb dX12_heaps_44 rfl (lv_at hl 0 rfl) ?_
          refine gf_12_landOf hx hb hts in12 hown hK hP (hts (.fieldLink RX12 7 "CoinsOfLastModel" "landOf" "[I") (List.mem_of_getElem? (i := 2) rfl)) dX12_heaps_45 ?_
          refine lv_iload_n hx hb dX12_heaps_48 rfl (lv_at hl 1 rfl) ?_
          obtain ⟨c_5, hZ⟩ := jx_a_some hZ
          refine M_iald hx hb hK hP wM_1 c_5 dX12_heaps_49 ?_
          refine lv_iload_n hx hb dX12_heaps_50 rfl (lv_at hl 2 rfl) ?_
          refine lv_icmp_eq (tgt := 68) hx hb dX12_heaps_51 (by decide) (fun c_6 => ?_) (fun c_6 => ?_)
          · have hZ := jx_i_pos c_6 hZ
            refine lv_iconst (v := (0 : Int32)) hx hb dX12_heaps_68 (by decide) ?_
            refine lv_istore (lv' := [(6, .int (0 : Int32)), (0, .ref (q 0)), (1, .int x1), (2, .int x2), (3, .int x3), (4, .int x4), (5, .int x5)]) hx hb dX12_heaps_69 hl (by decide) rfl (fun ls hl => ?_)
            refine lv_iconst (v := (0 : Int32)) hx hb dX12_heaps_71 (by decide) ?_
            refine lv_istore (lv' := [(7, .int (0 : Int32)), (6, .int (0 : Int32)), (0, .ref (q 0)), (1, .int x1), (2, .int x2), (3, .int x3), (4, .int x4), (5, .int x5)]) hx hb dX12_heaps_72 hl (by decide) rfl (fun ls hl => ?_)
            obtain ⟨r_10, hw, hza_10⟩ := jx_b_some hZ
            have l_10 : ∀ (nn : Nat) (x6_7 : Int32) (x7_8 : Int32) (S_9 : St) (H : Heap) (locs : List Loc) (hw : jx_w (g_X12_heaps_74 rc x1 x2 x3 x4 x5) nn (x6_7, x7_8, S_9) = some r_10) (hP : va_P D vwCl (W_M q k S_9) H) (hD : va_D A (W_M q k S_9)) (hS : va_S A s.heap H locs) (ls : Array Slot) (hl : lv_has ls 8 [(0, .ref (q 0)), (1, .int x1), (2, .int x2), (3, .int x3), (4, .int x4), (5, .int x5), (6, .int x6_7), (7, .int x7_8)]), W p l e ({ frames := fr + 1, cells := 0, slots := 0, locals := lo + 27 } : Room) s m ([.ref (q 0), .int x1, .int x2, .int x3, .int x4, .int x5] : List Value).toArray below meth c H locs 0 0 (MQ below (va_Qi (fun r u => (r, u) = Z) (fun u t => va_P D vwCl (W_M q k u) t.heap) A) ([.ref (q 0), .int x1, .int x2, .int x3, .int x4, .int x5] : List Value).toArray s 0 0 A) (F0 m 74 ls []) := by
              intro nn
              induction nn with
              | zero =>
                intro x6_7 x7_8 S_9 H locs hw hP hD hS ls hl
                exact jx_w_zero hw
              | succ n_10 ih_10 =>
                intro x6_7 x7_8 S_9 H locs hw hP hD hS ls hl
                obtain ⟨o_10, hZ, hk_10⟩ := jx_w_succ hw
                have hZ : b_X12_heaps_74 rc x1 x2 x3 x4 x5 x6_7 x7_8 S_9 = some o_10 := hZ
                unfold b_X12_heaps_74 at hZ
                refine lv_iload hx hb dX12_heaps_74 (lv_at hl 7 rfl) ?_
                refine lv_iload_n hx hb dX12_heaps_76 rfl (lv_at hl 3 rfl) ?_
                refine lv_icmp_gt (tgt := 155) hx hb dX12_heaps_77 (by decide) (fun c_28 => ?_) (fun c_28 => ?_)
                · have hZ := jx_i_pos c_28 hZ
                  have ho := Option.some.inj hZ
                  subst ho
                  have hE := hza_10
                  rw [← (show (x6_7, S_9) = r_10 from hk_10)] at hE
                  have hZ : f_X12_heaps_155 rc x6_7 S_9 = some Z := hE
                  exact j155 x6_7 S_9 _ _ hZ hP hD hS _ (lv_sub hl [6] rfl)
                · have hZ := jx_i_neg c_28 hZ
                  refine lv_iload hx hb dX12_heaps_80 (lv_at hl 7 rfl) ?_
                  refine lv_aload_n hx hb dX12_heaps_82 rfl (lv_at hl 0 rfl) ?_
                  refine gf_12_weight hx hb hts in12 hown hK hP (hts (.fieldLink RX12 19 "CoinsOfLastModel" "weight" "[I") (List.mem_of_getElem? (i := 3) rfl)) dX12_heaps_83 ?_
                  refine lv_iload_n hx hb dX12_heaps_86 rfl (lv_at hl 1 rfl) ?_
                  obtain ⟨c_30, hZ⟩ := jx_a_some hZ
                  refine M_iald hx hb hK hP wM_4 c_30 dX12_heaps_87 ?_
                  refine lv_imul hx hb dX12_heaps_88 ?_
                  refine lv_iload hx hb dX12_heaps_89 (lv_at hl 4 rfl) ?_
                  refine lv_icmp_gt (tgt := 155) hx hb dX12_heaps_91 (by decide) (fun c_31 => ?_) (fun c_31 => ?_)
                  · have hZ := jx_i_pos c_31 hZ
                    have ho := Option.some.inj hZ
                    subst ho
                    have hE := hza_10
                    rw [← (show (x6_7, S_9) = r_10 from hk_10)] at hE
                    have hZ : f_X12_heaps_155 rc x6_7 S_9 = some Z := hE
                    exact j155 x6_7 S_9 _ _ hZ hP hD hS _ (lv_sub hl [6] rfl)
                  · have hZ := jx_i_neg c_31 hZ
                    refine lv_iload hx hb dX12_heaps_94 (lv_at hl 7 rfl) ?_
                    refine lv_aload_n hx hb dX12_heaps_96 rfl (lv_at hl 0 rfl) ?_
                    refine gf_12_worth hx hb hts in12 hown hK hP (hts (.fieldLink RX12 13 "CoinsOfLastModel" "worth" "[I") (List.mem_of_getElem? (i := 4) rfl)) dX12_heaps_97 ?_
                    refine lv_iload_n hx hb dX12_heaps_100 rfl (lv_at hl 1 rfl) ?_
                    obtain ⟨c_33, hZ⟩ := jx_a_some hZ
                    refine M_iald hx hb hK hP wM_2 c_33 dX12_heaps_101 ?_
                    refine lv_imul hx hb dX12_heaps_102 ?_
                    refine lv_iload hx hb dX12_heaps_103 (lv_at hl 5 rfl) ?_
                    refine lv_icmp_gt (tgt := 155) hx hb dX12_heaps_105 (by decide) (fun c_34 => ?_) (fun c_34 => ?_)
                    · have hZ := jx_i_pos c_34 hZ
                      have ho := Option.some.inj hZ
                      subst ho
                      have hE := hza_10
                      rw [← (show (x6_7, S_9) = r_10 from hk_10)] at hE
                      have hZ : f_X12_heaps_155 rc x6_7 S_9 = some Z := hE
                      exact j155 x6_7 S_9 _ _ hZ hP hD hS _ (lv_sub hl [6] rfl)
                    · have hZ := jx_i_neg c_34 hZ
                      refine lv_iload hx hb dX12_heaps_108 (lv_at hl 6 rfl) ?_
                      refine lv_aload_n hx hb dX12_heaps_110 rfl (lv_at hl 0 rfl) ?_
                      refine lv_iload_n hx hb dX12_heaps_111 rfl (lv_at hl 1 rfl) ?_
                      refine lv_iconst (v := (1 : Int32)) hx hb dX12_heaps_112 (by decide) ?_
                      refine lv_iadd hx hb dX12_heaps_113 ?_
                      refine lv_iload_n hx hb dX12_heaps_114 rfl (lv_at hl 2 rfl) ?_
                      refine lv_iload_n hx hb dX12_heaps_115 rfl (lv_at hl 3 rfl) ?_
                      refine lv_iload hx hb dX12_heaps_116 (lv_at hl 7 rfl) ?_
                      refine lv_isub hx hb dX12_heaps_118 ?_
                      refine lv_iload hx hb dX12_heaps_119 (lv_at hl 4 rfl) ?_
                      refine lv_iload hx hb dX12_heaps_121 (lv_at hl 7 rfl) ?_
                      refine lv_aload_n hx hb dX12_heaps_123 rfl (lv_at hl 0 rfl) ?_
                      refine gf_12_weight hx hb hts in12 hown hK hP (hts (.fieldLink RX12 19 "CoinsOfLastModel" "weight" "[I") (List.mem_of_getElem? (i := 3) rfl)) dX12_heaps_124 ?_
                      refine lv_iload_n hx hb dX12_heaps_127 rfl (lv_at hl 1 rfl) ?_
                      obtain ⟨c_36, hZ⟩ := jx_a_some hZ
                      refine M_iald hx hb hK hP wM_4 c_36 dX12_heaps_128 ?_
                      refine lv_imul hx hb dX12_heaps_129 ?_
                      refine lv_isub hx hb dX12_heaps_130 ?_
                      refine lv_iload hx hb dX12_heaps_131 (lv_at hl 5 rfl) ?_
                      refine lv_iload hx hb dX12_heaps_133 (lv_at hl 7 rfl) ?_
                      refine lv_aload_n hx hb dX12_heaps_135 rfl (lv_at hl 0 rfl) ?_
                      refine gf_12_worth hx hb hts in12 hown hK hP (hts (.fieldLink RX12 13 "CoinsOfLastModel" "worth" "[I") (List.mem_of_getElem? (i := 4) rfl)) dX12_heaps_136 ?_
                      refine lv_iload_n hx hb dX12_heaps_139 rfl (lv_at hl 1 rfl) ?_
                      obtain ⟨c_37, hZ⟩ := jx_a_some hZ
                      refine M_iald hx hb hK hP wM_2 c_37 dX12_heaps_140 ?_
                      refine lv_imul hx hb dX12_heaps_141 ?_
                      refine lv_isub hx hb dX12_heaps_142 ?_
                      obtain ⟨r_40, S_38, hc_39, hZ⟩ := jx_b2_some hZ
                      refine call_Vi SM_ok sameM ⟨hx, hb, hml, hown, hts⟩ (hrc (x1 + (1 : Int32)) x2 (x3 - x7_8) (x4 - (x7_8 * (S_9.1 4 (Int32.toNatClampNeg x1)))) (x5 - (x7_8 * (S_9.1 2 (Int32.toNatClampNeg x1)))) S_9 _ (r_40, S_38)  hc_39) (cwV 5 hts gX12_heaps_X12_heaps rfl rfl rfl hd_X12_heaps ⟨by dsimp only; omega, by dsimp only; omega⟩) hK hP hD hS hA hsp (va_recv hK hP (ci := 12) (q0 := 0) rfl wM_0) (As := [.int (x1 + (1 : Int32)), .int x2, .int (x3 - x7_8), .int (x4 - (x7_8 * (S_9.1 4 (Int32.toNatClampNeg x1)))), .int (x5 - (x7_8 * (S_9.1 2 (Int32.toNatClampNeg x1))))]) rfl hl.1 rfl (Nat.le_of_ble_eq_true rfl) dX12_heaps_143 ⟨Nat.zero_le _, Nat.zero_le _⟩ (fun H locs hP hD hS => ?_)
                      refine lv_iadd hx hb dX12_heaps_146 ?_
                      obtain ⟨x6_41, e_x6_41, hZ⟩ := jx_l_some hZ
                      refine tx_i e_x6_41 ?_
                      refine lv_istore (lv' := [(6, .int x6_41), (0, .ref (q 0)), (1, .int x1), (2, .int x2), (3, .int x3), (4, .int x4), (5, .int x5), (7, .int x7_8)]) hx hb dX12_heaps_147 hl (by decide) rfl (fun ls hl => ?_)
                      obtain ⟨x7_42, e_x7_42, hZ⟩ := jx_l_some hZ
                      refine lv_iinc (v := x7_42) (lv' := [(7, .int x7_42), (6, .int x6_41), (0, .ref (q 0)), (1, .int x1), (2, .int x2), (3, .int x3), (4, .int x4), (5, .int x5)]) hx hb dX12_heaps_149 hl (k := 7) rfl (by rw [e_x7_42]; rfl) (by decide) rfl (fun ls hl => ?_)
                      refine lv_goto (tgt := 74) hx hb dX12_heaps_152 (by decide) ?_
                      have ho := Option.some.inj hZ
                      subst ho
                      exact ih_10 x6_41 x7_42 S_38 _ _ hk_10 hP hD hS _ (lv_sub hl [2, 3, 4, 5, 6, 7, 1, 0] rfl)
            exact l_10 FU (0 : Int32) (0 : Int32) S _ _ hw hP hD hS _ (lv_sub hl [2, 3, 4, 5, 6, 7, 1, 0] rfl)
          · have hZ := jx_i_neg c_6 hZ
            refine lv_aload_n hx hb dX12_heaps_54 rfl (lv_at hl 0 rfl) ?_
            refine lv_iload_n hx hb dX12_heaps_55 rfl (lv_at hl 1 rfl) ?_
            refine lv_iconst (v := (1 : Int32)) hx hb dX12_heaps_56 (by decide) ?_
            refine lv_iadd hx hb dX12_heaps_57 ?_
            refine lv_iload_n hx hb dX12_heaps_58 rfl (lv_at hl 2 rfl) ?_
            refine lv_iload_n hx hb dX12_heaps_59 rfl (lv_at hl 3 rfl) ?_
            refine lv_iload hx hb dX12_heaps_60 (lv_at hl 4 rfl) ?_
            refine lv_iload hx hb dX12_heaps_62 (lv_at hl 5 rfl) ?_
            obtain ⟨r_45, S_43, hc_44, hZ⟩ := jx_b2_some hZ
            refine call_Vi SM_ok sameM ⟨hx, hb, hml, hown, hts⟩ (hrc (x1 + (1 : Int32)) x2 x3 x4 x5 S _ (r_45, S_43)  hc_44) (cwV 5 hts gX12_heaps_X12_heaps rfl rfl rfl hd_X12_heaps ⟨by dsimp only; omega, by dsimp only; omega⟩) hK hP hD hS hA hsp (va_recv hK hP (ci := 12) (q0 := 0) rfl wM_0) (As := [.int (x1 + (1 : Int32)), .int x2, .int x3, .int x4, .int x5]) rfl hl.1 rfl (Nat.le_of_ble_eq_true rfl) dX12_heaps_64 ⟨Nat.zero_le _, Nat.zero_le _⟩ (fun H locs hP hD hS => ?_)
            exact leave_i hx hb hr hlocks hP hS hZ dX12_heaps_67
        · have hZ := jx_i_pos c_4 hZ
          refine lv_iload_n hx hb dX12_heaps_24 rfl (lv_at hl 3 rfl) ?_
          refine lv_if_ne (tgt := 42) hx hb dX12_heaps_25 (by decide) (fun c_46 => ?_) (fun c_46 => ?_)
          · have hZ := jx_i_neg c_46 hZ
            refine lv_iconst (v := (0 : Int32)) hx hb dX12_heaps_42 (by decide) ?_
            exact leave_i hx hb hr hlocks hP hS hZ dX12_heaps_43
          · have hZ := jx_i_pos c_46 hZ
            refine lv_iload hx hb dX12_heaps_28 (lv_at hl 4 rfl) ?_
            refine lv_if_ne (tgt := 42) hx hb dX12_heaps_30 (by decide) (fun c_47 => ?_) (fun c_47 => ?_)
            · have hZ := jx_i_neg c_47 hZ
              refine lv_iconst (v := (0 : Int32)) hx hb dX12_heaps_42 (by decide) ?_
              exact leave_i hx hb hr hlocks hP hS hZ dX12_heaps_43
            · have hZ := jx_i_pos c_47 hZ
              refine lv_iload hx hb dX12_heaps_33 (lv_at hl 5 rfl) ?_
              refine lv_if_ne (tgt := 42) hx hb dX12_heaps_35 (by decide) (fun c_48 => ?_) (fun c_48 => ?_)
              · have hZ := jx_i_neg c_48 hZ
                refine lv_iconst (v := (0 : Int32)) hx hb dX12_heaps_42 (by decide) ?_
                exact leave_i hx hb hr hlocks hP hS hZ dX12_heaps_43
              · have hZ := jx_i_pos c_48 hZ
                refine lv_iconst (v := (1 : Int32)) hx hb dX12_heaps_38 (by decide) ?_
                refine lv_goto (tgt := 43) hx hb dX12_heaps_39 (by decide) ?_
                exact leave_i hx hb hr hlocks hP hS hZ dX12_heaps_43
      · have hZ := jx_i_neg c_3 hZ
        refine lv_iconst (v := (0 : Int32)) hx hb dX12_heaps_14 (by decide) ?_
        exact leave_i hx hb hr hlocks hP hS hZ dX12_heaps_15
theorem c_X12_heaps (l : Launch) (D : va_G) (q : Nat → Nat) (k : CI) : ∀ (n : Nat) (x1 : Int32) (x2 : Int32) (x3 : Int32) (x4 : Int32) (x5 : Int32) (S : St) (sz : Nat) (Z : Int32 × St) (hZ : f_X12_heaps n x1 x2 x3 x4 x5 S = some Z), MetI W_M SM l yX12_heaps wsX12_heaps { frames := 1 * n, cells := 0, slots := 0, locals := 27 * n } [.ref (q 0), .int x1, .int x2, .int x3, .int x4, .int x5] D q k S sz Z := by
  intro n
  induction n with
  | zero =>
    intro x1 x2 x3 x4 x5 S sz Z  hZ
    unfold f_X12_heaps at hZ
    cases hZ
  | succ n ih =>
    intro x1 x2 x3 x4 x5 S sz Z  hZ
    unfold f_X12_heaps at hZ
    exact cb_X12_heaps l D q k (f_X12_heaps n) (1 * n) (27 * n) ih x1 x2 x3 x4 x5 S sz Z  hZ
