theorem hd_X10_tellFee : yX10_tellFee.cls = RX10 ∧ yX10_tellFee.cls ≠ "java/lang/invoke/MethodHandle" ∧ yX10_tellFee.cls ≠ "java/lang/invoke/VarHandle" ∧ (parseMethodDescriptor yX10_tellFee.desc).map (fun d => d.parameters.length) = some 1 := by decide +kernel
theorem hd_X10_tellShare : yX10_tellShare.cls = RX10 ∧ yX10_tellShare.cls ≠ "java/lang/invoke/MethodHandle" ∧ yX10_tellShare.cls ≠ "java/lang/invoke/VarHandle" ∧ (parseMethodDescriptor yX10_tellShare.desc).map (fun d => d.parameters.length) = some 1 := by decide +kernel
-- X11_window
def f_X11_window (x1 : Int32) (x2 : Int32) (S : St) : Option (Int32 × St) :=
  jx_b2 (f_X11_within x1 (0 : Int32) (1 : Int32) S) (fun r_3 S_1 => (if r_3 = 0 then some ((-1 : Int32), S_1) else jx_b2 (f_X11_within x2 (0 : Int32) (99 : Int32) S_1) (fun r_7 S_5 => (if r_7 = 0 then some ((-1 : Int32), S_5) else (if x1 = 0 then jx_b2 (f_X10_tellShare x2 S_5) (fun r_15 S_13 => some (r_15, S_13)) else jx_b2 (f_X10_tellFee x2 S_5) (fun r_12 S_10 => some (r_12, S_10)))))))
set_option maxHeartbeats 4000000 in
set_option maxRecDepth 100000 in
theorem c_X11_window (l : Launch) (D : va_G) (q : Nat → Nat) (k : CI) (x1 : Int32) (x2 : Int32) (S : St) (sz : Nat) (Z : Int32 × St) (hZ : f_X11_window x1 x2 S = some Z) : MetI W_X SX l yX11_window wsX11_window { frames := 1, cells := 0, slots := 0, locals := 22 } [.ref (q 0), .int x1, .int x2] D q k S sz Z := by
  refine enter (cc := cX11_window) (maxL := 3) (ret := some .int) (by decide) rfl (Nat.le_of_ble_eq_true rfl) ?_
  intro p e s m below meth c A ls hx hb hr hts hown hlocks hml hP hK hD hA hS hsp hAe hl
  have hown : s.vm.findClass RX11 = some m.cls := hown
  have hl : lv_has ls 3 [(0, .ref (q 0)), (1, .int x1), (2, .int x2)] := hl
  have in11 : ∀ w ∈ wsX110, w ∈ wsX11_window := fun _ h => (List.mem_cons_of_mem _ (List.mem_append_left _ (List.mem_append_right _ h)))
  unfold f_X11_window at hZ
  refine lv_iload_n hx hb dX11_window_0 rfl (lv_at hl 1 rfl) ?_
  refine lv_iconst (v := (0 : Int32)) hx hb dX11_window_1 (by decide) ?_
  refine lv_iconst (v := (1 : Int32)) hx hb dX11_window_2 (by decide) ?_
  obtain ⟨r_3, S_1, hc_2, hZ⟩ := jx_b2_some hZ
  refine call_Si SX_ok sameX ⟨hx, hb, hml, hown, hts⟩ (c_X11_within l D q k x1 (0 : Int32) (1 : Int32) S _ (r_3, S_1)  hc_2) (va_cwS 3 hts gX11_window_X11_within rfl rfl rfl hd_X11_within ⟨Nat.le_of_ble_eq_true rfl, Nat.le_of_ble_eq_true rfl⟩) hK hP hD hS hA hsp (As := [.int x1, .int (0 : Int32), .int (1 : Int32)]) rfl hl.1 rfl (Nat.le_of_ble_eq_true rfl) dX11_window_3 ⟨Nat.zero_le _, Nat.zero_le _⟩ (fun H locs hP hD hS => ?_)
  refine lv_if_eq (tgt := 19) hx hb dX11_window_6 (by decide) (fun c_4 => ?_) (fun c_4 => ?_)
  · have hZ := jx_i_pos c_4 hZ
    refine lv_iconst (v := (-1 : Int32)) hx hb dX11_window_19 (by decide) ?_
    exact leave_i hx hb hr hlocks hP hS hZ dX11_window_20
  · have hZ := jx_i_neg c_4 hZ
    refine lv_iload_n hx hb dX11_window_9 rfl (lv_at hl 2 rfl) ?_
    refine lv_iconst (v := (0 : Int32)) hx hb dX11_window_10 (by decide) ?_
    refine lv_bipush (v := (99 : Int32)) hx hb dX11_window_11 (by decide) ?_
    obtain ⟨r_7, S_5, hc_6, hZ⟩ := jx_b2_some hZ
    refine call_Si SX_ok sameX ⟨hx, hb, hml, hown, hts⟩ (c_X11_within l D q k x2 (0 : Int32) (99 : Int32) S_1 _ (r_7, S_5)  hc_6) (va_cwS 3 hts gX11_window_X11_within rfl rfl rfl hd_X11_within ⟨Nat.le_of_ble_eq_true rfl, Nat.le_of_ble_eq_true rfl⟩) hK hP hD hS hA hsp (As := [.int x2, .int (0 : Int32), .int (99 : Int32)]) rfl hl.1 rfl (Nat.le_of_ble_eq_true rfl) dX11_window_13 ⟨Nat.zero_le _, Nat.zero_le _⟩ (fun H locs hP hD hS => ?_)
    refine lv_if_ne (tgt := 21) hx hb dX11_window_16 (by decide) (fun c_8 => ?_) (fun c_8 => ?_)
    · have hZ := jx_i_neg c_8 hZ
      refine lv_iload_n hx hb dX11_window_21 rfl (lv_at hl 1 rfl) ?_
      refine lv_if_ne (tgt := 36) hx hb dX11_window_22 (by decide) (fun c_9 => ?_) (fun c_9 => ?_)
      · have hZ := jx_i_neg c_9 hZ
        refine lv_aload_n hx hb dX11_window_36 rfl (lv_at hl 0 rfl) ?_
        refine gf_11_office hx hb hts in11 hown hK hP (hts (.fieldLink RX11 40 "CoinsOfLast" "office" "LCoinsOfLast$Window;") (List.mem_of_getElem? (i := 1) rfl)) dX11_window_37 ?_
        refine lv_iload_n hx hb dX11_window_40 rfl (lv_at hl 2 rfl) ?_
        obtain ⟨r_12, S_10, hc_11, hZ⟩ := jx_b2_some hZ
        refine call_Vi SX_ok sameX ⟨hx, hb, hml, hown, hts⟩ (c_X10_tellFee l D q k x2 S_5 _ (r_12, S_10)  hc_11) (cwV 1 hts gX11_window_X10_tellFee rfl rfl rfl hd_X10_tellFee ⟨Nat.le_of_ble_eq_true rfl, Nat.le_of_ble_eq_true rfl⟩) hK hP hD hS hA hsp (va_recv hK hP (ci := 10) (q0 := 21) rfl wX_21) (As := [.int x2]) rfl hl.1 rfl (Nat.le_of_ble_eq_true rfl) dX11_window_41 ⟨Nat.zero_le _, Nat.zero_le _⟩ (fun H locs hP hD hS => ?_)
        exact leave_i hx hb hr hlocks hP hS hZ dX11_window_44
      · have hZ := jx_i_pos c_9 hZ
        refine lv_aload_n hx hb dX11_window_25 rfl (lv_at hl 0 rfl) ?_
        refine gf_11_office hx hb hts in11 hown hK hP (hts (.fieldLink RX11 40 "CoinsOfLast" "office" "LCoinsOfLast$Window;") (List.mem_of_getElem? (i := 1) rfl)) dX11_window_26 ?_
        refine lv_iload_n hx hb dX11_window_29 rfl (lv_at hl 2 rfl) ?_
        obtain ⟨r_15, S_13, hc_14, hZ⟩ := jx_b2_some hZ
        refine call_Vi SX_ok sameX ⟨hx, hb, hml, hown, hts⟩ (c_X10_tellShare l D q k x2 S_5 _ (r_15, S_13)  hc_14) (cwV 1 hts gX11_window_X10_tellShare rfl rfl rfl hd_X10_tellShare ⟨Nat.le_of_ble_eq_true rfl, Nat.le_of_ble_eq_true rfl⟩) hK hP hD hS hA hsp (va_recv hK hP (ci := 10) (q0 := 21) rfl wX_21) (As := [.int x2]) rfl hl.1 rfl (Nat.le_of_ble_eq_true rfl) dX11_window_30 ⟨Nat.zero_le _, Nat.zero_le _⟩ (fun H locs hP hD hS => ?_)
        refine lv_goto (tgt := 44) hx hb dX11_window_33 (by decide) ?_
        exact leave_i hx hb hr hlocks hP hS hZ dX11_window_44
    · have hZ := jx_i_pos c_8 hZ
      refine lv_iconst (v := (-1 : Int32)) hx hb dX11_window_19 (by decide) ?_
      exact leave_i hx hb hr hlocks hP hS hZ dX11_window_20
-- X11_mendable
def f_X11_mendable (x1 : Int32) (x2 : Int32) (S : St) : Option (Int32 × St) :=
  (if x2 = (0 : Int32) then jx_a x1 8 (some ((S.1 3 (Int32.toNatClampNeg x1)), S)) else if x2 = (1 : Int32) then jx_a x1 8 (some ((S.1 4 (Int32.toNatClampNeg x1)), S)) else if x2 = (2 : Int32) then jx_a x1 8 (some ((S.1 5 (Int32.toNatClampNeg x1)), S)) else if x2 = (3 : Int32) then jx_a x1 10 (some ((S.1 9 (Int32.toNatClampNeg x1)), S)) else jx_a x1 10 (some ((S.1 10 (Int32.toNatClampNeg x1)), S)))
set_option maxHeartbeats 4000000 in
set_option maxRecDepth 100000 in
theorem c_X11_mendable (l : Launch) (D : va_G) (q : Nat → Nat) (k : CI) (x1 : Int32) (x2 : Int32) (S : St) (sz : Nat) (Z : Int32 × St) (hZ : f_X11_mendable x1 x2 S = some Z) : MetI W_X SX l yX11_mendable wsX11_mendable { frames := 0, cells := 0, slots := 0, locals := 0 } [.ref (q 0), .int x1, .int x2] D q k S sz Z := by
  refine enter (cc := cX11_mendable) (maxL := 3) (ret := some .int) (by decide) rfl (Nat.le_of_ble_eq_true rfl) ?_
  intro p e s m below meth c A ls hx hb hr hts hown hlocks hml hP hK hD hA hS hsp hAe hl
  have hown : s.vm.findClass RX11 = some m.cls := hown
  have hl : lv_has ls 3 [(0, .ref (q 0)), (1, .int x1), (2, .int x2)] := hl
  have in1 : ∀ w ∈ wsX10, w ∈ wsX11_mendable := fun _ h => (List.mem_cons_of_mem _ (List.mem_append_left _ (List.mem_append_right _ h)))
  have in9 : ∀ w ∈ wsX90, w ∈ wsX11_mendable := fun _ h => (List.mem_cons_of_mem _ (List.mem_append_right _ h))
  have in11 : ∀ w ∈ wsX110, w ∈ wsX11_mendable := fun _ h => (List.mem_cons_of_mem _ (List.mem_append_left _ (List.mem_append_left _ (List.mem_append_right _ h))))
  unfold f_X11_mendable at hZ
  refine lv_iload_n hx hb dX11_mendable_0 rfl (lv_at hl 2 rfl) ?_
  by_cases c_1 : x2 = (0 : Int32)
  · have hZ := jx_i_pos c_1 hZ
    refine lv_tableIn (tgt := 32) hx hb dX11_mendable_1 (by rw [c_1]; decide) (by rw [c_1]; decide) (by rw [c_1]; rfl) (by decide) ?_
    refine lv_aload_n hx hb dX11_mendable_32 rfl (lv_at hl 0 rfl) ?_
    refine gf_11_coins hx hb hts in11 hown hK hP (hts (.fieldLink RX11 12 "CoinsOfLast" "coins" "LCoinsOfLast$Coins;") (List.mem_of_getElem? (i := 1) rfl)) dX11_mendable_33 ?_
    refine gn_1_worth hx hb hts in1 hown hK hP (hsp.1 _ (List.mem_of_getElem? (i := 5) rfl)) dX11_mendable_36 ?_
    refine lv_iload_n hx hb dX11_mendable_39 rfl (lv_at hl 1 rfl) ?_
    obtain ⟨c_2, hZ⟩ := jx_a_some hZ
    refine X_iald hx hb hK hP wX_3 c_2 dX11_mendable_40 ?_
    exact leave_i hx hb hr hlocks hP hS hZ dX11_mendable_41
  have hZ := jx_i_neg c_1 hZ
  by_cases c_3 : x2 = (1 : Int32)
  · have hZ := jx_i_pos c_3 hZ
    refine lv_tableIn (tgt := 42) hx hb dX11_mendable_1 (by rw [c_3]; decide) (by rw [c_3]; decide) (by rw [c_3]; rfl) (by decide) ?_
    refine lv_aload_n hx hb dX11_mendable_42 rfl (lv_at hl 0 rfl) ?_
    refine gf_11_coins hx hb hts in11 hown hK hP (hts (.fieldLink RX11 12 "CoinsOfLast" "coins" "LCoinsOfLast$Coins;") (List.mem_of_getElem? (i := 1) rfl)) dX11_mendable_43 ?_
    refine gn_1_size hx hb hts in1 hown hK hP (hsp.1 _ (List.mem_of_getElem? (i := 6) rfl)) dX11_mendable_46 ?_
    refine lv_iload_n hx hb dX11_mendable_49 rfl (lv_at hl 1 rfl) ?_
    obtain ⟨c_4, hZ⟩ := jx_a_some hZ
    refine X_iald hx hb hK hP wX_4 c_4 dX11_mendable_50 ?_
    exact leave_i hx hb hr hlocks hP hS hZ dX11_mendable_51
  have hZ := jx_i_neg c_3 hZ
  by_cases c_5 : x2 = (2 : Int32)
  · have hZ := jx_i_pos c_5 hZ
    refine lv_tableIn (tgt := 52) hx hb dX11_mendable_1 (by rw [c_5]; decide) (by rw [c_5]; decide) (by rw [c_5]; rfl) (by decide) ?_
    refine lv_aload_n hx hb dX11_mendable_52 rfl (lv_at hl 0 rfl) ?_
    refine gf_11_coins hx hb hts in11 hown hK hP (hts (.fieldLink RX11 12 "CoinsOfLast" "coins" "LCoinsOfLast$Coins;") (List.mem_of_getElem? (i := 1) rfl)) dX11_mendable_53 ?_
    refine gn_1_weight hx hb hts in1 hown hK hP (hsp.1 _ (List.mem_of_getElem? (i := 8) rfl)) dX11_mendable_56 ?_
    refine lv_iload_n hx hb dX11_mendable_59 rfl (lv_at hl 1 rfl) ?_
    obtain ⟨c_6, hZ⟩ := jx_a_some hZ
    refine X_iald hx hb hK hP wX_5 c_6 dX11_mendable_60 ?_
    exact leave_i hx hb hr hlocks hP hS hZ dX11_mendable_61
  have hZ := jx_i_neg c_5 hZ
  by_cases c_7 : x2 = (3 : Int32)
  · have hZ := jx_i_pos c_7 hZ
    refine lv_tableIn (tgt := 62) hx hb dX11_mendable_1 (by rw [c_7]; decide) (by rw [c_7]; decide) (by rw [c_7]; rfl) (by decide) ?_
    refine lv_aload_n hx hb dX11_mendable_62 rfl (lv_at hl 0 rfl) ?_
    refine gf_11_things hx hb hts in11 hown hK hP (hts (.fieldLink RX11 19 "CoinsOfLast" "things" "LCoinsOfLast$Things;") (List.mem_of_getElem? (i := 2) rfl)) dX11_mendable_63 ?_
    refine gn_9_price hx hb hts in9 hown hK hP (hsp.1 _ (List.mem_of_getElem? (i := 19) rfl)) dX11_mendable_66 ?_
    refine lv_iload_n hx hb dX11_mendable_69 rfl (lv_at hl 1 rfl) ?_
    obtain ⟨c_8, hZ⟩ := jx_a_some hZ
    refine X_iald hx hb hK hP wX_9 c_8 dX11_mendable_70 ?_
    exact leave_i hx hb hr hlocks hP hS hZ dX11_mendable_71
  have hZ := jx_i_neg c_7 hZ
  refine lv_tableD (tgt := 72) hx hb dX11_mendable_1 ?_ (by decide) ?_
  · have t_0 : ¬ Int32.toInt x2 = 0 := lv_neT c_1 rfl
    have t_1 : ¬ Int32.toInt x2 = 1 := lv_neT c_3 rfl
    have t_2 : ¬ Int32.toInt x2 = 2 := lv_neT c_5 rfl
    have t_3 : ¬ Int32.toInt x2 = 3 := lv_neT c_7 rfl
    by_cases a1 : Int32.toInt x2 < 0
    · exact Or.inl (Or.inl a1)
    by_cases a2 : 3 < Int32.toInt x2
    · exact Or.inl (Or.inr a2)
    exfalso; omega
  · refine lv_aload_n hx hb dX11_mendable_72 rfl (lv_at hl 0 rfl) ?_
    refine gf_11_things hx hb hts in11 hown hK hP (hts (.fieldLink RX11 19 "CoinsOfLast" "things" "LCoinsOfLast$Things;") (List.mem_of_getElem? (i := 2) rfl)) dX11_mendable_73 ?_
    refine gn_9_value hx hb hts in9 hown hK hP (hsp.1 _ (List.mem_of_getElem? (i := 21) rfl)) dX11_mendable_76 ?_
    refine lv_iload_n hx hb dX11_mendable_79 rfl (lv_at hl 1 rfl) ?_
    obtain ⟨c_9, hZ⟩ := jx_a_some hZ
    refine X_iald hx hb hK hP wX_10 c_9 dX11_mendable_80 ?_
    exact leave_i hx hb hr hlocks hP hS hZ dX11_mendable_81
-- X11_tell
def f_X11_tell (x1 : Int32) (x2 : Int32) (x3 : Int32) (S : St) : Option (St) :=
  (if x2 = (0 : Int32) then jx_a x1 8 (jx_l (u1 S 3 (Int32.toNatClampNeg x1) x3) (fun S_3 => some S_3)) else if x2 = (1 : Int32) then jx_a x1 8 (jx_l (u1 S 4 (Int32.toNatClampNeg x1) x3) (fun S_6 => some S_6)) else if x2 = (2 : Int32) then jx_a x1 8 (jx_l (u1 S 5 (Int32.toNatClampNeg x1) x3) (fun S_9 => some S_9)) else if x2 = (3 : Int32) then jx_a x1 10 (jx_l (u1 S 9 (Int32.toNatClampNeg x1) x3) (fun S_12 => some S_12)) else jx_a x1 10 (jx_l (u1 S 10 (Int32.toNatClampNeg x1) x3) (fun S_14 => some S_14)))
set_option maxHeartbeats 4000000 in
set_option maxRecDepth 100000 in
theorem c_X11_tell (l : Launch) (D : va_G) (q : Nat → Nat) (k : CI) (x1 : Int32) (x2 : Int32) (x3 : Int32) (S : St) (sz : Nat) (Z : St) (hZ : f_X11_tell x1 x2 x3 S = some Z) : MetV W_X SX l yX11_tell wsX11_tell { frames := 0, cells := 0, slots := 0, locals := 0 } [.ref (q 0), .int x1, .int x2, .int x3] D q k S sz Z := by
  refine enter (cc := cX11_tell) (maxL := 4) (ret := none) (by decide) rfl (Nat.le_of_ble_eq_true rfl) ?_
  intro p e s m below meth c A ls hx hb hr hts hown hlocks hml hP hK hD hA hS hsp hAe hl
  have hown : s.vm.findClass RX11 = some m.cls := hown
  have hl : lv_has ls 4 [(0, .ref (q 0)), (1, .int x1), (2, .int x2), (3, .int x3)] := hl
  have in1 : ∀ w ∈ wsX10, w ∈ wsX11_tell := fun _ h => (List.mem_cons_of_mem _ (List.mem_append_left _ (List.mem_append_right _ h)))
  have in9 : ∀ w ∈ wsX90, w ∈ wsX11_tell := fun _ h => (List.mem_cons_of_mem _ (List.mem_append_right _ h))
  have in11 : ∀ w ∈ wsX110, w ∈ wsX11_tell := fun _ h => (List.mem_cons_of_mem _ (List.mem_append_left _ (List.mem_append_left _ (List.mem_append_right _ h))))
  unfold f_X11_tell at hZ
  refine lv_iload_n hx hb dX11_tell_0 rfl (lv_at hl 2 rfl) ?_
  by_cases c_1 : x2 = (0 : Int32)
  · have hZ := jx_i_pos c_1 hZ
    refine lv_tableIn (tgt := 32) hx hb dX11_tell_1 (by rw [c_1]; decide) (by rw [c_1]; decide) (by rw [c_1]; rfl) (by decide) ?_
    refine lv_aload_n hx hb dX11_tell_32 rfl (lv_at hl 0 rfl) ?_
    refine gf_11_coins hx hb hts in11 hown hK hP (hts (.fieldLink RX11 12 "CoinsOfLast" "coins" "LCoinsOfLast$Coins;") (List.mem_of_getElem? (i := 1) rfl)) dX11_tell_33 ?_
    refine gn_1_worth hx hb hts in1 hown hK hP (hsp.1 _ (List.mem_of_getElem? (i := 5) rfl)) dX11_tell_36 ?_
    refine lv_iload_n hx hb dX11_tell_39 rfl (lv_at hl 1 rfl) ?_
    refine lv_iload_n hx hb dX11_tell_40 rfl (lv_at hl 3 rfl) ?_
    obtain ⟨c_2, hZ⟩ := jx_a_some hZ
    obtain ⟨S_3, e_S_3, hZ⟩ := jx_l_some hZ
    refine X_iast hx hb hK hP hD hS wX_3 (fun _ => wXs_3) c_2 e_S_3 dX11_tell_41 (fun H locs hP hD hS => ?_)
    refine lv_goto (tgt := 94) hx hb dX11_tell_42 (by decide) ?_
    exact leave_v hx hb hr hlocks hP hS hZ dX11_tell_94
  have hZ := jx_i_neg c_1 hZ
  by_cases c_4 : x2 = (1 : Int32)
  · have hZ := jx_i_pos c_4 hZ
    refine lv_tableIn (tgt := 45) hx hb dX11_tell_1 (by rw [c_4]; decide) (by rw [c_4]; decide) (by rw [c_4]; rfl) (by decide) ?_
    refine lv_aload_n hx hb dX11_tell_45 rfl (lv_at hl 0 rfl) ?_
    refine gf_11_coins hx hb hts in11 hown hK hP (hts (.fieldLink RX11 12 "CoinsOfLast" "coins" "LCoinsOfLast$Coins;") (List.mem_of_getElem? (i := 1) rfl)) dX11_tell_46 ?_
    refine gn_1_size hx hb hts in1 hown hK hP (hsp.1 _ (List.mem_of_getElem? (i := 6) rfl)) dX11_tell_49 ?_
    refine lv_iload_n hx hb dX11_tell_52 rfl (lv_at hl 1 rfl) ?_
    refine lv_iload_n hx hb dX11_tell_53 rfl (lv_at hl 3 rfl) ?_
    obtain ⟨c_5, hZ⟩ := jx_a_some hZ
    obtain ⟨S_6, e_S_6, hZ⟩ := jx_l_some hZ
    refine X_iast hx hb hK hP hD hS wX_4 (fun _ => wXs_4) c_5 e_S_6 dX11_tell_54 (fun H locs hP hD hS => ?_)
    refine lv_goto (tgt := 94) hx hb dX11_tell_55 (by decide) ?_
    exact leave_v hx hb hr hlocks hP hS hZ dX11_tell_94
  have hZ := jx_i_neg c_4 hZ
  by_cases c_7 : x2 = (2 : Int32)
  · have hZ := jx_i_pos c_7 hZ
    refine lv_tableIn (tgt := 58) hx hb dX11_tell_1 (by rw [c_7]; decide) (by rw [c_7]; decide) (by rw [c_7]; rfl) (by decide) ?_
    refine lv_aload_n hx hb dX11_tell_58 rfl (lv_at hl 0 rfl) ?_
    refine gf_11_coins hx hb hts in11 hown hK hP (hts (.fieldLink RX11 12 "CoinsOfLast" "coins" "LCoinsOfLast$Coins;") (List.mem_of_getElem? (i := 1) rfl)) dX11_tell_59 ?_
    refine gn_1_weight hx hb hts in1 hown hK hP (hsp.1 _ (List.mem_of_getElem? (i := 8) rfl)) dX11_tell_62 ?_
    refine lv_iload_n hx hb dX11_tell_65 rfl (lv_at hl 1 rfl) ?_
    refine lv_iload_n hx hb dX11_tell_66 rfl (lv_at hl 3 rfl) ?_
    obtain ⟨c_8, hZ⟩ := jx_a_some hZ
    obtain ⟨S_9, e_S_9, hZ⟩ := jx_l_some hZ
    refine X_iast hx hb hK hP hD hS wX_5 (fun _ => wXs_5) c_8 e_S_9 dX11_tell_67 (fun H locs hP hD hS => ?_)
    refine lv_goto (tgt := 94) hx hb dX11_tell_68 (by decide) ?_
    exact leave_v hx hb hr hlocks hP hS hZ dX11_tell_94
  have hZ := jx_i_neg c_7 hZ
  by_cases c_10 : x2 = (3 : Int32)
  · have hZ := jx_i_pos c_10 hZ
    refine lv_tableIn (tgt := 71) hx hb dX11_tell_1 (by rw [c_10]; decide) (by rw [c_10]; decide) (by rw [c_10]; rfl) (by decide) ?_
    refine lv_aload_n hx hb dX11_tell_71 rfl (lv_at hl 0 rfl) ?_
    refine gf_11_things hx hb hts in11 hown hK hP (hts (.fieldLink RX11 19 "CoinsOfLast" "things" "LCoinsOfLast$Things;") (List.mem_of_getElem? (i := 2) rfl)) dX11_tell_72 ?_
    refine gn_9_price hx hb hts in9 hown hK hP (hsp.1 _ (List.mem_of_getElem? (i := 19) rfl)) dX11_tell_75 ?_
    refine lv_iload_n hx hb dX11_tell_78 rfl (lv_at hl 1 rfl) ?_
    refine lv_iload_n hx hb dX11_tell_79 rfl (lv_at hl 3 rfl) ?_
    obtain ⟨c_11, hZ⟩ := jx_a_some hZ
    obtain ⟨S_12, e_S_12, hZ⟩ := jx_l_some hZ
    refine X_iast hx hb hK hP hD hS wX_9 (fun _ => wXs_9) c_11 e_S_12 dX11_tell_80 (fun H locs hP hD hS => ?_)
    refine lv_goto (tgt := 94) hx hb dX11_tell_81 (by decide) ?_
    exact leave_v hx hb hr hlocks hP hS hZ dX11_tell_94
  have hZ := jx_i_neg c_10 hZ
  refine lv_tableD (tgt := 84) hx hb dX11_tell_1 ?_ (by decide) ?_
  · have t_0 : ¬ Int32.toInt x2 = 0 := lv_neT c_1 rfl
    have t_1 : ¬ Int32.toInt x2 = 1 := lv_neT c_4 rfl
    have t_2 : ¬ Int32.toInt x2 = 2 := lv_neT c_7 rfl
    have t_3 : ¬ Int32.toInt x2 = 3 := lv_neT c_10 rfl
    by_cases a1 : Int32.toInt x2 < 0
    · exact Or.inl (Or.inl a1)
    by_cases a2 : 3 < Int32.toInt x2
    · exact Or.inl (Or.inr a2)
    exfalso; omega
  · refine lv_aload_n hx hb dX11_tell_84 rfl (lv_at hl 0 rfl) ?_
    refine gf_11_things hx hb hts in11 hown hK hP (hts (.fieldLink RX11 19 "CoinsOfLast" "things" "LCoinsOfLast$Things;") (List.mem_of_getElem? (i := 2) rfl)) dX11_tell_85 ?_
    refine gn_9_value hx hb hts in9 hown hK hP (hsp.1 _ (List.mem_of_getElem? (i := 21) rfl)) dX11_tell_88 ?_
    refine lv_iload_n hx hb dX11_tell_91 rfl (lv_at hl 1 rfl) ?_
    refine lv_iload_n hx hb dX11_tell_92 rfl (lv_at hl 3 rfl) ?_
    obtain ⟨c_13, hZ⟩ := jx_a_some hZ
    obtain ⟨S_14, e_S_14, hZ⟩ := jx_l_some hZ
    refine X_iast hx hb hK hP hD hS wX_10 (fun _ => wXs_10) c_13 e_S_14 dX11_tell_93 (fun H locs hP hD hS => ?_)
    exact leave_v hx hb hr hlocks hP hS hZ dX11_tell_94
theorem hd_X0_add : yX0_add.cls = RX0 ∧ yX0_add.cls ≠ "java/lang/invoke/MethodHandle" ∧ yX0_add.cls ≠ "java/lang/invoke/VarHandle" ∧ (parseMethodDescriptor yX0_add.desc).map (fun d => d.parameters.length) = some 4 := by decide +kernel
theorem hd_X11_mendable : yX11_mendable.cls = RX11 ∧ yX11_mendable.cls ≠ "java/lang/invoke/MethodHandle" ∧ yX11_mendable.cls ≠ "java/lang/invoke/VarHandle" ∧ (parseMethodDescriptor yX11_mendable.desc).map (fun d => d.parameters.length) = some 2 := by decide +kernel
theorem hd_X11_tell : yX11_tell.cls = RX11 ∧ yX11_tell.cls ≠ "java/lang/invoke/MethodHandle" ∧ yX11_tell.cls ≠ "java/lang/invoke/VarHandle" ∧ (parseMethodDescriptor yX11_tell.desc).map (fun d => d.parameters.length) = some 3 := by decide +kernel
theorem hd_X9_knows : yX9_knows.cls = RX9 ∧ yX9_knows.cls ≠ "java/lang/invoke/MethodHandle" ∧ yX9_knows.cls ≠ "java/lang/invoke/VarHandle" ∧ (parseMethodDescriptor yX9_knows.desc).map (fun d => d.parameters.length) = some 1 := by decide +kernel
-- X11_mend
def f_X11_mend_65 (x1_16 : Int32) (x2_16 : Int32) (x3_16 : Int32) (S_16 : St) : Option (Int32 × St) :=
  jx_b2 (f_X11_mendable x1_16 x2_16 S_16) (fun r_19 S_17 => (if r_19 = x3_16 then some (r_19, S_17) else jx_b (f_X11_tell x1_16 x2_16 x3_16 S_17) (fun S_21 => jx_b (f_X0_add x1_16 x2_16 r_19 x3_16 S_21) (fun S_23 => some (r_19, S_23)))))
def f_X11_mend (x1 : Int32) (x2 : Int32) (x3 : Int32) (S : St) : Option (Int32 × St) :=
  jx_b2 (f_X11_within x2 (0 : Int32) ((5 : Int32) - (1 : Int32)) S) (fun r_3 S_1 => (if r_3 = 0 then some ((-1 : Int32), S_1) else jx_a x2 5 (jx_a x2 5 (jx_b2 (f_X11_within x3 (st_MEND_LEAST (Int32.toNatClampNeg x2)) (st_MEND_MOST (Int32.toNatClampNeg x2)) S_1) (fun r_9 S_7 => (if r_9 = 0 then some ((-1 : Int32), S_7) else (if (3 : Int32) ≤ x2 then jx_b2 (f_X9_knows x1 S_7) (fun r_14 S_12 => (if r_14 = 0 then some ((-1 : Int32), S_12) else f_X11_mend_65 x1 x2 x3 S_12)) else jx_b2 (f_X1_knows x1 S_7) (fun r_28 S_26 => (if r_28 = 0 then some ((-1 : Int32), S_26) else f_X11_mend_65 x1 x2 x3 S_26)))))))))
set_option maxHeartbeats 4000000 in
set_option maxRecDepth 100000 in
theorem c_X11_mend (l : Launch) (D : va_G) (q : Nat → Nat) (k : CI) (x1 : Int32) (x2 : Int32) (x3 : Int32) (S : St) (sz : Nat) (Z : Int32 × St) (hZ : f_X11_mend x1 x2 x3 S = some Z) : MetI W_X SX l yX11_mend wsX11_mend { frames := 2, cells := 0, slots := 0, locals := 45 } [.ref (q 0), .int x1, .int x2, .int x3] D q k S sz Z := by
  refine enter (cc := cX11_mend) (maxL := 5) (ret := some .int) (by decide) rfl (Nat.le_of_ble_eq_true rfl) ?_
  intro p e s m below meth c A ls hx hb hr hts hown hlocks hml hP hK hD hA hS hsp hAe hl
  have hown : s.vm.findClass RX11 = some m.cls := hown
  have hl : lv_has ls 5 [(0, .ref (q 0)), (1, .int x1), (2, .int x2), (3, .int x3)] := hl
  have in11 : ∀ w ∈ wsX110, w ∈ wsX11_mend := fun _ h => (List.mem_cons_of_mem _ (List.mem_append_left _ (List.mem_append_left _ (List.mem_append_left _ (List.mem_append_right _ h)))))
  have j65 : ∀ (x1_16 : Int32) (x2_16 : Int32) (x3_16 : Int32) (S_16 : St)  (H : Heap) (locs : List Loc) (hZ : f_X11_mend_65 x1_16 x2_16 x3_16 S_16 = some Z) (hP : va_P D vwCl (W_X q k S_16) H) (hD : va_D A (W_X q k S_16)) (hS : va_S A s.heap H locs) (ls : Array Slot) (hl : lv_has ls 5 [(0, .ref (q 0)), (1, .int x1_16), (2, .int x2_16), (3, .int x3_16)]), W p l e ({ frames := 2, cells := 0, slots := 0, locals := 45 } : Room) s m ([.ref (q 0), .int x1, .int x2, .int x3] : List Value).toArray below meth c H locs 0 0 (MQ below (va_Qi (fun r u => (r, u) = Z) (fun u t => va_P D vwCl (W_X q k u) t.heap) A) ([.ref (q 0), .int x1, .int x2, .int x3] : List Value).toArray s 0 0 A) (F0 m 65 ls []) := by
    intro x1_16 x2_16 x3_16 S_16   H locs hZ hP hD hS ls hl
    unfold f_X11_mend_65 at hZ
    refine lv_aload_n hx hb dX11_mend_65 rfl (lv_at hl 0 rfl) ?_
    refine lv_iload_n hx hb dX11_mend_66 rfl (lv_at hl 1 rfl) ?_
    refine lv_iload_n hx hb dX11_mend_67 rfl (lv_at hl 2 rfl) ?_
    obtain ⟨r_19, S_17, hc_18, hZ⟩ := jx_b2_some hZ
    refine call_Vi SX_ok sameX ⟨hx, hb, hml, hown, hts⟩ (c_X11_mendable l D q k x1_16 x2_16 S_16 _ (r_19, S_17)  hc_18) (cwV 2 hts gX11_mend_X11_mendable rfl rfl rfl hd_X11_mendable ⟨Nat.le_of_ble_eq_true rfl, Nat.le_of_ble_eq_true rfl⟩) hK hP hD hS hA hsp (va_recv hK hP (ci := 11) (q0 := 0) rfl wX_0) (As := [.int x1_16, .int x2_16]) rfl hl.1 rfl (Nat.le_of_ble_eq_true rfl) dX11_mend_68 ⟨Nat.zero_le _, Nat.zero_le _⟩ (fun H locs hP hD hS => ?_)
    refine lv_istore (lv' := [(4, .int r_19), (0, .ref (q 0)), (1, .int x1_16), (2, .int x2_16), (3, .int x3_16)]) hx hb dX11_mend_71 hl (by decide) rfl (fun ls hl => ?_)
    refine lv_iload hx hb dX11_mend_73 (lv_at hl 0 rfl) ?_
    refine lv_iload_n hx hb dX11_mend_75 rfl (lv_at hl 4 rfl) ?_
    refine lv_icmp_eq (tgt := 98) hx hb dX11_mend_76 (by decide) (fun c_20 => ?_) (fun c_20 => ?_)
    · have hZ := jx_i_pos c_20 hZ
      refine lv_iload hx hb dX11_mend_98 (lv_at hl 0 rfl) ?_
      exact leave_i hx hb hr hlocks hP hS hZ dX11_mend_100
    · have hZ := jx_i_neg c_20 hZ
      refine lv_aload_n hx hb dX11_mend_79 rfl (lv_at hl 1 rfl) ?_
      refine lv_iload_n hx hb dX11_mend_80 rfl (lv_at hl 2 rfl) ?_
      refine lv_iload_n hx hb dX11_mend_81 rfl (lv_at hl 3 rfl) ?_
      refine lv_iload_n hx hb dX11_mend_82 rfl (lv_at hl 4 rfl) ?_
      obtain ⟨S_21, hc_22, hZ⟩ := jx_b_some hZ
      refine call_Vv SX_ok sameX ⟨hx, hb, hml, hown, hts⟩ (c_X11_tell l D q k x1_16 x2_16 x3_16 S_17 _ S_21  hc_22) (cwV 3 hts gX11_mend_X11_tell rfl rfl rfl hd_X11_tell ⟨Nat.le_of_ble_eq_true rfl, Nat.le_of_ble_eq_true rfl⟩) hK hP hD hS hA hsp (va_recv hK hP (ci := 11) (q0 := 0) rfl wX_0) (As := [.int x1_16, .int x2_16, .int x3_16]) rfl hl.1 rfl (Nat.le_of_ble_eq_true rfl) dX11_mend_83 ⟨Nat.zero_le _, Nat.zero_le _⟩ (fun H locs hP hD hS => ?_)
      refine lv_aload_n hx hb dX11_mend_86 rfl (lv_at hl 1 rfl) ?_
      refine gf_11_changes hx hb hts in11 hown hK hP (hts (.fieldLink RX11 61 "CoinsOfLast" "changes" "LCoinsOfLast$Changes;") (List.mem_of_getElem? (i := 5) rfl)) dX11_mend_87 ?_
      refine lv_iload_n hx hb dX11_mend_90 rfl (lv_at hl 2 rfl) ?_
      refine lv_iload_n hx hb dX11_mend_91 rfl (lv_at hl 3 rfl) ?_
      refine lv_iload hx hb dX11_mend_92 (lv_at hl 0 rfl) ?_
      refine lv_iload_n hx hb dX11_mend_94 rfl (lv_at hl 4 rfl) ?_
      obtain ⟨S_23, hc_24, hZ⟩ := jx_b_some hZ
      refine call_Vv SX_ok sameX ⟨hx, hb, hml, hown, hts⟩ (c_X0_add l D q k x1_16 x2_16 r_19 x3_16 S_21 _ S_23  hc_24) (cwV 4 hts gX11_mend_X0_add rfl rfl rfl hd_X0_add ⟨Nat.le_of_ble_eq_true rfl, Nat.le_of_ble_eq_true rfl⟩) hK hP hD hS hA hsp (va_recv hK hP (ci := 0) (q0 := 25) rfl wX_25) (As := [.int x1_16, .int x2_16, .int r_19, .int x3_16]) rfl hl.1 rfl (Nat.le_of_ble_eq_true rfl) dX11_mend_95 ⟨Nat.zero_le _, Nat.zero_le _⟩ (fun H locs hP hD hS => ?_)
      refine lv_iload hx hb dX11_mend_98 (lv_at hl 0 rfl) ?_
      exact leave_i hx hb hr hlocks hP hS hZ dX11_mend_100
  unfold f_X11_mend at hZ
  refine lv_iload_n hx hb dX11_mend_0 rfl (lv_at hl 2 rfl) ?_
  refine lv_iconst (v := (0 : Int32)) hx hb dX11_mend_1 (by decide) ?_
  refine va_gets hx hb hsp.2.2.2.1 hS hown (hts (.fieldLink RX11 142 "CoinsOfLast" "MEND_MOST" "[I") (List.mem_of_getElem? (i := 1) rfl)) (fun _ h9 => h9) dX11_mend_2 ?_
  refine va_tlen (v := (5 : Int32)) hx hb hsp.2.2.2.2.1 hS (by decide) dX11_mend_5 ?_
  refine lv_iconst (v := (1 : Int32)) hx hb dX11_mend_6 (by decide) ?_
  refine lv_isub hx hb dX11_mend_7 ?_
  obtain ⟨r_3, S_1, hc_2, hZ⟩ := jx_b2_some hZ
  refine call_Si SX_ok sameX ⟨hx, hb, hml, hown, hts⟩ (c_X11_within l D q k x2 (0 : Int32) ((5 : Int32) - (1 : Int32)) S _ (r_3, S_1)  hc_2) (va_cwS 3 hts gX11_mend_X11_within rfl rfl rfl hd_X11_within ⟨Nat.le_of_ble_eq_true rfl, Nat.le_of_ble_eq_true rfl⟩) hK hP hD hS hA hsp (As := [.int x2, .int (0 : Int32), .int ((5 : Int32) - (1 : Int32))]) rfl hl.1 rfl (Nat.le_of_ble_eq_true rfl) dX11_mend_8 ⟨Nat.zero_le _, Nat.zero_le _⟩ (fun H locs hP hD hS => ?_)
  refine lv_if_eq (tgt := 31) hx hb dX11_mend_11 (by decide) (fun c_4 => ?_) (fun c_4 => ?_)
  · have hZ := jx_i_pos c_4 hZ
    refine lv_iconst (v := (-1 : Int32)) hx hb dX11_mend_31 (by decide) ?_
    exact leave_i hx hb hr hlocks hP hS hZ dX11_mend_32
  · have hZ := jx_i_neg c_4 hZ
    refine lv_iload_n hx hb dX11_mend_14 rfl (lv_at hl 3 rfl) ?_
    refine va_gets hx hb hsp.2.1 hS hown (hts (.fieldLink RX11 145 "CoinsOfLast" "MEND_LEAST" "[I") (List.mem_of_getElem? (i := 2) rfl)) (fun _ h9 => h9) dX11_mend_15 ?_
    refine lv_iload_n hx hb dX11_mend_18 rfl (lv_at hl 2 rfl) ?_
    obtain ⟨c_5, hZ⟩ := jx_a_some hZ
    refine va_ti (v := .int (st_MEND_LEAST (Int32.toNatClampNeg x2))) hx hb hsp.2.2.1 hS c_5 rfl dX11_mend_19 ?_
    refine va_gets hx hb hsp.2.2.2.1 hS hown (hts (.fieldLink RX11 142 "CoinsOfLast" "MEND_MOST" "[I") (List.mem_of_getElem? (i := 1) rfl)) (fun _ h9 => h9) dX11_mend_20 ?_
    refine lv_iload_n hx hb dX11_mend_23 rfl (lv_at hl 2 rfl) ?_
    obtain ⟨c_6, hZ⟩ := jx_a_some hZ
    refine va_ti (v := .int (st_MEND_MOST (Int32.toNatClampNeg x2))) hx hb hsp.2.2.2.2.1 hS c_6 rfl dX11_mend_24 ?_
    obtain ⟨r_9, S_7, hc_8, hZ⟩ := jx_b2_some hZ
    refine call_Si SX_ok sameX ⟨hx, hb, hml, hown, hts⟩ (c_X11_within l D q k x3 (st_MEND_LEAST (Int32.toNatClampNeg x2)) (st_MEND_MOST (Int32.toNatClampNeg x2)) S_1 _ (r_9, S_7)  hc_8) (va_cwS 3 hts gX11_mend_X11_within rfl rfl rfl hd_X11_within ⟨Nat.le_of_ble_eq_true rfl, Nat.le_of_ble_eq_true rfl⟩) hK hP hD hS hA hsp (As := [.int x3, .int (st_MEND_LEAST (Int32.toNatClampNeg x2)), .int (st_MEND_MOST (Int32.toNatClampNeg x2))]) rfl hl.1 rfl (Nat.le_of_ble_eq_true rfl) dX11_mend_25 ⟨Nat.zero_le _, Nat.zero_le _⟩ (fun H locs hP hD hS => ?_)
    refine lv_if_ne (tgt := 33) hx hb dX11_mend_28 (by decide) (fun c_10 => ?_) (fun c_10 => ?_)
    · have hZ := jx_i_neg c_10 hZ
      refine lv_iload_n hx hb dX11_mend_33 rfl (lv_at hl 2 rfl) ?_
      refine lv_iconst (v := (3 : Int32)) hx hb dX11_mend_34 (by decide) ?_
      refine lv_icmp_ge (tgt := 52) hx hb dX11_mend_35 (by decide) (fun c_11 => ?_) (fun c_11 => ?_)
      · have hZ := jx_i_pos c_11 hZ
        refine lv_aload_n hx hb dX11_mend_52 rfl (lv_at hl 0 rfl) ?_
        refine gf_11_things hx hb hts in11 hown hK hP (hts (.fieldLink RX11 19 "CoinsOfLast" "things" "LCoinsOfLast$Things;") (List.mem_of_getElem? (i := 4) rfl)) dX11_mend_53 ?_
        refine lv_iload_n hx hb dX11_mend_56 rfl (lv_at hl 1 rfl) ?_
        obtain ⟨r_14, S_12, hc_13, hZ⟩ := jx_b2_some hZ
        refine call_Vi SX_ok sameX ⟨hx, hb, hml, hown, hts⟩ (c_X9_knows l D q k x1 S_7 _ (r_14, S_12)  hc_13) (cwV 1 hts gX11_mend_X9_knows rfl rfl rfl hd_X9_knows ⟨Nat.le_of_ble_eq_true rfl, Nat.le_of_ble_eq_true rfl⟩) hK hP hD hS hA hsp (va_recv hK hP (ci := 9) (q0 := 7) rfl wX_7) (As := [.int x1]) rfl hl.1 rfl (Nat.le_of_ble_eq_true rfl) dX11_mend_57 ⟨Nat.zero_le _, Nat.zero_le _⟩ (fun H locs hP hD hS => ?_)
        refine lv_if_ne (tgt := 65) hx hb dX11_mend_60 (by decide) (fun c_15 => ?_) (fun c_15 => ?_)
        · have hZ := jx_i_neg c_15 hZ
          exact j65 x1 x2 x3 S_12 _ _ hZ hP hD hS _ (lv_sub hl [0, 1, 2, 3] rfl)
        · have hZ := jx_i_pos c_15 hZ
          refine lv_iconst (v := (-1 : Int32)) hx hb dX11_mend_63 (by decide) ?_
          exact leave_i hx hb hr hlocks hP hS hZ dX11_mend_64
      · have hZ := jx_i_neg c_11 hZ
        refine lv_aload_n hx hb dX11_mend_38 rfl (lv_at hl 0 rfl) ?_
        refine gf_11_coins hx hb hts in11 hown hK hP (hts (.fieldLink RX11 12 "CoinsOfLast" "coins" "LCoinsOfLast$Coins;") (List.mem_of_getElem? (i := 3) rfl)) dX11_mend_39 ?_
        refine lv_iload_n hx hb dX11_mend_42 rfl (lv_at hl 1 rfl) ?_
        obtain ⟨r_28, S_26, hc_27, hZ⟩ := jx_b2_some hZ
        refine call_Vi SX_ok sameX ⟨hx, hb, hml, hown, hts⟩ (c_X1_knows l D q k x1 S_7 _ (r_28, S_26)  hc_27) (cwV 1 hts gX11_mend_X1_knows rfl rfl rfl hd_X1_knows ⟨Nat.le_of_ble_eq_true rfl, Nat.le_of_ble_eq_true rfl⟩) hK hP hD hS hA hsp (va_recv hK hP (ci := 1) (q0 := 1) rfl wX_1) (As := [.int x1]) rfl hl.1 rfl (Nat.le_of_ble_eq_true rfl) dX11_mend_43 ⟨Nat.zero_le _, Nat.zero_le _⟩ (fun H locs hP hD hS => ?_)
        refine lv_if_ne (tgt := 65) hx hb dX11_mend_46 (by decide) (fun c_29 => ?_) (fun c_29 => ?_)
        · have hZ := jx_i_neg c_29 hZ
          exact j65 x1 x2 x3 S_26 _ _ hZ hP hD hS _ (lv_sub hl [0, 1, 2, 3] rfl)
        · have hZ := jx_i_pos c_29 hZ
          refine lv_goto (tgt := 63) hx hb dX11_mend_49 (by decide) ?_
          refine lv_iconst (v := (-1 : Int32)) hx hb dX11_mend_63 (by decide) ?_
          exact leave_i hx hb hr hlocks hP hS hZ dX11_mend_64
    · have hZ := jx_i_pos c_10 hZ
      refine lv_iconst (v := (-1 : Int32)) hx hb dX11_mend_31 (by decide) ?_
      exact leave_i hx hb hr hlocks hP hS hZ dX11_mend_32
-- X11_ofSort
def f_X11_ofSort (x1 : Int32) (x2 : Int32) (S : St) : Option (Int32 × St) :=
  (if x2 = (0 : Int32) then jx_a x1 8 (some ((S.1 2 (Int32.toNatClampNeg x1)), S)) else if x2 = (1 : Int32) then jx_a x1 8 (some ((S.1 3 (Int32.toNatClampNeg x1)), S)) else if x2 = (2 : Int32) then jx_a x1 8 (some ((S.1 4 (Int32.toNatClampNeg x1)), S)) else if x2 = (3 : Int32) then jx_a x1 8 (some ((S.1 5 (Int32.toNatClampNeg x1)), S)) else jx_a x1 8 (some ((S.1 6 (Int32.toNatClampNeg x1)), S)))
set_option maxHeartbeats 4000000 in
set_option maxRecDepth 100000 in
theorem c_X11_ofSort (l : Launch) (D : va_G) (q : Nat → Nat) (k : CI) (x1 : Int32) (x2 : Int32) (S : St) (sz : Nat) (Z : Int32 × St) (hZ : f_X11_ofSort x1 x2 S = some Z) : MetI W_X SX l yX11_ofSort wsX11_ofSort { frames := 0, cells := 0, slots := 0, locals := 0 } [.ref (q 0), .int x1, .int x2] D q k S sz Z := by
  refine enter (cc := cX11_ofSort) (maxL := 3) (ret := some .int) (by decide) rfl (Nat.le_of_ble_eq_true rfl) ?_
  intro p e s m below meth c A ls hx hb hr hts hown hlocks hml hP hK hD hA hS hsp hAe hl
  have hown : s.vm.findClass RX11 = some m.cls := hown
  have hl : lv_has ls 3 [(0, .ref (q 0)), (1, .int x1), (2, .int x2)] := hl
  have in1 : ∀ w ∈ wsX10, w ∈ wsX11_ofSort := fun _ h => (List.mem_cons_of_mem _ (List.mem_append_right _ h))
  have in11 : ∀ w ∈ wsX110, w ∈ wsX11_ofSort := fun _ h => (List.mem_cons_of_mem _ (List.mem_append_left _ (List.mem_append_right _ h)))
  unfold f_X11_ofSort at hZ
  refine lv_iload_n hx hb dX11_ofSort_0 rfl (lv_at hl 2 rfl) ?_
  by_cases c_1 : x2 = (0 : Int32)
  · have hZ := jx_i_pos c_1 hZ
    refine lv_tableIn (tgt := 32) hx hb dX11_ofSort_1 (by rw [c_1]; decide) (by rw [c_1]; decide) (by rw [c_1]; rfl) (by decide) ?_
    refine lv_aload_n hx hb dX11_ofSort_32 rfl (lv_at hl 0 rfl) ?_
    refine gf_11_coins hx hb hts in11 hown hK hP (hts (.fieldLink RX11 12 "CoinsOfLast" "coins" "LCoinsOfLast$Coins;") (List.mem_of_getElem? (i := 1) rfl)) dX11_ofSort_33 ?_
    refine gn_1_land hx hb hts in1 hown hK hP (hsp.1 _ (List.mem_of_getElem? (i := 2) rfl)) dX11_ofSort_36 ?_
    refine lv_iload_n hx hb dX11_ofSort_39 rfl (lv_at hl 1 rfl) ?_
    obtain ⟨c_2, hZ⟩ := jx_a_some hZ
    refine X_iald hx hb hK hP wX_2 c_2 dX11_ofSort_40 ?_
    exact leave_i hx hb hr hlocks hP hS hZ dX11_ofSort_41
  have hZ := jx_i_neg c_1 hZ
  by_cases c_3 : x2 = (1 : Int32)
  · have hZ := jx_i_pos c_3 hZ
    refine lv_tableIn (tgt := 42) hx hb dX11_ofSort_1 (by rw [c_3]; decide) (by rw [c_3]; decide) (by rw [c_3]; rfl) (by decide) ?_
    refine lv_aload_n hx hb dX11_ofSort_42 rfl (lv_at hl 0 rfl) ?_
    refine gf_11_coins hx hb hts in11 hown hK hP (hts (.fieldLink RX11 12 "CoinsOfLast" "coins" "LCoinsOfLast$Coins;") (List.mem_of_getElem? (i := 1) rfl)) dX11_ofSort_43 ?_
    refine gn_1_worth hx hb hts in1 hown hK hP (hsp.1 _ (List.mem_of_getElem? (i := 5) rfl)) dX11_ofSort_46 ?_
    refine lv_iload_n hx hb dX11_ofSort_49 rfl (lv_at hl 1 rfl) ?_
    obtain ⟨c_4, hZ⟩ := jx_a_some hZ
    refine X_iald hx hb hK hP wX_3 c_4 dX11_ofSort_50 ?_
    exact leave_i hx hb hr hlocks hP hS hZ dX11_ofSort_51
  have hZ := jx_i_neg c_3 hZ
  by_cases c_5 : x2 = (2 : Int32)
  · have hZ := jx_i_pos c_5 hZ
    refine lv_tableIn (tgt := 52) hx hb dX11_ofSort_1 (by rw [c_5]; decide) (by rw [c_5]; decide) (by rw [c_5]; rfl) (by decide) ?_
    refine lv_aload_n hx hb dX11_ofSort_52 rfl (lv_at hl 0 rfl) ?_
    refine gf_11_coins hx hb hts in11 hown hK hP (hts (.fieldLink RX11 12 "CoinsOfLast" "coins" "LCoinsOfLast$Coins;") (List.mem_of_getElem? (i := 1) rfl)) dX11_ofSort_53 ?_
    refine gn_1_size hx hb hts in1 hown hK hP (hsp.1 _ (List.mem_of_getElem? (i := 6) rfl)) dX11_ofSort_56 ?_
    refine lv_iload_n hx hb dX11_ofSort_59 rfl (lv_at hl 1 rfl) ?_
    obtain ⟨c_6, hZ⟩ := jx_a_some hZ
    refine X_iald hx hb hK hP wX_4 c_6 dX11_ofSort_60 ?_
    exact leave_i hx hb hr hlocks hP hS hZ dX11_ofSort_61
  have hZ := jx_i_neg c_5 hZ
  by_cases c_7 : x2 = (3 : Int32)
  · have hZ := jx_i_pos c_7 hZ
    refine lv_tableIn (tgt := 62) hx hb dX11_ofSort_1 (by rw [c_7]; decide) (by rw [c_7]; decide) (by rw [c_7]; rfl) (by decide) ?_
    refine lv_aload_n hx hb dX11_ofSort_62 rfl (lv_at hl 0 rfl) ?_
    refine gf_11_coins hx hb hts in11 hown hK hP (hts (.fieldLink RX11 12 "CoinsOfLast" "coins" "LCoinsOfLast$Coins;") (List.mem_of_getElem? (i := 1) rfl)) dX11_ofSort_63 ?_
    refine gn_1_weight hx hb hts in1 hown hK hP (hsp.1 _ (List.mem_of_getElem? (i := 8) rfl)) dX11_ofSort_66 ?_
    refine lv_iload_n hx hb dX11_ofSort_69 rfl (lv_at hl 1 rfl) ?_
    obtain ⟨c_8, hZ⟩ := jx_a_some hZ
    refine X_iald hx hb hK hP wX_5 c_8 dX11_ofSort_70 ?_
    exact leave_i hx hb hr hlocks hP hS hZ dX11_ofSort_71
  have hZ := jx_i_neg c_7 hZ
  refine lv_tableD (tgt := 72) hx hb dX11_ofSort_1 ?_ (by decide) ?_
  · have t_0 : ¬ Int32.toInt x2 = 0 := lv_neT c_1 rfl
    have t_1 : ¬ Int32.toInt x2 = 1 := lv_neT c_3 rfl
    have t_2 : ¬ Int32.toInt x2 = 2 := lv_neT c_5 rfl
    have t_3 : ¬ Int32.toInt x2 = 3 := lv_neT c_7 rfl
    by_cases a1 : Int32.toInt x2 < 0
    · exact Or.inl (Or.inl a1)
    by_cases a2 : 3 < Int32.toInt x2
    · exact Or.inl (Or.inr a2)
    exfalso; omega
  · refine lv_aload_n hx hb dX11_ofSort_72 rfl (lv_at hl 0 rfl) ?_
    refine gf_11_coins hx hb hts in11 hown hK hP (hts (.fieldLink RX11 12 "CoinsOfLast" "coins" "LCoinsOfLast$Coins;") (List.mem_of_getElem? (i := 1) rfl)) dX11_ofSort_73 ?_
    refine gn_1_held hx hb hts in1 hown hK hP (hsp.1 _ (List.mem_of_getElem? (i := 10) rfl)) dX11_ofSort_76 ?_
    refine lv_iload_n hx hb dX11_ofSort_79 rfl (lv_at hl 1 rfl) ?_
    obtain ⟨c_9, hZ⟩ := jx_a_some hZ
    refine X_iald hx hb hK hP wX_6 c_9 dX11_ofSort_80 ?_
    exact leave_i hx hb hr hlocks hP hS hZ dX11_ofSort_81
-- X11_ofThing
def f_X11_ofThing (x1 : Int32) (x2 : Int32) (S : St) : Option (Int32 × St) :=
  (if x2 = (10 : Int32) then jx_a x1 10 (some ((S.1 8 (Int32.toNatClampNeg x1)), S)) else if x2 = (11 : Int32) then jx_a x1 10 (some ((S.1 9 (Int32.toNatClampNeg x1)), S)) else if x2 = (12 : Int32) then jx_a x1 10 (some ((S.1 10 (Int32.toNatClampNeg x1)), S)) else jx_a x1 10 (some ((S.1 11 (Int32.toNatClampNeg x1)), S)))
set_option maxHeartbeats 4000000 in
set_option maxRecDepth 100000 in
theorem c_X11_ofThing (l : Launch) (D : va_G) (q : Nat → Nat) (k : CI) (x1 : Int32) (x2 : Int32) (S : St) (sz : Nat) (Z : Int32 × St) (hZ : f_X11_ofThing x1 x2 S = some Z) : MetI W_X SX l yX11_ofThing wsX11_ofThing { frames := 0, cells := 0, slots := 0, locals := 0 } [.ref (q 0), .int x1, .int x2] D q k S sz Z := by
  refine enter (cc := cX11_ofThing) (maxL := 3) (ret := some .int) (by decide) rfl (Nat.le_of_ble_eq_true rfl) ?_
  intro p e s m below meth c A ls hx hb hr hts hown hlocks hml hP hK hD hA hS hsp hAe hl
  have hown : s.vm.findClass RX11 = some m.cls := hown
  have hl : lv_has ls 3 [(0, .ref (q 0)), (1, .int x1), (2, .int x2)] := hl
  have in9 : ∀ w ∈ wsX90, w ∈ wsX11_ofThing := fun _ h => (List.mem_cons_of_mem _ (List.mem_append_right _ h))
  have in11 : ∀ w ∈ wsX110, w ∈ wsX11_ofThing := fun _ h => (List.mem_cons_of_mem _ (List.mem_append_left _ (List.mem_append_right _ h)))
  unfold f_X11_ofThing at hZ
  refine lv_iload_n hx hb dX11_ofThing_0 rfl (lv_at hl 2 rfl) ?_
  by_cases c_1 : x2 = (10 : Int32)
  · have hZ := jx_i_pos c_1 hZ
    refine lv_tableIn (tgt := 28) hx hb dX11_ofThing_1 (by rw [c_1]; decide) (by rw [c_1]; decide) (by rw [c_1]; rfl) (by decide) ?_
    refine lv_aload_n hx hb dX11_ofThing_28 rfl (lv_at hl 0 rfl) ?_
    refine gf_11_things hx hb hts in11 hown hK hP (hts (.fieldLink RX11 19 "CoinsOfLast" "things" "LCoinsOfLast$Things;") (List.mem_of_getElem? (i := 1) rfl)) dX11_ofThing_29 ?_
    refine gn_9_land hx hb hts in9 hown hK hP (hsp.1 _ (List.mem_of_getElem? (i := 17) rfl)) dX11_ofThing_32 ?_
    refine lv_iload_n hx hb dX11_ofThing_35 rfl (lv_at hl 1 rfl) ?_
    obtain ⟨c_2, hZ⟩ := jx_a_some hZ
    refine X_iald hx hb hK hP wX_8 c_2 dX11_ofThing_36 ?_
    exact leave_i hx hb hr hlocks hP hS hZ dX11_ofThing_37
  have hZ := jx_i_neg c_1 hZ
  by_cases c_3 : x2 = (11 : Int32)
  · have hZ := jx_i_pos c_3 hZ
    refine lv_tableIn (tgt := 38) hx hb dX11_ofThing_1 (by rw [c_3]; decide) (by rw [c_3]; decide) (by rw [c_3]; rfl) (by decide) ?_
    refine lv_aload_n hx hb dX11_ofThing_38 rfl (lv_at hl 0 rfl) ?_
    refine gf_11_things hx hb hts in11 hown hK hP (hts (.fieldLink RX11 19 "CoinsOfLast" "things" "LCoinsOfLast$Things;") (List.mem_of_getElem? (i := 1) rfl)) dX11_ofThing_39 ?_
    refine gn_9_price hx hb hts in9 hown hK hP (hsp.1 _ (List.mem_of_getElem? (i := 19) rfl)) dX11_ofThing_42 ?_
    refine lv_iload_n hx hb dX11_ofThing_45 rfl (lv_at hl 1 rfl) ?_
    obtain ⟨c_4, hZ⟩ := jx_a_some hZ
    refine X_iald hx hb hK hP wX_9 c_4 dX11_ofThing_46 ?_
    exact leave_i hx hb hr hlocks hP hS hZ dX11_ofThing_47
  have hZ := jx_i_neg c_3 hZ
  by_cases c_5 : x2 = (12 : Int32)
  · have hZ := jx_i_pos c_5 hZ
    refine lv_tableIn (tgt := 48) hx hb dX11_ofThing_1 (by rw [c_5]; decide) (by rw [c_5]; decide) (by rw [c_5]; rfl) (by decide) ?_
    refine lv_aload_n hx hb dX11_ofThing_48 rfl (lv_at hl 0 rfl) ?_
    refine gf_11_things hx hb hts in11 hown hK hP (hts (.fieldLink RX11 19 "CoinsOfLast" "things" "LCoinsOfLast$Things;") (List.mem_of_getElem? (i := 1) rfl)) dX11_ofThing_49 ?_
    refine gn_9_value hx hb hts in9 hown hK hP (hsp.1 _ (List.mem_of_getElem? (i := 21) rfl)) dX11_ofThing_52 ?_
    refine lv_iload_n hx hb dX11_ofThing_55 rfl (lv_at hl 1 rfl) ?_
    obtain ⟨c_6, hZ⟩ := jx_a_some hZ
    refine X_iald hx hb hK hP wX_10 c_6 dX11_ofThing_56 ?_
    exact leave_i hx hb hr hlocks hP hS hZ dX11_ofThing_57
  have hZ := jx_i_neg c_5 hZ
  refine lv_tableD (tgt := 58) hx hb dX11_ofThing_1 ?_ (by decide) ?_
  · have t_0 : ¬ Int32.toInt x2 = 10 := lv_neT c_1 rfl
    have t_1 : ¬ Int32.toInt x2 = 11 := lv_neT c_3 rfl
    have t_2 : ¬ Int32.toInt x2 = 12 := lv_neT c_5 rfl
    by_cases a1 : Int32.toInt x2 < 10
    · exact Or.inl (Or.inl a1)
    by_cases a2 : 12 < Int32.toInt x2
    · exact Or.inl (Or.inr a2)
    exfalso; omega
  · refine lv_aload_n hx hb dX11_ofThing_58 rfl (lv_at hl 0 rfl) ?_
    refine gf_11_things hx hb hts in11 hown hK hP (hts (.fieldLink RX11 19 "CoinsOfLast" "things" "LCoinsOfLast$Things;") (List.mem_of_getElem? (i := 1) rfl)) dX11_ofThing_59 ?_
    refine gn_9_many hx hb hts in9 hown hK hP (hsp.1 _ (List.mem_of_getElem? (i := 24) rfl)) dX11_ofThing_62 ?_
    refine lv_iload_n hx hb dX11_ofThing_65 rfl (lv_at hl 1 rfl) ?_
    obtain ⟨c_7, hZ⟩ := jx_a_some hZ
    refine X_iald hx hb hK hP wX_11 c_7 dX11_ofThing_66 ?_
    exact leave_i hx hb hr hlocks hP hS hZ dX11_ofThing_67
theorem hd_X11_ofSort : yX11_ofSort.cls = RX11 ∧ yX11_ofSort.cls ≠ "java/lang/invoke/MethodHandle" ∧ yX11_ofSort.cls ≠ "java/lang/invoke/VarHandle" ∧ (parseMethodDescriptor yX11_ofSort.desc).map (fun d => d.parameters.length) = some 2 := by decide +kernel
theorem hd_X11_ofThing : yX11_ofThing.cls = RX11 ∧ yX11_ofThing.cls ≠ "java/lang/invoke/MethodHandle" ∧ yX11_ofThing.cls ≠ "java/lang/invoke/VarHandle" ∧ (parseMethodDescriptor yX11_ofThing.desc).map (fun d => d.parameters.length) = some 2 := by decide +kernel
theorem hd_X1_worthOf : yX1_worthOf.cls = RX1 ∧ yX1_worthOf.cls ≠ "java/lang/invoke/MethodHandle" ∧ yX1_worthOf.cls ≠ "java/lang/invoke/VarHandle" ∧ (parseMethodDescriptor yX1_worthOf.desc).map (fun d => d.parameters.length) = some 1 := by decide +kernel
-- X11_of
def f_X11_of (x1 : Int32) (x2 : Int32) (S : St) : Option (Int32 × St) :=
  jx_b2 (f_X11_within x2 (0 : Int32) (4 : Int32) S) (fun r_3 S_1 => (if r_3 = 0 then jx_b2 (f_X11_within x2 (10 : Int32) (13 : Int32) S_1) (fun r_7 S_5 => (if r_7 = 0 then jx_b2 (f_X11_isLand x1 S_5) (fun r_11 S_9 => (if r_11 = 0 then some ((-1 : Int32), S_9) else jx_b2 (f_X11_within x2 (20 : Int32) (21 : Int32) S_9) (fun r_15 S_13 => (if r_15 = 0 then some ((-1 : Int32), S_13) else (if x2 = (20 : Int32) then jx_a x1 4 (some ((S_13.1 38 (Int32.toNatClampNeg x1)), S_13)) else jx_b2 (f_X1_worthOf x1 S_13) (fun r_20 S_18 => some (r_20, S_18))))))) else jx_b2 (f_X9_knows x1 S_5) (fun r_24 S_22 => (if r_24 = 0 then some ((-1 : Int32), S_22) else jx_b2 (f_X11_ofThing x1 x2 S_22) (fun r_28 S_26 => some (r_28, S_26)))))) else jx_b2 (f_X1_knows x1 S_1) (fun r_31 S_29 => (if r_31 = 0 then some ((-1 : Int32), S_29) else jx_b2 (f_X11_ofSort x1 x2 S_29) (fun r_35 S_33 => some (r_35, S_33))))))
set_option maxHeartbeats 4000000 in
set_option maxRecDepth 100000 in
theorem c_X11_of (l : Launch) (D : va_G) (q : Nat → Nat) (k : CI) (x1 : Int32) (x2 : Int32) (S : St) (sz : Nat) (Z : Int32 × St) (hZ : f_X11_of x1 x2 S = some Z) : MetI W_X SX l yX11_of wsX11_of { frames := 2, cells := 0, slots := 0, locals := 42 } [.ref (q 0), .int x1, .int x2] D q k S sz Z := by
  refine enter (cc := cX11_of) (maxL := 3) (ret := some .int) (by decide) rfl (Nat.le_of_ble_eq_true rfl) ?_
  intro p e s m below meth c A ls hx hb hr hts hown hlocks hml hP hK hD hA hS hsp hAe hl
  have hown : s.vm.findClass RX11 = some m.cls := hown
  have hl : lv_has ls 3 [(0, .ref (q 0)), (1, .int x1), (2, .int x2)] := hl
  have in11 : ∀ w ∈ wsX110, w ∈ wsX11_of := fun _ h => (List.mem_cons_of_mem _ (List.mem_append_left _ (List.mem_append_left _ (List.mem_append_right _ h))))
  unfold f_X11_of at hZ
  refine lv_iload_n hx hb dX11_of_0 rfl (lv_at hl 2 rfl) ?_
  refine lv_iconst (v := (0 : Int32)) hx hb dX11_of_1 (by decide) ?_
  refine lv_iconst (v := (4 : Int32)) hx hb dX11_of_2 (by decide) ?_
  obtain ⟨r_3, S_1, hc_2, hZ⟩ := jx_b2_some hZ
  refine call_Si SX_ok sameX ⟨hx, hb, hml, hown, hts⟩ (c_X11_within l D q k x2 (0 : Int32) (4 : Int32) S _ (r_3, S_1)  hc_2) (va_cwS 3 hts gX11_of_X11_within rfl rfl rfl hd_X11_within ⟨Nat.le_of_ble_eq_true rfl, Nat.le_of_ble_eq_true rfl⟩) hK hP hD hS hA hsp (As := [.int x2, .int (0 : Int32), .int (4 : Int32)]) rfl hl.1 rfl (Nat.le_of_ble_eq_true rfl) dX11_of_3 ⟨Nat.zero_le _, Nat.zero_le _⟩ (fun H locs hP hD hS => ?_)
  refine lv_if_eq (tgt := 31) hx hb dX11_of_6 (by decide) (fun c_4 => ?_) (fun c_4 => ?_)
  · have hZ := jx_i_pos c_4 hZ
    refine lv_iload_n hx hb dX11_of_31 rfl (lv_at hl 2 rfl) ?_
    refine lv_bipush (v := (10 : Int32)) hx hb dX11_of_32 (by decide) ?_
    refine lv_bipush (v := (13 : Int32)) hx hb dX11_of_34 (by decide) ?_
    obtain ⟨r_7, S_5, hc_6, hZ⟩ := jx_b2_some hZ
    refine call_Si SX_ok sameX ⟨hx, hb, hml, hown, hts⟩ (c_X11_within l D q k x2 (10 : Int32) (13 : Int32) S_1 _ (r_7, S_5)  hc_6) (va_cwS 3 hts gX11_of_X11_within rfl rfl rfl hd_X11_within ⟨Nat.le_of_ble_eq_true rfl, Nat.le_of_ble_eq_true rfl⟩) hK hP hD hS hA hsp (As := [.int x2, .int (10 : Int32), .int (13 : Int32)]) rfl hl.1 rfl (Nat.le_of_ble_eq_true rfl) dX11_of_36 ⟨Nat.zero_le _, Nat.zero_le _⟩ (fun H locs hP hD hS => ?_)
    refine lv_if_eq (tgt := 64) hx hb dX11_of_39 (by decide) (fun c_8 => ?_) (fun c_8 => ?_)
    · have hZ := jx_i_pos c_8 hZ
      refine lv_iload_n hx hb dX11_of_64 rfl (lv_at hl 1 rfl) ?_
      obtain ⟨r_11, S_9, hc_10, hZ⟩ := jx_b2_some hZ
      refine call_Si SX_ok sameX ⟨hx, hb, hml, hown, hts⟩ (c_X11_isLand l D q k x1 S_5 _ (r_11, S_9)  hc_10) (va_cwS 1 hts gX11_of_X11_isLand rfl rfl rfl hd_X11_isLand ⟨Nat.le_of_ble_eq_true rfl, Nat.le_of_ble_eq_true rfl⟩) hK hP hD hS hA hsp (As := [.int x1]) rfl hl.1 rfl (Nat.le_of_ble_eq_true rfl) dX11_of_65 ⟨Nat.zero_le _, Nat.zero_le _⟩ (fun H locs hP hD hS => ?_)
      refine lv_if_eq (tgt := 82) hx hb dX11_of_68 (by decide) (fun c_12 => ?_) (fun c_12 => ?_)
      · have hZ := jx_i_pos c_12 hZ
        refine lv_iconst (v := (-1 : Int32)) hx hb dX11_of_82 (by decide) ?_
        exact leave_i hx hb hr hlocks hP hS hZ dX11_of_83
      · have hZ := jx_i_neg c_12 hZ
        refine lv_iload_n hx hb dX11_of_71 rfl (lv_at hl 2 rfl) ?_
        refine lv_bipush (v := (20 : Int32)) hx hb dX11_of_72 (by decide) ?_
        refine lv_bipush (v := (21 : Int32)) hx hb dX11_of_74 (by decide) ?_
        obtain ⟨r_15, S_13, hc_14, hZ⟩ := jx_b2_some hZ
        refine call_Si SX_ok sameX ⟨hx, hb, hml, hown, hts⟩ (c_X11_within l D q k x2 (20 : Int32) (21 : Int32) S_9 _ (r_15, S_13)  hc_14) (va_cwS 3 hts gX11_of_X11_within rfl rfl rfl hd_X11_within ⟨Nat.le_of_ble_eq_true rfl, Nat.le_of_ble_eq_true rfl⟩) hK hP hD hS hA hsp (As := [.int x2, .int (20 : Int32), .int (21 : Int32)]) rfl hl.1 rfl (Nat.le_of_ble_eq_true rfl) dX11_of_76 ⟨Nat.zero_le _, Nat.zero_le _⟩ (fun H locs hP hD hS => ?_)
        refine lv_if_ne (tgt := 84) hx hb dX11_of_79 (by decide) (fun c_16 => ?_) (fun c_16 => ?_)
        · have hZ := jx_i_neg c_16 hZ
          refine lv_iload_n hx hb dX11_of_84 rfl (lv_at hl 2 rfl) ?_
          refine lv_bipush (v := (20 : Int32)) hx hb dX11_of_85 (by decide) ?_
          refine lv_icmp_ne (tgt := 99) hx hb dX11_of_87 (by decide) (fun c_17 => ?_) (fun c_17 => ?_)
          · have hZ := jx_i_neg c_17 hZ
            refine lv_aload_n hx hb dX11_of_99 rfl (lv_at hl 0 rfl) ?_
            refine gf_11_coins hx hb hts in11 hown hK hP (hts (.fieldLink RX11 12 "CoinsOfLast" "coins" "LCoinsOfLast$Coins;") (List.mem_of_getElem? (i := 1) rfl)) dX11_of_100 ?_
            refine lv_iload_n hx hb dX11_of_103 rfl (lv_at hl 1 rfl) ?_
            obtain ⟨r_20, S_18, hc_19, hZ⟩ := jx_b2_some hZ
            refine call_Vi SX_ok sameX ⟨hx, hb, hml, hown, hts⟩ (c_X1_worthOf l D q k x1 S_13 _ (r_20, S_18)  hc_19) (cwV 1 hts gX11_of_X1_worthOf rfl rfl rfl hd_X1_worthOf ⟨Nat.le_of_ble_eq_true rfl, Nat.le_of_ble_eq_true rfl⟩) hK hP hD hS hA hsp (va_recv hK hP (ci := 1) (q0 := 1) rfl wX_1) (As := [.int x1]) rfl hl.1 rfl (Nat.le_of_ble_eq_true rfl) dX11_of_104 ⟨Nat.zero_le _, Nat.zero_le _⟩ (fun H locs hP hD hS => ?_)
            exact leave_i hx hb hr hlocks hP hS hZ dX11_of_107
          · have hZ := jx_i_pos c_17 hZ
            refine lv_aload_n hx hb dX11_of_90 rfl (lv_at hl 0 rfl) ?_
            refine gf_11_rules hx hb hts in11 hown hK hP (hts (.fieldLink RX11 85 "CoinsOfLast" "rules" "[I") (List.mem_of_getElem? (i := 3) rfl)) dX11_of_91 ?_
            refine lv_iload_n hx hb dX11_of_94 rfl (lv_at hl 1 rfl) ?_
            obtain ⟨c_21, hZ⟩ := jx_a_some hZ
            refine X_iald hx hb hK hP wX_38 c_21 dX11_of_95 ?_
            refine lv_goto (tgt := 107) hx hb dX11_of_96 (by decide) ?_
            exact leave_i hx hb hr hlocks hP hS hZ dX11_of_107
        · have hZ := jx_i_pos c_16 hZ
          refine lv_iconst (v := (-1 : Int32)) hx hb dX11_of_82 (by decide) ?_
          exact leave_i hx hb hr hlocks hP hS hZ dX11_of_83
    · have hZ := jx_i_neg c_8 hZ
      refine lv_aload_n hx hb dX11_of_42 rfl (lv_at hl 0 rfl) ?_
      refine gf_11_things hx hb hts in11 hown hK hP (hts (.fieldLink RX11 19 "CoinsOfLast" "things" "LCoinsOfLast$Things;") (List.mem_of_getElem? (i := 2) rfl)) dX11_of_43 ?_
      refine lv_iload_n hx hb dX11_of_46 rfl (lv_at hl 1 rfl) ?_
      obtain ⟨r_24, S_22, hc_23, hZ⟩ := jx_b2_some hZ
      refine call_Vi SX_ok sameX ⟨hx, hb, hml, hown, hts⟩ (c_X9_knows l D q k x1 S_5 _ (r_24, S_22)  hc_23) (cwV 1 hts gX11_of_X9_knows rfl rfl rfl hd_X9_knows ⟨Nat.le_of_ble_eq_true rfl, Nat.le_of_ble_eq_true rfl⟩) hK hP hD hS hA hsp (va_recv hK hP (ci := 9) (q0 := 7) rfl wX_7) (As := [.int x1]) rfl hl.1 rfl (Nat.le_of_ble_eq_true rfl) dX11_of_47 ⟨Nat.zero_le _, Nat.zero_le _⟩ (fun H locs hP hD hS => ?_)
      refine lv_if_eq (tgt := 62) hx hb dX11_of_50 (by decide) (fun c_25 => ?_) (fun c_25 => ?_)
      · have hZ := jx_i_pos c_25 hZ
        refine lv_iconst (v := (-1 : Int32)) hx hb dX11_of_62 (by decide) ?_
        exact leave_i hx hb hr hlocks hP hS hZ dX11_of_63
      · have hZ := jx_i_neg c_25 hZ
        refine lv_aload_n hx hb dX11_of_53 rfl (lv_at hl 0 rfl) ?_
        refine lv_iload_n hx hb dX11_of_54 rfl (lv_at hl 1 rfl) ?_
        refine lv_iload_n hx hb dX11_of_55 rfl (lv_at hl 2 rfl) ?_
        obtain ⟨r_28, S_26, hc_27, hZ⟩ := jx_b2_some hZ
        refine call_Vi SX_ok sameX ⟨hx, hb, hml, hown, hts⟩ (c_X11_ofThing l D q k x1 x2 S_22 _ (r_28, S_26)  hc_27) (cwV 2 hts gX11_of_X11_ofThing rfl rfl rfl hd_X11_ofThing ⟨Nat.le_of_ble_eq_true rfl, Nat.le_of_ble_eq_true rfl⟩) hK hP hD hS hA hsp (va_recv hK hP (ci := 11) (q0 := 0) rfl wX_0) (As := [.int x1, .int x2]) rfl hl.1 rfl (Nat.le_of_ble_eq_true rfl) dX11_of_56 ⟨Nat.zero_le _, Nat.zero_le _⟩ (fun H locs hP hD hS => ?_)
        refine lv_goto (tgt := 63) hx hb dX11_of_59 (by decide) ?_
        exact leave_i hx hb hr hlocks hP hS hZ dX11_of_63
  · have hZ := jx_i_neg c_4 hZ
    refine lv_aload_n hx hb dX11_of_9 rfl (lv_at hl 0 rfl) ?_
    refine gf_11_coins hx hb hts in11 hown hK hP (hts (.fieldLink RX11 12 "CoinsOfLast" "coins" "LCoinsOfLast$Coins;") (List.mem_of_getElem? (i := 1) rfl)) dX11_of_10 ?_
    refine lv_iload_n hx hb dX11_of_13 rfl (lv_at hl 1 rfl) ?_
    obtain ⟨r_31, S_29, hc_30, hZ⟩ := jx_b2_some hZ
    refine call_Vi SX_ok sameX ⟨hx, hb, hml, hown, hts⟩ (c_X1_knows l D q k x1 S_1 _ (r_31, S_29)  hc_30) (cwV 1 hts gX11_of_X1_knows rfl rfl rfl hd_X1_knows ⟨Nat.le_of_ble_eq_true rfl, Nat.le_of_ble_eq_true rfl⟩) hK hP hD hS hA hsp (va_recv hK hP (ci := 1) (q0 := 1) rfl wX_1) (As := [.int x1]) rfl hl.1 rfl (Nat.le_of_ble_eq_true rfl) dX11_of_14 ⟨Nat.zero_le _, Nat.zero_le _⟩ (fun H locs hP hD hS => ?_)
    refine lv_if_eq (tgt := 29) hx hb dX11_of_17 (by decide) (fun c_32 => ?_) (fun c_32 => ?_)
    · have hZ := jx_i_pos c_32 hZ
      refine lv_iconst (v := (-1 : Int32)) hx hb dX11_of_29 (by decide) ?_
      exact leave_i hx hb hr hlocks hP hS hZ dX11_of_30
    · have hZ := jx_i_neg c_32 hZ
      refine lv_aload_n hx hb dX11_of_20 rfl (lv_at hl 0 rfl) ?_
      refine lv_iload_n hx hb dX11_of_21 rfl (lv_at hl 1 rfl) ?_
      refine lv_iload_n hx hb dX11_of_22 rfl (lv_at hl 2 rfl) ?_
      obtain ⟨r_35, S_33, hc_34, hZ⟩ := jx_b2_some hZ
      refine call_Vi SX_ok sameX ⟨hx, hb, hml, hown, hts⟩ (c_X11_ofSort l D q k x1 x2 S_29 _ (r_35, S_33)  hc_34) (cwV 2 hts gX11_of_X11_ofSort rfl rfl rfl hd_X11_ofSort ⟨Nat.le_of_ble_eq_true rfl, Nat.le_of_ble_eq_true rfl⟩) hK hP hD hS hA hsp (va_recv hK hP (ci := 11) (q0 := 0) rfl wX_0) (As := [.int x1, .int x2]) rfl hl.1 rfl (Nat.le_of_ble_eq_true rfl) dX11_of_23 ⟨Nat.zero_le _, Nat.zero_le _⟩ (fun H locs hP hD hS => ?_)
      refine lv_goto (tgt := 30) hx hb dX11_of_26 (by decide) ?_
      exact leave_i hx hb hr hlocks hP hS hZ dX11_of_30
theorem hd_X6_add : yX6_add.cls = RX6 ∧ yX6_add.cls ≠ "java/lang/invoke/MethodHandle" ∧ yX6_add.cls ≠ "java/lang/invoke/VarHandle" ∧ (parseMethodDescriptor yX6_add.desc).map (fun d => d.parameters.length) = some 1 := by decide +kernel
-- X11_feed
def f_X11_feed (x1 : Int32) (S : St) : Option (Int32 × St) :=
  jx_b2 (f_X11_within x1 (0 : Int32) (255 : Int32) S) (fun r_3 S_1 => (if r_3 = 0 then some ((-1 : Int32), S_1) else jx_b2 (f_X6_add x1 S_1) (fun r_7 S_5 => some (r_7, S_5))))
set_option maxHeartbeats 4000000 in
set_option maxRecDepth 100000 in
theorem c_X11_feed (l : Launch) (D : va_G) (q : Nat → Nat) (k : CI) (x1 : Int32) (S : St) (sz : Nat) (Z : Int32 × St) (hZ : f_X11_feed x1 S = some Z) : MetI W_X SX l yX11_feed wsX11_feed { frames := 1, cells := 0, slots := 0, locals := 22 } [.ref (q 0), .int x1] D q k S sz Z := by
  refine enter (cc := cX11_feed) (maxL := 2) (ret := some .int) (by decide) rfl (Nat.le_of_ble_eq_true rfl) ?_
  intro p e s m below meth c A ls hx hb hr hts hown hlocks hml hP hK hD hA hS hsp hAe hl
  have hown : s.vm.findClass RX11 = some m.cls := hown
  have hl : lv_has ls 2 [(0, .ref (q 0)), (1, .int x1)] := hl
  have in11 : ∀ w ∈ wsX110, w ∈ wsX11_feed := fun _ h => (List.mem_cons_of_mem _ (List.mem_append_left _ (List.mem_append_right _ h)))
  unfold f_X11_feed at hZ
  refine lv_iload_n hx hb dX11_feed_0 rfl (lv_at hl 1 rfl) ?_
  refine lv_iconst (v := (0 : Int32)) hx hb dX11_feed_1 (by decide) ?_
  refine lv_sipush (v := (255 : Int32)) hx hb dX11_feed_2 (by decide) ?_
  obtain ⟨r_3, S_1, hc_2, hZ⟩ := jx_b2_some hZ
  refine call_Si SX_ok sameX ⟨hx, hb, hml, hown, hts⟩ (c_X11_within l D q k x1 (0 : Int32) (255 : Int32) S _ (r_3, S_1)  hc_2) (va_cwS 3 hts gX11_feed_X11_within rfl rfl rfl hd_X11_within ⟨Nat.le_of_ble_eq_true rfl, Nat.le_of_ble_eq_true rfl⟩) hK hP hD hS hA hsp (As := [.int x1, .int (0 : Int32), .int (255 : Int32)]) rfl hl.1 rfl (Nat.le_of_ble_eq_true rfl) dX11_feed_5 ⟨Nat.zero_le _, Nat.zero_le _⟩ (fun H locs hP hD hS => ?_)
  refine lv_if_eq (tgt := 22) hx hb dX11_feed_8 (by decide) (fun c_4 => ?_) (fun c_4 => ?_)
  · have hZ := jx_i_pos c_4 hZ
    refine lv_iconst (v := (-1 : Int32)) hx hb dX11_feed_22 (by decide) ?_
    exact leave_i hx hb hr hlocks hP hS hZ dX11_feed_23
  · have hZ := jx_i_neg c_4 hZ
    refine lv_aload_n hx hb dX11_feed_11 rfl (lv_at hl 0 rfl) ?_
    refine gf_11_reader hx hb hts in11 hown hK hP (hts (.fieldLink RX11 33 "CoinsOfLast" "reader" "LCoinsOfLast$Reader;") (List.mem_of_getElem? (i := 1) rfl)) dX11_feed_12 ?_
    refine lv_iload_n hx hb dX11_feed_15 rfl (lv_at hl 1 rfl) ?_
    obtain ⟨r_7, S_5, hc_6, hZ⟩ := jx_b2_some hZ
    refine call_Vi SX_ok sameX ⟨hx, hb, hml, hown, hts⟩ (c_X6_add l D q k x1 S_1 _ (r_7, S_5)  hc_6) (cwV 1 hts gX11_feed_X6_add rfl rfl rfl hd_X6_add ⟨Nat.le_of_ble_eq_true rfl, Nat.le_of_ble_eq_true rfl⟩) hK hP hD hS hA hsp (va_recv hK hP (ci := 6) (q0 := 18) rfl wX_18) (As := [.int x1]) rfl hl.1 rfl (Nat.le_of_ble_eq_true rfl) dX11_feed_16 ⟨Nat.zero_le _, Nat.zero_le _⟩ (fun H locs hP hD hS => ?_)
    refine lv_goto (tgt := 23) hx hb dX11_feed_19 (by decide) ?_
    exact leave_i hx hb hr hlocks hP hS hZ dX11_feed_23
theorem hd_X6_parse : yX6_parse.cls = RX6 ∧ yX6_parse.cls ≠ "java/lang/invoke/MethodHandle" ∧ yX6_parse.cls ≠ "java/lang/invoke/VarHandle" ∧ (parseMethodDescriptor yX6_parse.desc).map (fun d => d.parameters.length) = some 0 := by decide +kernel
theorem hd_X8_become : yX8_become.cls = RX8 ∧ yX8_become.cls ≠ "java/lang/invoke/MethodHandle" ∧ yX8_become.cls ≠ "java/lang/invoke/VarHandle" ∧ (parseMethodDescriptor yX8_become.desc).map (fun d => d.parameters.length) = some 2 := by decide +kernel
-- X11_law
def f_X11_law_46 (hs0_10 : Nat) (S_10 : St) : Option (Int32 × St) :=
  jx_b (f_X8_become hs0_10 (S_10.1 18 3) S_10) (fun S_11 => some ((1 : Int32), S_11))
def f_X11_law (x1 : Int32) (S : St) : Option (Int32 × St) :=
  jx_b2 (f_X11_within x1 (0 : Int32) (1 : Int32) S) (fun r_3 S_1 => (if r_3 = 0 then some ((-1 : Int32), S_1) else jx_b2 (f_X6_parse S_1) (fun r_7 S_5 => (if r_7 < 0 then (if x1 = 0 then f_X11_law_46 0 S_5 else f_X11_law_46 1 S_5) else some (((-100 : Int32) - r_7), S_5)))))
set_option maxHeartbeats 4000000 in
set_option maxRecDepth 100000 in
theorem c_X11_law (l : Launch) (D : va_G) (q : Nat → Nat) (k : CI) (x1 : Int32) (S : St) (sz : Nat) (Z : Int32 × St) (hZ : f_X11_law x1 S = some Z) : MetI W_X SX l yX11_law wsX11_law { frames := 183, cells := 0, slots := 0, locals := 4086 } [.ref (q 0), .int x1] D q k S sz Z := by
  refine enter (cc := cX11_law) (maxL := 4) (ret := some .int) (by decide) rfl (Nat.le_of_ble_eq_true rfl) ?_
  intro p e s m below meth c A ls hx hb hr hts hown hlocks hml hP hK hD hA hS hsp hAe hl
  have hown : s.vm.findClass RX11 = some m.cls := hown
  have hl : lv_has ls 4 [(0, .ref (q 0)), (1, .int x1)] := hl
  have in6 : ∀ w ∈ wsX60, w ∈ wsX11_law := fun _ h => (List.mem_cons_of_mem _ (List.mem_append_left _ (List.mem_append_right _ h)))
  have in10 : ∀ w ∈ wsX100, w ∈ wsX11_law := fun _ h => (List.mem_cons_of_mem _ (List.mem_append_left _ (List.mem_append_left _ (List.mem_append_right _ h))))
  have in11 : ∀ w ∈ wsX110, w ∈ wsX11_law := fun _ h => (List.mem_cons_of_mem _ (List.mem_append_left _ (List.mem_append_left _ (List.mem_append_left _ (List.mem_append_right _ h)))))
  have j46 : ∀ (hs0_10 : Nat) (S_10 : St)  (hhs0_10 : hs0_10 < 2) (H : Heap) (locs : List Loc) (hZ : f_X11_law_46 hs0_10 S_10 = some Z) (hP : va_P D vwCl (W_X q k S_10) H) (hD : va_D A (W_X q k S_10)) (hS : va_S A s.heap H locs) (ls : Array Slot) (hl : lv_has ls 4 [(0, .ref (q 0))]), W p l e ({ frames := 183, cells := 0, slots := 0, locals := 4086 } : Room) s m ([.ref (q 0), .int x1] : List Value).toArray below meth c H locs 0 0 (MQ below (va_Qi (fun r u => (r, u) = Z) (fun u t => va_P D vwCl (W_X q k u) t.heap) A) ([.ref (q 0), .int x1] : List Value).toArray s 0 0 A) (F0 m 46 ls [.ref (q (40 + 4 * hs0_10))]) := by
    intro hs0_10 S_10 hhs0_10  H locs hZ hP hD hS ls hl
    unfold f_X11_law_46 at hZ
    refine lv_astore_n (lv' := [(3, .ref (q (40 + 4 * hs0_10))), (0, .ref (q 0))]) hx hb dX11_law_46 rfl hl (by decide) rfl (fun ls hl => ?_)
    refine lv_aload_n hx hb dX11_law_47 rfl (lv_at hl 0 rfl) ?_
    refine lv_aload_n hx hb dX11_law_48 rfl (lv_at hl 1 rfl) ?_
    refine gf_11_reader hx hb hts in11 hown hK hP (hts (.fieldLink RX11 33 "CoinsOfLast" "reader" "LCoinsOfLast$Reader;") (List.mem_of_getElem? (i := 1) rfl)) dX11_law_49 ?_
    refine gn_6_code hx hb hts in6 hown hK hP (hsp.1 _ (List.mem_of_getElem? (i := 30) rfl)) dX11_law_52 ?_
    refine lv_aload_n hx hb dX11_law_55 rfl (lv_at hl 1 rfl) ?_
    refine gf_11_reader hx hb hts in11 hown hK hP (hts (.fieldLink RX11 33 "CoinsOfLast" "reader" "LCoinsOfLast$Reader;") (List.mem_of_getElem? (i := 1) rfl)) dX11_law_56 ?_
    refine gn_6_codes hx hb hts in6 hown hK hP (hsp.1 _ (List.mem_of_getElem? (i := 32) rfl)) dX11_law_59 ?_
    obtain ⟨S_11, hc_12, hZ⟩ := jx_b_some hZ
    refine call_Vv SX_ok sameX ⟨hx, hb, hml, hown, hts⟩ (c_X8_become l D q k hs0_10 (S_10.1 18 3) S_10 _ S_11 hhs0_10 hc_12) (cwV 2 hts gX11_law_X8_become rfl rfl rfl hd_X8_become ⟨Nat.le_of_ble_eq_true rfl, Nat.le_of_ble_eq_true rfl⟩) hK hP hD hS hA hsp (va_recv hK hP (ci := 8) (q0 := (40 + 4 * hs0_10)) rfl (wX_o8 hhs0_10)) (As := [.ref (q 20), .int (S_10.1 18 3)]) rfl hl.1 rfl (Nat.le_of_ble_eq_true rfl) dX11_law_62 ⟨Nat.zero_le _, Nat.zero_le _⟩ (fun H locs hP hD hS => ?_)
    refine lv_iconst (v := (1 : Int32)) hx hb dX11_law_65 (by decide) ?_
    exact leave_i hx hb hr hlocks hP hS hZ dX11_law_66
  unfold f_X11_law at hZ
  refine lv_iload_n hx hb dX11_law_0 rfl (lv_at hl 1 rfl) ?_
  refine lv_iconst (v := (0 : Int32)) hx hb dX11_law_1 (by decide) ?_
  refine lv_iconst (v := (1 : Int32)) hx hb dX11_law_2 (by decide) ?_
  obtain ⟨r_3, S_1, hc_2, hZ⟩ := jx_b2_some hZ
  refine call_Si SX_ok sameX ⟨hx, hb, hml, hown, hts⟩ (c_X11_within l D q k x1 (0 : Int32) (1 : Int32) S _ (r_3, S_1)  hc_2) (va_cwS 3 hts gX11_law_X11_within rfl rfl rfl hd_X11_within ⟨Nat.le_of_ble_eq_true rfl, Nat.le_of_ble_eq_true rfl⟩) hK hP hD hS hA hsp (As := [.int x1, .int (0 : Int32), .int (1 : Int32)]) rfl hl.1 rfl (Nat.le_of_ble_eq_true rfl) dX11_law_3 ⟨Nat.zero_le _, Nat.zero_le _⟩ (fun H locs hP hD hS => ?_)
  refine lv_if_ne (tgt := 11) hx hb dX11_law_6 (by decide) (fun c_4 => ?_) (fun c_4 => ?_)
  · have hZ := jx_i_neg c_4 hZ
    refine lv_aload_n hx hb dX11_law_11 rfl (lv_at hl 0 rfl) ?_
    refine gf_11_reader hx hb hts in11 hown hK hP (hts (.fieldLink RX11 33 "CoinsOfLast" "reader" "LCoinsOfLast$Reader;") (List.mem_of_getElem? (i := 1) rfl)) dX11_law_12 ?_
    obtain ⟨r_7, S_5, hc_6, hZ⟩ := jx_b2_some hZ
    refine call_Vi SX_ok sameX ⟨hx, hb, hml, hown, hts⟩ (c_X6_parse l D q k  S_1 _ (r_7, S_5)  hc_6) (cwV 0 hts gX11_law_X6_parse rfl rfl rfl hd_X6_parse ⟨Nat.le_of_ble_eq_true rfl, Nat.le_of_ble_eq_true rfl⟩) hK hP hD hS hA hsp (va_recv hK hP (ci := 6) (q0 := 18) rfl wX_18) (As := []) rfl hl.1 rfl (Nat.le_of_ble_eq_true rfl) dX11_law_15 ⟨Nat.zero_le _, Nat.zero_le _⟩ (fun H locs hP hD hS => ?_)
    refine lv_istore_n (lv' := [(2, .int r_7), (0, .ref (q 0)), (1, .int x1)]) hx hb dX11_law_18 rfl hl (by decide) rfl (fun ls hl => ?_)
    refine lv_iload_n hx hb dX11_law_19 rfl (lv_at hl 0 rfl) ?_
    refine lv_if_lt (tgt := 28) hx hb dX11_law_20 (by decide) (fun c_8 => ?_) (fun c_8 => ?_)
    · have hZ := jx_i_pos c_8 hZ
      refine lv_iload_n hx hb dX11_law_28 rfl (lv_at hl 2 rfl) ?_
      refine lv_if_ne (tgt := 42) hx hb dX11_law_29 (by decide) (fun c_9 => ?_) (fun c_9 => ?_)
      · have hZ := jx_i_neg c_9 hZ
        refine lv_aload_n hx hb dX11_law_42 rfl (lv_at hl 1 rfl) ?_
        refine gf_11_years hx hb hts in11 hown hK hP (hts (.fieldLink RX11 47 "CoinsOfLast" "years" "LCoinsOfLast$Text;") (List.mem_of_getElem? (i := 3) rfl)) dX11_law_43 ?_
        exact j46 1 S_5 (show (1 : Nat) < 2 by decide) _ _ hZ hP hD hS _ (lv_sub hl [1] rfl)
      · have hZ := jx_i_pos c_9 hZ
        refine lv_aload_n hx hb dX11_law_32 rfl (lv_at hl 1 rfl) ?_
        refine gf_11_office hx hb hts in11 hown hK hP (hts (.fieldLink RX11 40 "CoinsOfLast" "office" "LCoinsOfLast$Window;") (List.mem_of_getElem? (i := 2) rfl)) dX11_law_33 ?_
        refine gn_10_rates hx hb hts in10 hown hK hP (hsp.1 _ (List.mem_of_getElem? (i := 37) rfl)) dX11_law_36 ?_
        refine lv_goto (tgt := 46) hx hb dX11_law_39 (by decide) ?_
        exact j46 0 S_5 (show (0 : Nat) < 2 by decide) _ _ hZ hP hD hS _ (lv_sub hl [1] rfl)
    · have hZ := jx_i_neg c_8 hZ
      refine lv_bipush (v := (-100 : Int32)) hx hb dX11_law_23 (by decide) ?_
      refine lv_iload_n hx hb dX11_law_25 rfl (lv_at hl 0 rfl) ?_
      refine lv_isub hx hb dX11_law_26 ?_
      exact leave_i hx hb hr hlocks hP hS hZ dX11_law_27
  · have hZ := jx_i_pos c_4 hZ
    refine lv_iconst (v := (-1 : Int32)) hx hb dX11_law_9 (by decide) ?_
    exact leave_i hx hb hr hlocks hP hS hZ dX11_law_10
-- X11_isPair
def f_X11_isPair (x0 : Int32) (S : St) : Option (Int32 × St) :=
  (if x0 < 0 then some ((0 : Int32), S) else jx_d (10 : Int32) (jx_b2 (f_X11_isLand (x0 / (10 : Int32)) S) (fun r_5 S_3 => (if r_5 = 0 then some ((0 : Int32), S_3) else jx_d (10 : Int32) (jx_b2 (f_X11_isLand (x0 - x0 / (10 : Int32) * (10 : Int32)) S_3) (fun r_10 S_8 => (if r_10 = 0 then some ((0 : Int32), S_8) else some ((1 : Int32), S_8))))))))
set_option maxHeartbeats 4000000 in
set_option maxRecDepth 100000 in
theorem c_X11_isPair (l : Launch) (D : va_G) (q : Nat → Nat) (k : CI) (x0 : Int32) (S : St) (sz : Nat) (Z : Int32 × St) (hZ : f_X11_isPair x0 S = some Z) : MetI W_X SX l yX11_isPair wsX11_isPair { frames := 2, cells := 0, slots := 0, locals := 42 } [.int x0] D q k S sz Z := by
  refine enter (cc := cX11_isPair) (maxL := 1) (ret := some .boolean) (by decide) rfl (Nat.le_of_ble_eq_true rfl) ?_
  intro p e s m below meth c A ls hx hb hr hts hown hlocks hml hP hK hD hA hS hsp hAe hl
  have hown : s.vm.findClass RX11 = some m.cls := hown
  have hl : lv_has ls 1 [(0, .int x0)] := hl
  unfold f_X11_isPair at hZ
  refine lv_iload_n hx hb dX11_isPair_0 rfl (lv_at hl 0 rfl) ?_
  refine lv_if_lt (tgt := 28) hx hb dX11_isPair_1 (by decide) (fun c_1 => ?_) (fun c_1 => ?_)
  · have hZ := jx_i_pos c_1 hZ
    refine lv_iconst (v := (0 : Int32)) hx hb dX11_isPair_28 (by decide) ?_
    exact leave_z hx hb hr hlocks rfl hP hS hZ dX11_isPair_29
  · have hZ := jx_i_neg c_1 hZ
    refine lv_iload_n hx hb dX11_isPair_4 rfl (lv_at hl 0 rfl) ?_
    refine lv_bipush (v := (10 : Int32)) hx hb dX11_isPair_5 (by decide) ?_
    obtain ⟨c_2, hZ⟩ := jx_d_some hZ
    refine lv_idiv hx hb dX11_isPair_7 c_2 ?_
    obtain ⟨r_5, S_3, hc_4, hZ⟩ := jx_b2_some hZ
    refine call_Si SX_ok sameX ⟨hx, hb, hml, hown, hts⟩ (c_X11_isLand l D q k (x0 / (10 : Int32)) S _ (r_5, S_3)  hc_4) (va_cwS 1 hts gX11_isPair_X11_isLand rfl rfl rfl hd_X11_isLand ⟨Nat.le_of_ble_eq_true rfl, Nat.le_of_ble_eq_true rfl⟩) hK hP hD hS hA hsp (As := [.int (x0 / (10 : Int32))]) rfl hl.1 rfl (Nat.le_of_ble_eq_true rfl) dX11_isPair_8 ⟨Nat.zero_le _, Nat.zero_le _⟩ (fun H locs hP hD hS => ?_)
    refine lv_if_eq (tgt := 28) hx hb dX11_isPair_11 (by decide) (fun c_6 => ?_) (fun c_6 => ?_)
    · have hZ := jx_i_pos c_6 hZ
      refine lv_iconst (v := (0 : Int32)) hx hb dX11_isPair_28 (by decide) ?_
      exact leave_z hx hb hr hlocks rfl hP hS hZ dX11_isPair_29
    · have hZ := jx_i_neg c_6 hZ
      refine lv_iload_n hx hb dX11_isPair_14 rfl (lv_at hl 0 rfl) ?_
      refine lv_bipush (v := (10 : Int32)) hx hb dX11_isPair_15 (by decide) ?_
      obtain ⟨c_7, hZ⟩ := jx_d_some hZ
      refine lv_irem hx hb dX11_isPair_17 c_7 ?_
      obtain ⟨r_10, S_8, hc_9, hZ⟩ := jx_b2_some hZ
      refine call_Si SX_ok sameX ⟨hx, hb, hml, hown, hts⟩ (c_X11_isLand l D q k (x0 - x0 / (10 : Int32) * (10 : Int32)) S_3 _ (r_10, S_8)  hc_9) (va_cwS 1 hts gX11_isPair_X11_isLand rfl rfl rfl hd_X11_isLand ⟨Nat.le_of_ble_eq_true rfl, Nat.le_of_ble_eq_true rfl⟩) hK hP hD hS hA hsp (As := [.int (x0 - x0 / (10 : Int32) * (10 : Int32))]) rfl hl.1 rfl (Nat.le_of_ble_eq_true rfl) dX11_isPair_18 ⟨Nat.zero_le _, Nat.zero_le _⟩ (fun H locs hP hD hS => ?_)
      refine lv_if_eq (tgt := 28) hx hb dX11_isPair_21 (by decide) (fun c_11 => ?_) (fun c_11 => ?_)
      · have hZ := jx_i_pos c_11 hZ
        refine lv_iconst (v := (0 : Int32)) hx hb dX11_isPair_28 (by decide) ?_
        exact leave_z hx hb hr hlocks rfl hP hS hZ dX11_isPair_29
      · have hZ := jx_i_neg c_11 hZ
        refine lv_iconst (v := (1 : Int32)) hx hb dX11_isPair_24 (by decide) ?_
        refine lv_goto (tgt := 29) hx hb dX11_isPair_25 (by decide) ?_
        exact leave_z hx hb hr hlocks rfl hP hS hZ dX11_isPair_29
-- X11_isDay
def f_X11_isDay (x0 : Int32) (S : St) : Option (Int32 × St) :=
  jx_b2 (f_X11_within x0 (0 : Int32) (9999 : Int32) S) (fun r_3 S_1 => jx_z r_3 (some (r_3, S_1)))
set_option maxHeartbeats 4000000 in
set_option maxRecDepth 100000 in
theorem c_X11_isDay (l : Launch) (D : va_G) (q : Nat → Nat) (k : CI) (x0 : Int32) (S : St) (sz : Nat) (Z : Int32 × St) (hZ : f_X11_isDay x0 S = some Z) : MetI W_X SX l yX11_isDay wsX11_isDay { frames := 1, cells := 0, slots := 0, locals := 22 } [.int x0] D q k S sz Z := by
  refine enter (cc := cX11_isDay) (maxL := 1) (ret := some .boolean) (by decide) rfl (Nat.le_of_ble_eq_true rfl) ?_
  intro p e s m below meth c A ls hx hb hr hts hown hlocks hml hP hK hD hA hS hsp hAe hl
  have hown : s.vm.findClass RX11 = some m.cls := hown
  have hl : lv_has ls 1 [(0, .int x0)] := hl
  unfold f_X11_isDay at hZ
  refine lv_iload_n hx hb dX11_isDay_0 rfl (lv_at hl 0 rfl) ?_
  refine lv_iconst (v := (0 : Int32)) hx hb dX11_isDay_1 (by decide) ?_
  refine lv_sipush (v := (9999 : Int32)) hx hb dX11_isDay_2 (by decide) ?_
  obtain ⟨r_3, S_1, hc_2, hZ⟩ := jx_b2_some hZ
  refine call_Si SX_ok sameX ⟨hx, hb, hml, hown, hts⟩ (c_X11_within l D q k x0 (0 : Int32) (9999 : Int32) S _ (r_3, S_1)  hc_2) (va_cwS 3 hts gX11_isDay_X11_within rfl rfl rfl hd_X11_within ⟨Nat.le_of_ble_eq_true rfl, Nat.le_of_ble_eq_true rfl⟩) hK hP hD hS hA hsp (As := [.int x0, .int (0 : Int32), .int (9999 : Int32)]) rfl hl.1 rfl (Nat.le_of_ble_eq_true rfl) dX11_isDay_5 ⟨Nat.zero_le _, Nat.zero_le _⟩ (fun H locs hP hD hS => ?_)
  obtain ⟨hnz, hZ⟩ := jx_z_some hZ
  exact leave_z hx hb hr hlocks hnz hP hS hZ dX11_isDay_8
theorem hd_X11_isDay : yX11_isDay.cls ≠ "java/lang/invoke/MethodHandle" ∧ yX11_isDay.cls ≠ "java/lang/invoke/VarHandle" ∧ (parseMethodDescriptor yX11_isDay.desc).map (fun d => d.parameters.length) = some 1 := by decide +kernel
theorem hd_X11_isPair : yX11_isPair.cls ≠ "java/lang/invoke/MethodHandle" ∧ yX11_isPair.cls ≠ "java/lang/invoke/VarHandle" ∧ (parseMethodDescriptor yX11_isPair.desc).map (fun d => d.parameters.length) = some 1 := by decide +kernel
-- X11_rate
def f_X11_rate (x1 : Int32) (x2 : Int32) (S : St) : Option (Int32 × St) :=
  jx_b2 (f_X11_isPair x1 S) (fun r_3 S_1 => (if r_3 = 0 then some ((-1 : Int32), S_1) else jx_b2 (f_X11_isDay x2 S_1) (fun r_7 S_5 => (if r_7 = 0 then some ((-1 : Int32), S_5) else jx_d (10 : Int32) (jx_d (10 : Int32) (jx_b2 (f_X10_rateOf (x1 / (10 : Int32)) (x1 - x1 / (10 : Int32) * (10 : Int32)) x2 S_5) (fun r_13 S_11 => some (r_13, S_11))))))))
set_option maxHeartbeats 4000000 in
set_option maxRecDepth 100000 in
theorem c_X11_rate (l : Launch) (D : va_G) (q : Nat → Nat) (k : CI) (x1 : Int32) (x2 : Int32) (S : St) (sz : Nat) (Z : Int32 × St) (hZ : f_X11_rate x1 x2 S = some Z) : MetI W_X SX l yX11_rate wsX11_rate { frames := 3, cells := 0, slots := 0, locals := 71 } [.ref (q 0), .int x1, .int x2] D q k S sz Z := by
  refine enter (cc := cX11_rate) (maxL := 3) (ret := some .int) (by decide) rfl (Nat.le_of_ble_eq_true rfl) ?_
  intro p e s m below meth c A ls hx hb hr hts hown hlocks hml hP hK hD hA hS hsp hAe hl
  have hown : s.vm.findClass RX11 = some m.cls := hown
  have hl : lv_has ls 3 [(0, .ref (q 0)), (1, .int x1), (2, .int x2)] := hl
  have in11 : ∀ w ∈ wsX110, w ∈ wsX11_rate := fun _ h => (List.mem_cons_of_mem _ (List.mem_append_left _ (List.mem_append_left _ (List.mem_append_right _ h))))
  unfold f_X11_rate at hZ
  refine lv_iload_n hx hb dX11_rate_0 rfl (lv_at hl 1 rfl) ?_
  obtain ⟨r_3, S_1, hc_2, hZ⟩ := jx_b2_some hZ
  refine call_Si SX_ok sameX ⟨hx, hb, hml, hown, hts⟩ (c_X11_isPair l D q k x1 S _ (r_3, S_1)  hc_2) (va_cwS 1 hts gX11_rate_X11_isPair rfl rfl rfl hd_X11_isPair ⟨Nat.le_of_ble_eq_true rfl, Nat.le_of_ble_eq_true rfl⟩) hK hP hD hS hA hsp (As := [.int x1]) rfl hl.1 rfl (Nat.le_of_ble_eq_true rfl) dX11_rate_1 ⟨Nat.zero_le _, Nat.zero_le _⟩ (fun H locs hP hD hS => ?_)
  refine lv_if_eq (tgt := 33) hx hb dX11_rate_4 (by decide) (fun c_4 => ?_) (fun c_4 => ?_)
  · have hZ := jx_i_pos c_4 hZ
    refine lv_iconst (v := (-1 : Int32)) hx hb dX11_rate_33 (by decide) ?_
    exact leave_i hx hb hr hlocks hP hS hZ dX11_rate_34
  · have hZ := jx_i_neg c_4 hZ
    refine lv_iload_n hx hb dX11_rate_7 rfl (lv_at hl 2 rfl) ?_
    obtain ⟨r_7, S_5, hc_6, hZ⟩ := jx_b2_some hZ
    refine call_Si SX_ok sameX ⟨hx, hb, hml, hown, hts⟩ (c_X11_isDay l D q k x2 S_1 _ (r_7, S_5)  hc_6) (va_cwS 1 hts gX11_rate_X11_isDay rfl rfl rfl hd_X11_isDay ⟨Nat.le_of_ble_eq_true rfl, Nat.le_of_ble_eq_true rfl⟩) hK hP hD hS hA hsp (As := [.int x2]) rfl hl.1 rfl (Nat.le_of_ble_eq_true rfl) dX11_rate_8 ⟨Nat.zero_le _, Nat.zero_le _⟩ (fun H locs hP hD hS => ?_)
    refine lv_if_eq (tgt := 33) hx hb dX11_rate_11 (by decide) (fun c_8 => ?_) (fun c_8 => ?_)
    · have hZ := jx_i_pos c_8 hZ
      refine lv_iconst (v := (-1 : Int32)) hx hb dX11_rate_33 (by decide) ?_
      exact leave_i hx hb hr hlocks hP hS hZ dX11_rate_34
    · have hZ := jx_i_neg c_8 hZ
      refine lv_aload_n hx hb dX11_rate_14 rfl (lv_at hl 0 rfl) ?_
      refine gf_11_office hx hb hts in11 hown hK hP (hts (.fieldLink RX11 40 "CoinsOfLast" "office" "LCoinsOfLast$Window;") (List.mem_of_getElem? (i := 1) rfl)) dX11_rate_15 ?_
      refine lv_iload_n hx hb dX11_rate_18 rfl (lv_at hl 1 rfl) ?_
      refine lv_bipush (v := (10 : Int32)) hx hb dX11_rate_19 (by decide) ?_
      obtain ⟨c_9, hZ⟩ := jx_d_some hZ
      refine lv_idiv hx hb dX11_rate_21 c_9 ?_
      refine lv_iload_n hx hb dX11_rate_22 rfl (lv_at hl 1 rfl) ?_
      refine lv_bipush (v := (10 : Int32)) hx hb dX11_rate_23 (by decide) ?_
      obtain ⟨c_10, hZ⟩ := jx_d_some hZ
      refine lv_irem hx hb dX11_rate_25 c_10 ?_
      refine lv_iload_n hx hb dX11_rate_26 rfl (lv_at hl 2 rfl) ?_
      obtain ⟨r_13, S_11, hc_12, hZ⟩ := jx_b2_some hZ
      refine call_Vi SX_ok sameX ⟨hx, hb, hml, hown, hts⟩ (c_X10_rateOf l D q k (x1 / (10 : Int32)) (x1 - x1 / (10 : Int32) * (10 : Int32)) x2 S_5 _ (r_13, S_11)  hc_12) (cwV 3 hts gX11_rate_X10_rateOf rfl rfl rfl hd_X10_rateOf ⟨Nat.le_of_ble_eq_true rfl, Nat.le_of_ble_eq_true rfl⟩) hK hP hD hS hA hsp (va_recv hK hP (ci := 10) (q0 := 21) rfl wX_21) (As := [.int (x1 / (10 : Int32)), .int (x1 - x1 / (10 : Int32) * (10 : Int32)), .int x2]) rfl hl.1 rfl (Nat.le_of_ble_eq_true rfl) dX11_rate_27 ⟨Nat.zero_le _, Nat.zero_le _⟩ (fun H locs hP hD hS => ?_)
      refine lv_goto (tgt := 34) hx hb dX11_rate_30 (by decide) ?_
      exact leave_i hx hb hr hlocks hP hS hZ dX11_rate_34
-- X11_isAmount
def f_X11_isAmount (x0 : Int32) (S : St) : Option (Int32 × St) :=
  (if x0 < 0 then some ((0 : Int32), S) else jx_d (10000 : Int32) (jx_b2 (f_X11_isLand (x0 / (10000 : Int32)) S) (fun r_5 S_3 => (if r_5 = 0 then some ((0 : Int32), S_3) else some ((1 : Int32), S_3)))))
set_option maxHeartbeats 4000000 in
set_option maxRecDepth 100000 in
theorem c_X11_isAmount (l : Launch) (D : va_G) (q : Nat → Nat) (k : CI) (x0 : Int32) (S : St) (sz : Nat) (Z : Int32 × St) (hZ : f_X11_isAmount x0 S = some Z) : MetI W_X SX l yX11_isAmount wsX11_isAmount { frames := 2, cells := 0, slots := 0, locals := 42 } [.int x0] D q k S sz Z := by
  refine enter (cc := cX11_isAmount) (maxL := 1) (ret := some .boolean) (by decide) rfl (Nat.le_of_ble_eq_true rfl) ?_
  intro p e s m below meth c A ls hx hb hr hts hown hlocks hml hP hK hD hA hS hsp hAe hl
  have hown : s.vm.findClass RX11 = some m.cls := hown
  have hl : lv_has ls 1 [(0, .int x0)] := hl
  unfold f_X11_isAmount at hZ
  refine lv_iload_n hx hb dX11_isAmount_0 rfl (lv_at hl 0 rfl) ?_
  refine lv_if_lt (tgt := 19) hx hb dX11_isAmount_1 (by decide) (fun c_1 => ?_) (fun c_1 => ?_)
  · have hZ := jx_i_pos c_1 hZ
    refine lv_iconst (v := (0 : Int32)) hx hb dX11_isAmount_19 (by decide) ?_
    exact leave_z hx hb hr hlocks rfl hP hS hZ dX11_isAmount_20
  · have hZ := jx_i_neg c_1 hZ
    refine lv_iload_n hx hb dX11_isAmount_4 rfl (lv_at hl 0 rfl) ?_
    refine lv_sipush (v := (10000 : Int32)) hx hb dX11_isAmount_5 (by decide) ?_
    obtain ⟨c_2, hZ⟩ := jx_d_some hZ
    refine lv_idiv hx hb dX11_isAmount_8 c_2 ?_
    obtain ⟨r_5, S_3, hc_4, hZ⟩ := jx_b2_some hZ
    refine call_Si SX_ok sameX ⟨hx, hb, hml, hown, hts⟩ (c_X11_isLand l D q k (x0 / (10000 : Int32)) S _ (r_5, S_3)  hc_4) (va_cwS 1 hts gX11_isAmount_X11_isLand rfl rfl rfl hd_X11_isLand ⟨Nat.le_of_ble_eq_true rfl, Nat.le_of_ble_eq_true rfl⟩) hK hP hD hS hA hsp (As := [.int (x0 / (10000 : Int32))]) rfl hl.1 rfl (Nat.le_of_ble_eq_true rfl) dX11_isAmount_9 ⟨Nat.zero_le _, Nat.zero_le _⟩ (fun H locs hP hD hS => ?_)
    refine lv_if_eq (tgt := 19) hx hb dX11_isAmount_12 (by decide) (fun c_6 => ?_) (fun c_6 => ?_)
    · have hZ := jx_i_pos c_6 hZ
      refine lv_iconst (v := (0 : Int32)) hx hb dX11_isAmount_19 (by decide) ?_
      exact leave_z hx hb hr hlocks rfl hP hS hZ dX11_isAmount_20
    · have hZ := jx_i_neg c_6 hZ
      refine lv_iconst (v := (1 : Int32)) hx hb dX11_isAmount_15 (by decide) ?_
      refine lv_goto (tgt := 20) hx hb dX11_isAmount_16 (by decide) ?_
      exact leave_z hx hb hr hlocks rfl hP hS hZ dX11_isAmount_20
theorem hd_X11_isAmount : yX11_isAmount.cls ≠ "java/lang/invoke/MethodHandle" ∧ yX11_isAmount.cls ≠ "java/lang/invoke/VarHandle" ∧ (parseMethodDescriptor yX11_isAmount.desc).map (fun d => d.parameters.length) = some 1 := by decide +kernel
theorem hd_X5_pay : yX5_pay.cls = RX5 ∧ yX5_pay.cls ≠ "java/lang/invoke/MethodHandle" ∧ yX5_pay.cls ≠ "java/lang/invoke/VarHandle" ∧ (parseMethodDescriptor yX5_pay.desc).map (fun d => d.parameters.length) = some 4 := by decide +kernel
-- X11_paid
def f_X11_paid_62 (x3_14 : Int32) (s2_14 : Int32) (s3_14 : Int32) (s4_14 : Int32) (S_14 : St) : Option (Int32 × St) :=
  jx_b2 (f_X5_pay s2_14 s3_14 s4_14 S_14) (fun r_17 S_15 => (if 0 ≤ r_17 then (if x3_14 = (-1 : Int32) then some (r_17, S_15) else jx_a x3_14 8 (some ((S_15.1 16 (Int32.toNatClampNeg x3_14)), S_15))) else some ((-2 : Int32), S_15)))
def f_X11_paid_34 (x1_10 : Int32) (x2_10 : Int32) (x3_10 : Int32) (S_10 : St) : Option (Int32 × St) :=
  jx_d (10000 : Int32) (jx_d (10000 : Int32) ((if x2_10 = (1 : Int32) then f_X11_paid_62 x3_10 (x1_10 / (10000 : Int32)) (x1_10 - x1_10 / (10000 : Int32) * (10000 : Int32)) (1 : Int32) S_10 else f_X11_paid_62 x3_10 (x1_10 / (10000 : Int32)) (x1_10 - x1_10 / (10000 : Int32) * (10000 : Int32)) (0 : Int32) S_10)))
def f_X11_paid (x1 : Int32) (x2 : Int32) (x3 : Int32) (S : St) : Option (Int32 × St) :=
  jx_b2 (f_X11_isAmount x1 S) (fun r_3 S_1 => (if r_3 = 0 then some ((-1 : Int32), S_1) else jx_b2 (f_X11_within x2 (0 : Int32) (1 : Int32) S_1) (fun r_7 S_5 => (if r_7 = 0 then some ((-1 : Int32), S_5) else (if x3 = (-1 : Int32) then f_X11_paid_34 x1 x2 x3 S_5 else jx_b2 (f_X1_knows x3 S_5) (fun r_26 S_24 => (if r_26 = 0 then some ((-1 : Int32), S_24) else f_X11_paid_34 x1 x2 x3 S_24)))))))
set_option maxHeartbeats 4000000 in
set_option maxRecDepth 100000 in
theorem c_X11_paid (l : Launch) (D : va_G) (q : Nat → Nat) (k : CI) (x1 : Int32) (x2 : Int32) (x3 : Int32) (S : St) (sz : Nat) (Z : Int32 × St) (hZ : f_X11_paid x1 x2 x3 S = some Z) : MetI W_X SX l yX11_paid wsX11_paid { frames := 3, cells := 0, slots := 0, locals := 74 } [.ref (q 0), .int x1, .int x2, .int x3] D q k S sz Z := by
  refine enter (cc := cX11_paid) (maxL := 5) (ret := some .int) (by decide) rfl (Nat.le_of_ble_eq_true rfl) ?_
  intro p e s m below meth c A ls hx hb hr hts hown hlocks hml hP hK hD hA hS hsp hAe hl
  have hown : s.vm.findClass RX11 = some m.cls := hown
  have hl : lv_has ls 5 [(0, .ref (q 0)), (1, .int x1), (2, .int x2), (3, .int x3)] := hl
  have in5 : ∀ w ∈ wsX50, w ∈ wsX11_paid := fun _ h => (List.mem_cons_of_mem _ (List.mem_append_left _ (List.mem_append_right _ h)))
  have in11 : ∀ w ∈ wsX110, w ∈ wsX11_paid := fun _ h => (List.mem_cons_of_mem _ (List.mem_append_left _ (List.mem_append_left _ (List.mem_append_right _ h))))
  have j62 : ∀ (x3_14 : Int32) (s2_14 : Int32) (s3_14 : Int32) (s4_14 : Int32) (S_14 : St)  (H : Heap) (locs : List Loc) (hZ : f_X11_paid_62 x3_14 s2_14 s3_14 s4_14 S_14 = some Z) (hP : va_P D vwCl (W_X q k S_14) H) (hD : va_D A (W_X q k S_14)) (hS : va_S A s.heap H locs) (ls : Array Slot) (hl : lv_has ls 5 [(0, .ref (q 0)), (3, .int x3_14)]), W p l e ({ frames := 3, cells := 0, slots := 0, locals := 74 } : Room) s m ([.ref (q 0), .int x1, .int x2, .int x3] : List Value).toArray below meth c H locs 0 0 (MQ below (va_Qi (fun r u => (r, u) = Z) (fun u t => va_P D vwCl (W_X q k u) t.heap) A) ([.ref (q 0), .int x1, .int x2, .int x3] : List Value).toArray s 0 0 A) (F0 m 62 ls [.int s4_14, .int s3_14, .int s2_14, .ref (q 1), .ref (q 12)]) := by
    intro x3_14 s2_14 s3_14 s4_14 S_14   H locs hZ hP hD hS ls hl
    unfold f_X11_paid_62 at hZ
    obtain ⟨r_17, S_15, hc_16, hZ⟩ := jx_b2_some hZ
    refine call_Vi SX_ok sameX ⟨hx, hb, hml, hown, hts⟩ (c_X5_pay l D q k s2_14 s3_14 s4_14 S_14 _ (r_17, S_15)  hc_16) (cwV 4 hts gX11_paid_X5_pay rfl rfl rfl hd_X5_pay ⟨Nat.le_of_ble_eq_true rfl, Nat.le_of_ble_eq_true rfl⟩) hK hP hD hS hA hsp (va_recv hK hP (ci := 5) (q0 := 12) rfl wX_12) (As := [.ref (q 1), .int s2_14, .int s3_14, .int s4_14]) rfl hl.1 rfl (Nat.le_of_ble_eq_true rfl) dX11_paid_62 ⟨Nat.zero_le _, Nat.zero_le _⟩ (fun H locs hP hD hS => ?_)
    refine lv_istore (lv' := [(4, .int r_17), (0, .ref (q 0)), (3, .int x3_14)]) hx hb dX11_paid_65 hl (by decide) rfl (fun ls hl => ?_)
    refine lv_iload hx hb dX11_paid_67 (lv_at hl 0 rfl) ?_
    refine lv_if_ge (tgt := 75) hx hb dX11_paid_69 (by decide) (fun c_18 => ?_) (fun c_18 => ?_)
    · have hZ := jx_i_pos c_18 hZ
      refine lv_iload_n hx hb dX11_paid_75 rfl (lv_at hl 2 rfl) ?_
      refine lv_iconst (v := (-1 : Int32)) hx hb dX11_paid_76 (by decide) ?_
      refine lv_icmp_ne (tgt := 85) hx hb dX11_paid_77 (by decide) (fun c_19 => ?_) (fun c_19 => ?_)
      · have hZ := jx_i_neg c_19 hZ
        refine lv_aload_n hx hb dX11_paid_85 rfl (lv_at hl 1 rfl) ?_
        refine gf_11_payer hx hb hts in11 hown hK hP (hts (.fieldLink RX11 26 "CoinsOfLast" "payer" "LCoinsOfLast$Payer;") (List.mem_of_getElem? (i := 2) rfl)) dX11_paid_86 ?_
        refine gn_5_used hx hb hts in5 hown hK hP (hsp.1 _ (List.mem_of_getElem? (i := 28) rfl)) dX11_paid_89 ?_
        refine lv_iload_n hx hb dX11_paid_92 rfl (lv_at hl 2 rfl) ?_
        obtain ⟨c_20, hZ⟩ := jx_a_some hZ
        refine X_iald hx hb hK hP wX_16 c_20 dX11_paid_93 ?_
        exact leave_i hx hb hr hlocks hP hS hZ dX11_paid_94
      · have hZ := jx_i_pos c_19 hZ
        refine lv_iload hx hb dX11_paid_80 (lv_at hl 0 rfl) ?_
        refine lv_goto (tgt := 94) hx hb dX11_paid_82 (by decide) ?_
        exact leave_i hx hb hr hlocks hP hS hZ dX11_paid_94
    · have hZ := jx_i_neg c_18 hZ
      refine lv_bipush (v := (-2 : Int32)) hx hb dX11_paid_72 (by decide) ?_
      exact leave_i hx hb hr hlocks hP hS hZ dX11_paid_74
  have j34 : ∀ (x1_10 : Int32) (x2_10 : Int32) (x3_10 : Int32) (S_10 : St)  (H : Heap) (locs : List Loc) (hZ : f_X11_paid_34 x1_10 x2_10 x3_10 S_10 = some Z) (hP : va_P D vwCl (W_X q k S_10) H) (hD : va_D A (W_X q k S_10)) (hS : va_S A s.heap H locs) (ls : Array Slot) (hl : lv_has ls 5 [(0, .ref (q 0)), (1, .int x1_10), (2, .int x2_10), (3, .int x3_10)]), W p l e ({ frames := 3, cells := 0, slots := 0, locals := 74 } : Room) s m ([.ref (q 0), .int x1, .int x2, .int x3] : List Value).toArray below meth c H locs 0 0 (MQ below (va_Qi (fun r u => (r, u) = Z) (fun u t => va_P D vwCl (W_X q k u) t.heap) A) ([.ref (q 0), .int x1, .int x2, .int x3] : List Value).toArray s 0 0 A) (F0 m 34 ls []) := by
    intro x1_10 x2_10 x3_10 S_10   H locs hZ hP hD hS ls hl
    unfold f_X11_paid_34 at hZ
    refine lv_aload_n hx hb dX11_paid_34 rfl (lv_at hl 0 rfl) ?_
    refine gf_11_payer hx hb hts in11 hown hK hP (hts (.fieldLink RX11 26 "CoinsOfLast" "payer" "LCoinsOfLast$Payer;") (List.mem_of_getElem? (i := 2) rfl)) dX11_paid_35 ?_
    refine lv_aload_n hx hb dX11_paid_38 rfl (lv_at hl 0 rfl) ?_
    refine gf_11_coins hx hb hts in11 hown hK hP (hts (.fieldLink RX11 12 "CoinsOfLast" "coins" "LCoinsOfLast$Coins;") (List.mem_of_getElem? (i := 1) rfl)) dX11_paid_39 ?_
    refine lv_iload_n hx hb dX11_paid_42 rfl (lv_at hl 1 rfl) ?_
    refine lv_sipush (v := (10000 : Int32)) hx hb dX11_paid_43 (by decide) ?_
    obtain ⟨c_11, hZ⟩ := jx_d_some hZ
    refine lv_idiv hx hb dX11_paid_46 c_11 ?_
    refine lv_iload_n hx hb dX11_paid_47 rfl (lv_at hl 1 rfl) ?_
    refine lv_sipush (v := (10000 : Int32)) hx hb dX11_paid_48 (by decide) ?_
    obtain ⟨c_12, hZ⟩ := jx_d_some hZ
    refine lv_irem hx hb dX11_paid_51 c_12 ?_
    refine lv_iload_n hx hb dX11_paid_52 rfl (lv_at hl 2 rfl) ?_
    refine lv_iconst (v := (1 : Int32)) hx hb dX11_paid_53 (by decide) ?_
    refine lv_icmp_ne (tgt := 61) hx hb dX11_paid_54 (by decide) (fun c_13 => ?_) (fun c_13 => ?_)
    · have hZ := jx_i_neg c_13 hZ
      refine lv_iconst (v := (0 : Int32)) hx hb dX11_paid_61 (by decide) ?_
      exact j62 x3_10 (x1_10 / (10000 : Int32)) (x1_10 - x1_10 / (10000 : Int32) * (10000 : Int32)) (0 : Int32) S_10 _ _ hZ hP hD hS _ (lv_sub hl [0, 3] rfl)
    · have hZ := jx_i_pos c_13 hZ
      refine lv_iconst (v := (1 : Int32)) hx hb dX11_paid_57 (by decide) ?_
      refine lv_goto (tgt := 62) hx hb dX11_paid_58 (by decide) ?_
      exact j62 x3_10 (x1_10 / (10000 : Int32)) (x1_10 - x1_10 / (10000 : Int32) * (10000 : Int32)) (1 : Int32) S_10 _ _ hZ hP hD hS _ (lv_sub hl [0, 3] rfl)
  unfold f_X11_paid at hZ
  refine lv_iload_n hx hb dX11_paid_0 rfl (lv_at hl 1 rfl) ?_
  obtain ⟨r_3, S_1, hc_2, hZ⟩ := jx_b2_some hZ
  refine call_Si SX_ok sameX ⟨hx, hb, hml, hown, hts⟩ (c_X11_isAmount l D q k x1 S _ (r_3, S_1)  hc_2) (va_cwS 1 hts gX11_paid_X11_isAmount rfl rfl rfl hd_X11_isAmount ⟨Nat.le_of_ble_eq_true rfl, Nat.le_of_ble_eq_true rfl⟩) hK hP hD hS hA hsp (As := [.int x1]) rfl hl.1 rfl (Nat.le_of_ble_eq_true rfl) dX11_paid_1 ⟨Nat.zero_le _, Nat.zero_le _⟩ (fun H locs hP hD hS => ?_)
  refine lv_if_eq (tgt := 32) hx hb dX11_paid_4 (by decide) (fun c_4 => ?_) (fun c_4 => ?_)
  · have hZ := jx_i_pos c_4 hZ
    refine lv_iconst (v := (-1 : Int32)) hx hb dX11_paid_32 (by decide) ?_
    exact leave_i hx hb hr hlocks hP hS hZ dX11_paid_33
  · have hZ := jx_i_neg c_4 hZ
    refine lv_iload_n hx hb dX11_paid_7 rfl (lv_at hl 2 rfl) ?_
    refine lv_iconst (v := (0 : Int32)) hx hb dX11_paid_8 (by decide) ?_
    refine lv_iconst (v := (1 : Int32)) hx hb dX11_paid_9 (by decide) ?_
    obtain ⟨r_7, S_5, hc_6, hZ⟩ := jx_b2_some hZ
    refine call_Si SX_ok sameX ⟨hx, hb, hml, hown, hts⟩ (c_X11_within l D q k x2 (0 : Int32) (1 : Int32) S_1 _ (r_7, S_5)  hc_6) (va_cwS 3 hts gX11_paid_X11_within rfl rfl rfl hd_X11_within ⟨Nat.le_of_ble_eq_true rfl, Nat.le_of_ble_eq_true rfl⟩) hK hP hD hS hA hsp (As := [.int x2, .int (0 : Int32), .int (1 : Int32)]) rfl hl.1 rfl (Nat.le_of_ble_eq_true rfl) dX11_paid_10 ⟨Nat.zero_le _, Nat.zero_le _⟩ (fun H locs hP hD hS => ?_)
    refine lv_if_eq (tgt := 32) hx hb dX11_paid_13 (by decide) (fun c_8 => ?_) (fun c_8 => ?_)
    · have hZ := jx_i_pos c_8 hZ
      refine lv_iconst (v := (-1 : Int32)) hx hb dX11_paid_32 (by decide) ?_
      exact leave_i hx hb hr hlocks hP hS hZ dX11_paid_33
    · have hZ := jx_i_neg c_8 hZ
      refine lv_iload_n hx hb dX11_paid_16 rfl (lv_at hl 3 rfl) ?_
      refine lv_iconst (v := (-1 : Int32)) hx hb dX11_paid_17 (by decide) ?_
      refine lv_icmp_eq (tgt := 34) hx hb dX11_paid_18 (by decide) (fun c_9 => ?_) (fun c_9 => ?_)
      · have hZ := jx_i_pos c_9 hZ
        exact j34 x1 x2 x3 S_5 _ _ hZ hP hD hS _ (lv_sub hl [0, 1, 2, 3] rfl)
      · have hZ := jx_i_neg c_9 hZ
        refine lv_aload_n hx hb dX11_paid_21 rfl (lv_at hl 0 rfl) ?_
        refine gf_11_coins hx hb hts in11 hown hK hP (hts (.fieldLink RX11 12 "CoinsOfLast" "coins" "LCoinsOfLast$Coins;") (List.mem_of_getElem? (i := 1) rfl)) dX11_paid_22 ?_
        refine lv_iload_n hx hb dX11_paid_25 rfl (lv_at hl 3 rfl) ?_
        obtain ⟨r_26, S_24, hc_25, hZ⟩ := jx_b2_some hZ
        refine call_Vi SX_ok sameX ⟨hx, hb, hml, hown, hts⟩ (c_X1_knows l D q k x3 S_5 _ (r_26, S_24)  hc_25) (cwV 1 hts gX11_paid_X1_knows rfl rfl rfl hd_X1_knows ⟨Nat.le_of_ble_eq_true rfl, Nat.le_of_ble_eq_true rfl⟩) hK hP hD hS hA hsp (va_recv hK hP (ci := 1) (q0 := 1) rfl wX_1) (As := [.int x3]) rfl hl.1 rfl (Nat.le_of_ble_eq_true rfl) dX11_paid_26 ⟨Nat.zero_le _, Nat.zero_le _⟩ (fun H locs hP hD hS => ?_)
        refine lv_if_ne (tgt := 34) hx hb dX11_paid_29 (by decide) (fun c_27 => ?_) (fun c_27 => ?_)
        · have hZ := jx_i_neg c_27 hZ
          exact j34 x1 x2 x3 S_24 _ _ hZ hP hD hS _ (lv_sub hl [0, 1, 2, 3] rfl)
        · have hZ := jx_i_pos c_27 hZ
          refine lv_iconst (v := (-1 : Int32)) hx hb dX11_paid_32 (by decide) ?_
          exact leave_i hx hb hr hlocks hP hS hZ dX11_paid_33
theorem hd_X5_leastGap : yX5_leastGap.cls = RX5 ∧ yX5_leastGap.cls ≠ "java/lang/invoke/MethodHandle" ∧ yX5_leastGap.cls ≠ "java/lang/invoke/VarHandle" ∧ (parseMethodDescriptor yX5_leastGap.desc).map (fun d => d.parameters.length) = some 0 := by decide +kernel
theorem hd_X5_spread : yX5_spread.cls = RX5 ∧ yX5_spread.cls ≠ "java/lang/invoke/MethodHandle" ∧ yX5_spread.cls ≠ "java/lang/invoke/VarHandle" ∧ (parseMethodDescriptor yX5_spread.desc).map (fun d => d.parameters.length) = some 3 := by decide +kernel
theorem hd_X5_sumsAboveZero : yX5_sumsAboveZero.cls = RX5 ∧ yX5_sumsAboveZero.cls ≠ "java/lang/invoke/MethodHandle" ∧ yX5_sumsAboveZero.cls ≠ "java/lang/invoke/VarHandle" ∧ (parseMethodDescriptor yX5_sumsAboveZero.desc).map (fun d => d.parameters.length) = some 0 := by decide +kernel
-- X11_amounts
def f_X11_amounts (x1 : Int32) (x2 : Int32) (S : St) : Option (Int32 × St) :=
  jx_b2 (f_X11_isLand x1 S) (fun r_3 S_1 => (if r_3 = 0 then some ((-1 : Int32), S_1) else jx_b2 (f_X11_within x2 (0 : Int32) (1 : Int32) S_1) (fun r_7 S_5 => (if r_7 = 0 then some ((-1 : Int32), S_5) else jx_b (f_X5_spread x1 S_5) (fun S_9 => (if x2 = 0 then jx_b2 (f_X5_sumsAboveZero S_9) (fun r_17 S_15 => some (r_17, S_15)) else jx_b2 (f_X5_leastGap S_9) (fun r_14 S_12 => some (r_14, S_12))))))))
set_option maxHeartbeats 4000000 in
set_option maxRecDepth 100000 in
theorem c_X11_amounts (l : Launch) (D : va_G) (q : Nat → Nat) (k : CI) (x1 : Int32) (x2 : Int32) (S : St) (sz : Nat) (Z : Int32 × St) (hZ : f_X11_amounts x1 x2 S = some Z) : MetI W_X SX l yX11_amounts wsX11_amounts { frames := 2, cells := 0, slots := 0, locals := 50 } [.ref (q 0), .int x1, .int x2] D q k S sz Z := by
  refine enter (cc := cX11_amounts) (maxL := 3) (ret := some .int) (by decide) rfl (Nat.le_of_ble_eq_true rfl) ?_
  intro p e s m below meth c A ls hx hb hr hts hown hlocks hml hP hK hD hA hS hsp hAe hl
  have hown : s.vm.findClass RX11 = some m.cls := hown
  have hl : lv_has ls 3 [(0, .ref (q 0)), (1, .int x1), (2, .int x2)] := hl
  have in1 : ∀ w ∈ wsX10, w ∈ wsX11_amounts := fun _ h => (List.mem_cons_of_mem _ (List.mem_append_left _ (List.mem_append_right _ h)))
  have in11 : ∀ w ∈ wsX110, w ∈ wsX11_amounts := fun _ h => (List.mem_cons_of_mem _ (List.mem_append_left _ (List.mem_append_left _ (List.mem_append_right _ h))))
  unfold f_X11_amounts at hZ
  refine lv_iload_n hx hb dX11_amounts_0 rfl (lv_at hl 1 rfl) ?_
  obtain ⟨r_3, S_1, hc_2, hZ⟩ := jx_b2_some hZ
  refine call_Si SX_ok sameX ⟨hx, hb, hml, hown, hts⟩ (c_X11_isLand l D q k x1 S _ (r_3, S_1)  hc_2) (va_cwS 1 hts gX11_amounts_X11_isLand rfl rfl rfl hd_X11_isLand ⟨Nat.le_of_ble_eq_true rfl, Nat.le_of_ble_eq_true rfl⟩) hK hP hD hS hA hsp (As := [.int x1]) rfl hl.1 rfl (Nat.le_of_ble_eq_true rfl) dX11_amounts_1 ⟨Nat.zero_le _, Nat.zero_le _⟩ (fun H locs hP hD hS => ?_)
  refine lv_if_eq (tgt := 16) hx hb dX11_amounts_4 (by decide) (fun c_4 => ?_) (fun c_4 => ?_)
  · have hZ := jx_i_pos c_4 hZ
    refine lv_iconst (v := (-1 : Int32)) hx hb dX11_amounts_16 (by decide) ?_
    exact leave_i hx hb hr hlocks hP hS hZ dX11_amounts_17
  · have hZ := jx_i_neg c_4 hZ
    refine lv_iload_n hx hb dX11_amounts_7 rfl (lv_at hl 2 rfl) ?_
    refine lv_iconst (v := (0 : Int32)) hx hb dX11_amounts_8 (by decide) ?_
    refine lv_iconst (v := (1 : Int32)) hx hb dX11_amounts_9 (by decide) ?_
    obtain ⟨r_7, S_5, hc_6, hZ⟩ := jx_b2_some hZ
    refine call_Si SX_ok sameX ⟨hx, hb, hml, hown, hts⟩ (c_X11_within l D q k x2 (0 : Int32) (1 : Int32) S_1 _ (r_7, S_5)  hc_6) (va_cwS 3 hts gX11_amounts_X11_within rfl rfl rfl hd_X11_within ⟨Nat.le_of_ble_eq_true rfl, Nat.le_of_ble_eq_true rfl⟩) hK hP hD hS hA hsp (As := [.int x2, .int (0 : Int32), .int (1 : Int32)]) rfl hl.1 rfl (Nat.le_of_ble_eq_true rfl) dX11_amounts_10 ⟨Nat.zero_le _, Nat.zero_le _⟩ (fun H locs hP hD hS => ?_)
    refine lv_if_ne (tgt := 18) hx hb dX11_amounts_13 (by decide) (fun c_8 => ?_) (fun c_8 => ?_)
    · have hZ := jx_i_neg c_8 hZ
      refine lv_aload_n hx hb dX11_amounts_18 rfl (lv_at hl 0 rfl) ?_
      refine gf_11_payer hx hb hts in11 hown hK hP (hts (.fieldLink RX11 26 "CoinsOfLast" "payer" "LCoinsOfLast$Payer;") (List.mem_of_getElem? (i := 1) rfl)) dX11_amounts_19 ?_
      refine lv_aload_n hx hb dX11_amounts_22 rfl (lv_at hl 0 rfl) ?_
      refine gf_11_coins hx hb hts in11 hown hK hP (hts (.fieldLink RX11 12 "CoinsOfLast" "coins" "LCoinsOfLast$Coins;") (List.mem_of_getElem? (i := 2) rfl)) dX11_amounts_23 ?_
      refine lv_aload_n hx hb dX11_amounts_26 rfl (lv_at hl 0 rfl) ?_
      refine gf_11_coins hx hb hts in11 hown hK hP (hts (.fieldLink RX11 12 "CoinsOfLast" "coins" "LCoinsOfLast$Coins;") (List.mem_of_getElem? (i := 2) rfl)) dX11_amounts_27 ?_
      refine gn_1_held hx hb hts in1 hown hK hP (hsp.1 _ (List.mem_of_getElem? (i := 10) rfl)) dX11_amounts_30 ?_
      refine lv_iload_n hx hb dX11_amounts_33 rfl (lv_at hl 1 rfl) ?_
      obtain ⟨S_9, hc_10, hZ⟩ := jx_b_some hZ
      refine call_Vv SX_ok sameX ⟨hx, hb, hml, hown, hts⟩ (c_X5_spread l D q k x1 S_5 _ S_9  hc_10) (cwV 3 hts gX11_amounts_X5_spread rfl rfl rfl hd_X5_spread ⟨Nat.le_of_ble_eq_true rfl, Nat.le_of_ble_eq_true rfl⟩) hK hP hD hS hA hsp (va_recv hK hP (ci := 5) (q0 := 12) rfl wX_12) (As := [.ref (q 1), .ref (q 6), .int x1]) rfl hl.1 rfl (Nat.le_of_ble_eq_true rfl) dX11_amounts_34 ⟨Nat.zero_le _, Nat.zero_le _⟩ (fun H locs hP hD hS => ?_)
      refine lv_iload_n hx hb dX11_amounts_37 rfl (lv_at hl 2 rfl) ?_
      refine lv_if_ne (tgt := 51) hx hb dX11_amounts_38 (by decide) (fun c_11 => ?_) (fun c_11 => ?_)
      · have hZ := jx_i_neg c_11 hZ
        refine lv_aload_n hx hb dX11_amounts_51 rfl (lv_at hl 0 rfl) ?_
        refine gf_11_payer hx hb hts in11 hown hK hP (hts (.fieldLink RX11 26 "CoinsOfLast" "payer" "LCoinsOfLast$Payer;") (List.mem_of_getElem? (i := 1) rfl)) dX11_amounts_52 ?_
        obtain ⟨r_14, S_12, hc_13, hZ⟩ := jx_b2_some hZ
        refine call_Vi SX_ok sameX ⟨hx, hb, hml, hown, hts⟩ (c_X5_leastGap l D q k  S_9 _ (r_14, S_12)  hc_13) (cwV 0 hts gX11_amounts_X5_leastGap rfl rfl rfl hd_X5_leastGap ⟨Nat.le_of_ble_eq_true rfl, Nat.le_of_ble_eq_true rfl⟩) hK hP hD hS hA hsp (va_recv hK hP (ci := 5) (q0 := 12) rfl wX_12) (As := []) rfl hl.1 rfl (Nat.le_of_ble_eq_true rfl) dX11_amounts_55 ⟨Nat.zero_le _, Nat.zero_le _⟩ (fun H locs hP hD hS => ?_)
        exact leave_i hx hb hr hlocks hP hS hZ dX11_amounts_58
      · have hZ := jx_i_pos c_11 hZ
        refine lv_aload_n hx hb dX11_amounts_41 rfl (lv_at hl 0 rfl) ?_
        refine gf_11_payer hx hb hts in11 hown hK hP (hts (.fieldLink RX11 26 "CoinsOfLast" "payer" "LCoinsOfLast$Payer;") (List.mem_of_getElem? (i := 1) rfl)) dX11_amounts_42 ?_
        obtain ⟨r_17, S_15, hc_16, hZ⟩ := jx_b2_some hZ
        refine call_Vi SX_ok sameX ⟨hx, hb, hml, hown, hts⟩ (c_X5_sumsAboveZero l D q k  S_9 _ (r_17, S_15)  hc_16) (cwV 0 hts gX11_amounts_X5_sumsAboveZero rfl rfl rfl hd_X5_sumsAboveZero ⟨Nat.le_of_ble_eq_true rfl, Nat.le_of_ble_eq_true rfl⟩) hK hP hD hS hA hsp (va_recv hK hP (ci := 5) (q0 := 12) rfl wX_12) (As := []) rfl hl.1 rfl (Nat.le_of_ble_eq_true rfl) dX11_amounts_45 ⟨Nat.zero_le _, Nat.zero_le _⟩ (fun H locs hP hD hS => ?_)
        refine lv_goto (tgt := 58) hx hb dX11_amounts_48 (by decide) ?_
        exact leave_i hx hb hr hlocks hP hS hZ dX11_amounts_58
    · have hZ := jx_i_pos c_8 hZ
      refine lv_iconst (v := (-1 : Int32)) hx hb dX11_amounts_16 (by decide) ?_
      exact leave_i hx hb hr hlocks hP hS hZ dX11_amounts_17
theorem hd_X5_dearestChoice : yX5_dearestChoice.cls = RX5 ∧ yX5_dearestChoice.cls ≠ "java/lang/invoke/MethodHandle" ∧ yX5_dearestChoice.cls ≠ "java/lang/invoke/VarHandle" ∧ (parseMethodDescriptor yX5_dearestChoice.desc).map (fun d => d.parameters.length) = some 1 := by decide +kernel
theorem hd_X5_greatestChoice : yX5_greatestChoice.cls = RX5 ∧ yX5_greatestChoice.cls ≠ "java/lang/invoke/MethodHandle" ∧ yX5_greatestChoice.cls ≠ "java/lang/invoke/VarHandle" ∧ (parseMethodDescriptor yX5_greatestChoice.desc).map (fun d => d.parameters.length) = some 1 := by decide +kernel
theorem hd_X5_valueAt : yX5_valueAt.cls = RX5 ∧ yX5_valueAt.cls ≠ "java/lang/invoke/MethodHandle" ∧ yX5_valueAt.cls ≠ "java/lang/invoke/VarHandle" ∧ (parseMethodDescriptor yX5_valueAt.desc).map (fun d => d.parameters.length) = some 1 := by decide +kernel
theorem hd_X5_valueChoices : yX5_valueChoices.cls = RX5 ∧ yX5_valueChoices.cls ≠ "java/lang/invoke/MethodHandle" ∧ yX5_valueChoices.cls ≠ "java/lang/invoke/VarHandle" ∧ (parseMethodDescriptor yX5_valueChoices.desc).map (fun d => d.parameters.length) = some 3 := by decide +kernel
-- X11_spend
def f_X11_spend_95 (x3_24 : Int32) (x4_24 : Int32) (s0_24 : Int32) (S_24 : St) : Option (Int32 × St) :=
  (if x3_24 = 0 then some ((x4_24 - s0_24), S_24) else (if x3_24 = (1 : Int32) then jx_b2 (f_X5_valueAt s0_24 S_24) (fun r_29 S_27 => some (r_29, S_27)) else some (s0_24, S_24)))
def f_X11_spend (x1 : Int32) (x2 : Int32) (x3 : Int32) (S : St) : Option (Int32 × St) :=
  jx_b2 (f_X11_isLand x1 S) (fun r_3 S_1 => (if r_3 = 0 then some ((-1 : Int32), S_1) else jx_b2 (f_X11_within x2 (0 : Int32) (1 : Int32) S_1) (fun r_7 S_5 => (if r_7 = 0 then some ((-1 : Int32), S_5) else jx_b2 (f_X11_within x3 (0 : Int32) (2 : Int32) S_5) (fun r_11 S_9 => (if r_11 = 0 then some ((-1 : Int32), S_9) else jx_b2 (f_X1_worthOf x1 S_9) (fun r_15 S_13 => jx_b (f_X5_spread x1 S_13) (fun S_16 => jx_b (f_X5_valueChoices x1 r_15 S_16) (fun S_18 => (if x2 = 0 then jx_b2 (f_X5_greatestChoice r_15 S_18) (fun r_33 S_31 => f_X11_spend_95 x3 r_15 r_33 S_31) else jx_b2 (f_X5_dearestChoice r_15 S_18) (fun r_23 S_21 => f_X11_spend_95 x3 r_15 r_23 S_21)))))))))))
set_option maxHeartbeats 4000000 in
set_option maxRecDepth 100000 in
theorem c_X11_spend (l : Launch) (D : va_G) (q : Nat → Nat) (k : CI) (x1 : Int32) (x2 : Int32) (x3 : Int32) (S : St) (sz : Nat) (Z : Int32 × St) (hZ : f_X11_spend x1 x2 x3 S = some Z) : MetI W_X SX l yX11_spend wsX11_spend { frames := 3, cells := 0, slots := 0, locals := 72 } [.ref (q 0), .int x1, .int x2, .int x3] D q k S sz Z := by
  refine enter (cc := cX11_spend) (maxL := 6) (ret := some .int) (by decide) rfl (Nat.le_of_ble_eq_true rfl) ?_
  intro p e s m below meth c A ls hx hb hr hts hown hlocks hml hP hK hD hA hS hsp hAe hl
  have hown : s.vm.findClass RX11 = some m.cls := hown
  have hl : lv_has ls 6 [(0, .ref (q 0)), (1, .int x1), (2, .int x2), (3, .int x3)] := hl
  have in1 : ∀ w ∈ wsX10, w ∈ wsX11_spend := fun _ h => (List.mem_cons_of_mem _ (List.mem_append_left _ (List.mem_append_left _ (List.mem_append_right _ h))))
  have in11 : ∀ w ∈ wsX110, w ∈ wsX11_spend := fun _ h => (List.mem_cons_of_mem _ (List.mem_append_left _ (List.mem_append_left _ (List.mem_append_left _ (List.mem_append_right _ h)))))
  have j95 : ∀ (x3_24 : Int32) (x4_24 : Int32) (s0_24 : Int32) (S_24 : St)  (H : Heap) (locs : List Loc) (hZ : f_X11_spend_95 x3_24 x4_24 s0_24 S_24 = some Z) (hP : va_P D vwCl (W_X q k S_24) H) (hD : va_D A (W_X q k S_24)) (hS : va_S A s.heap H locs) (ls : Array Slot) (hl : lv_has ls 6 [(0, .ref (q 0)), (3, .int x3_24), (4, .int x4_24)]), W p l e ({ frames := 3, cells := 0, slots := 0, locals := 72 } : Room) s m ([.ref (q 0), .int x1, .int x2, .int x3] : List Value).toArray below meth c H locs 0 0 (MQ below (va_Qi (fun r u => (r, u) = Z) (fun u t => va_P D vwCl (W_X q k u) t.heap) A) ([.ref (q 0), .int x1, .int x2, .int x3] : List Value).toArray s 0 0 A) (F0 m 95 ls [.int s0_24]) := by
    intro x3_24 x4_24 s0_24 S_24   H locs hZ hP hD hS ls hl
    unfold f_X11_spend_95 at hZ
    refine lv_istore (lv' := [(5, .int s0_24), (0, .ref (q 0)), (3, .int x3_24), (4, .int x4_24)]) hx hb dX11_spend_95 hl (by decide) rfl (fun ls hl => ?_)
    refine lv_iload_n hx hb dX11_spend_97 rfl (lv_at hl 2 rfl) ?_
    refine lv_if_ne (tgt := 107) hx hb dX11_spend_98 (by decide) (fun c_25 => ?_) (fun c_25 => ?_)
    · have hZ := jx_i_neg c_25 hZ
      refine lv_iload_n hx hb dX11_spend_107 rfl (lv_at hl 2 rfl) ?_
      refine lv_iconst (v := (1 : Int32)) hx hb dX11_spend_108 (by decide) ?_
      refine lv_icmp_ne (tgt := 124) hx hb dX11_spend_109 (by decide) (fun c_26 => ?_) (fun c_26 => ?_)
      · have hZ := jx_i_neg c_26 hZ
        refine lv_iload hx hb dX11_spend_124 (lv_at hl 0 rfl) ?_
        exact leave_i hx hb hr hlocks hP hS hZ dX11_spend_126
      · have hZ := jx_i_pos c_26 hZ
        refine lv_aload_n hx hb dX11_spend_112 rfl (lv_at hl 1 rfl) ?_
        refine gf_11_payer hx hb hts in11 hown hK hP (hts (.fieldLink RX11 26 "CoinsOfLast" "payer" "LCoinsOfLast$Payer;") (List.mem_of_getElem? (i := 2) rfl)) dX11_spend_113 ?_
        refine lv_iload hx hb dX11_spend_116 (lv_at hl 0 rfl) ?_
        obtain ⟨r_29, S_27, hc_28, hZ⟩ := jx_b2_some hZ
        refine call_Vi SX_ok sameX ⟨hx, hb, hml, hown, hts⟩ (c_X5_valueAt l D q k s0_24 S_24 _ (r_29, S_27)  hc_28) (cwV 1 hts gX11_spend_X5_valueAt rfl rfl rfl hd_X5_valueAt ⟨Nat.le_of_ble_eq_true rfl, Nat.le_of_ble_eq_true rfl⟩) hK hP hD hS hA hsp (va_recv hK hP (ci := 5) (q0 := 12) rfl wX_12) (As := [.int s0_24]) rfl hl.1 rfl (Nat.le_of_ble_eq_true rfl) dX11_spend_118 ⟨Nat.zero_le _, Nat.zero_le _⟩ (fun H locs hP hD hS => ?_)
        refine lv_goto (tgt := 126) hx hb dX11_spend_121 (by decide) ?_
        exact leave_i hx hb hr hlocks hP hS hZ dX11_spend_126
    · have hZ := jx_i_pos c_25 hZ
      refine lv_iload hx hb dX11_spend_101 (lv_at hl 3 rfl) ?_
      refine lv_iload hx hb dX11_spend_103 (lv_at hl 0 rfl) ?_
      refine lv_isub hx hb dX11_spend_105 ?_
      exact leave_i hx hb hr hlocks hP hS hZ dX11_spend_106
  unfold f_X11_spend at hZ
  refine lv_iload_n hx hb dX11_spend_0 rfl (lv_at hl 1 rfl) ?_
  obtain ⟨r_3, S_1, hc_2, hZ⟩ := jx_b2_some hZ
  refine call_Si SX_ok sameX ⟨hx, hb, hml, hown, hts⟩ (c_X11_isLand l D q k x1 S _ (r_3, S_1)  hc_2) (va_cwS 1 hts gX11_spend_X11_isLand rfl rfl rfl hd_X11_isLand ⟨Nat.le_of_ble_eq_true rfl, Nat.le_of_ble_eq_true rfl⟩) hK hP hD hS hA hsp (As := [.int x1]) rfl hl.1 rfl (Nat.le_of_ble_eq_true rfl) dX11_spend_1 ⟨Nat.zero_le _, Nat.zero_le _⟩ (fun H locs hP hD hS => ?_)
  refine lv_if_eq (tgt := 25) hx hb dX11_spend_4 (by decide) (fun c_4 => ?_) (fun c_4 => ?_)
  · have hZ := jx_i_pos c_4 hZ
    refine lv_iconst (v := (-1 : Int32)) hx hb dX11_spend_25 (by decide) ?_
    exact leave_i hx hb hr hlocks hP hS hZ dX11_spend_26
  · have hZ := jx_i_neg c_4 hZ
    refine lv_iload_n hx hb dX11_spend_7 rfl (lv_at hl 2 rfl) ?_
    refine lv_iconst (v := (0 : Int32)) hx hb dX11_spend_8 (by decide) ?_
    refine lv_iconst (v := (1 : Int32)) hx hb dX11_spend_9 (by decide) ?_
    obtain ⟨r_7, S_5, hc_6, hZ⟩ := jx_b2_some hZ
    refine call_Si SX_ok sameX ⟨hx, hb, hml, hown, hts⟩ (c_X11_within l D q k x2 (0 : Int32) (1 : Int32) S_1 _ (r_7, S_5)  hc_6) (va_cwS 3 hts gX11_spend_X11_within rfl rfl rfl hd_X11_within ⟨Nat.le_of_ble_eq_true rfl, Nat.le_of_ble_eq_true rfl⟩) hK hP hD hS hA hsp (As := [.int x2, .int (0 : Int32), .int (1 : Int32)]) rfl hl.1 rfl (Nat.le_of_ble_eq_true rfl) dX11_spend_10 ⟨Nat.zero_le _, Nat.zero_le _⟩ (fun H locs hP hD hS => ?_)
    refine lv_if_eq (tgt := 25) hx hb dX11_spend_13 (by decide) (fun c_8 => ?_) (fun c_8 => ?_)
    · have hZ := jx_i_pos c_8 hZ
      refine lv_iconst (v := (-1 : Int32)) hx hb dX11_spend_25 (by decide) ?_
      exact leave_i hx hb hr hlocks hP hS hZ dX11_spend_26
    · have hZ := jx_i_neg c_8 hZ
      refine lv_iload_n hx hb dX11_spend_16 rfl (lv_at hl 3 rfl) ?_
      refine lv_iconst (v := (0 : Int32)) hx hb dX11_spend_17 (by decide) ?_
      refine lv_iconst (v := (2 : Int32)) hx hb dX11_spend_18 (by decide) ?_
      obtain ⟨r_11, S_9, hc_10, hZ⟩ := jx_b2_some hZ
      refine call_Si SX_ok sameX ⟨hx, hb, hml, hown, hts⟩ (c_X11_within l D q k x3 (0 : Int32) (2 : Int32) S_5 _ (r_11, S_9)  hc_10) (va_cwS 3 hts gX11_spend_X11_within rfl rfl rfl hd_X11_within ⟨Nat.le_of_ble_eq_true rfl, Nat.le_of_ble_eq_true rfl⟩) hK hP hD hS hA hsp (As := [.int x3, .int (0 : Int32), .int (2 : Int32)]) rfl hl.1 rfl (Nat.le_of_ble_eq_true rfl) dX11_spend_19 ⟨Nat.zero_le _, Nat.zero_le _⟩ (fun H locs hP hD hS => ?_)
      refine lv_if_ne (tgt := 27) hx hb dX11_spend_22 (by decide) (fun c_12 => ?_) (fun c_12 => ?_)
      · have hZ := jx_i_neg c_12 hZ
        refine lv_aload_n hx hb dX11_spend_27 rfl (lv_at hl 0 rfl) ?_
        refine gf_11_coins hx hb hts in11 hown hK hP (hts (.fieldLink RX11 12 "CoinsOfLast" "coins" "LCoinsOfLast$Coins;") (List.mem_of_getElem? (i := 1) rfl)) dX11_spend_28 ?_
        refine lv_iload_n hx hb dX11_spend_31 rfl (lv_at hl 1 rfl) ?_
        obtain ⟨r_15, S_13, hc_14, hZ⟩ := jx_b2_some hZ
        refine call_Vi SX_ok sameX ⟨hx, hb, hml, hown, hts⟩ (c_X1_worthOf l D q k x1 S_9 _ (r_15, S_13)  hc_14) (cwV 1 hts gX11_spend_X1_worthOf rfl rfl rfl hd_X1_worthOf ⟨Nat.le_of_ble_eq_true rfl, Nat.le_of_ble_eq_true rfl⟩) hK hP hD hS hA hsp (va_recv hK hP (ci := 1) (q0 := 1) rfl wX_1) (As := [.int x1]) rfl hl.1 rfl (Nat.le_of_ble_eq_true rfl) dX11_spend_32 ⟨Nat.zero_le _, Nat.zero_le _⟩ (fun H locs hP hD hS => ?_)
        refine lv_istore (lv' := [(4, .int r_15), (0, .ref (q 0)), (1, .int x1), (2, .int x2), (3, .int x3)]) hx hb dX11_spend_35 hl (by decide) rfl (fun ls hl => ?_)
        refine lv_aload_n hx hb dX11_spend_37 rfl (lv_at hl 1 rfl) ?_
        refine gf_11_payer hx hb hts in11 hown hK hP (hts (.fieldLink RX11 26 "CoinsOfLast" "payer" "LCoinsOfLast$Payer;") (List.mem_of_getElem? (i := 2) rfl)) dX11_spend_38 ?_
        refine lv_aload_n hx hb dX11_spend_41 rfl (lv_at hl 1 rfl) ?_
        refine gf_11_coins hx hb hts in11 hown hK hP (hts (.fieldLink RX11 12 "CoinsOfLast" "coins" "LCoinsOfLast$Coins;") (List.mem_of_getElem? (i := 1) rfl)) dX11_spend_42 ?_
        refine lv_aload_n hx hb dX11_spend_45 rfl (lv_at hl 1 rfl) ?_
        refine gf_11_coins hx hb hts in11 hown hK hP (hts (.fieldLink RX11 12 "CoinsOfLast" "coins" "LCoinsOfLast$Coins;") (List.mem_of_getElem? (i := 1) rfl)) dX11_spend_46 ?_
        refine gn_1_held hx hb hts in1 hown hK hP (hsp.1 _ (List.mem_of_getElem? (i := 10) rfl)) dX11_spend_49 ?_
        refine lv_iload_n hx hb dX11_spend_52 rfl (lv_at hl 2 rfl) ?_
        obtain ⟨S_16, hc_17, hZ⟩ := jx_b_some hZ
        refine call_Vv SX_ok sameX ⟨hx, hb, hml, hown, hts⟩ (c_X5_spread l D q k x1 S_13 _ S_16  hc_17) (cwV 3 hts gX11_spend_X5_spread rfl rfl rfl hd_X5_spread ⟨Nat.le_of_ble_eq_true rfl, Nat.le_of_ble_eq_true rfl⟩) hK hP hD hS hA hsp (va_recv hK hP (ci := 5) (q0 := 12) rfl wX_12) (As := [.ref (q 1), .ref (q 6), .int x1]) rfl hl.1 rfl (Nat.le_of_ble_eq_true rfl) dX11_spend_53 ⟨Nat.zero_le _, Nat.zero_le _⟩ (fun H locs hP hD hS => ?_)
        refine lv_aload_n hx hb dX11_spend_56 rfl (lv_at hl 1 rfl) ?_
        refine gf_11_payer hx hb hts in11 hown hK hP (hts (.fieldLink RX11 26 "CoinsOfLast" "payer" "LCoinsOfLast$Payer;") (List.mem_of_getElem? (i := 2) rfl)) dX11_spend_57 ?_
        refine lv_aload_n hx hb dX11_spend_60 rfl (lv_at hl 1 rfl) ?_
        refine gf_11_things hx hb hts in11 hown hK hP (hts (.fieldLink RX11 19 "CoinsOfLast" "things" "LCoinsOfLast$Things;") (List.mem_of_getElem? (i := 3) rfl)) dX11_spend_61 ?_
        refine lv_iload_n hx hb dX11_spend_64 rfl (lv_at hl 2 rfl) ?_
        refine lv_iload hx hb dX11_spend_65 (lv_at hl 0 rfl) ?_
        obtain ⟨S_18, hc_19, hZ⟩ := jx_b_some hZ
        refine call_Vv SX_ok sameX ⟨hx, hb, hml, hown, hts⟩ (c_X5_valueChoices l D q k x1 r_15 S_16 _ S_18  hc_19) (cwV 3 hts gX11_spend_X5_valueChoices rfl rfl rfl hd_X5_valueChoices ⟨Nat.le_of_ble_eq_true rfl, Nat.le_of_ble_eq_true rfl⟩) hK hP hD hS hA hsp (va_recv hK hP (ci := 5) (q0 := 12) rfl wX_12) (As := [.ref (q 7), .int x1, .int r_15]) rfl hl.1 rfl (Nat.le_of_ble_eq_true rfl) dX11_spend_67 ⟨Nat.zero_le _, Nat.zero_le _⟩ (fun H locs hP hD hS => ?_)
        refine lv_iload_n hx hb dX11_spend_70 rfl (lv_at hl 3 rfl) ?_
        refine lv_if_ne (tgt := 86) hx hb dX11_spend_71 (by decide) (fun c_20 => ?_) (fun c_20 => ?_)
        · have hZ := jx_i_neg c_20 hZ
          refine lv_aload_n hx hb dX11_spend_86 rfl (lv_at hl 1 rfl) ?_
          refine gf_11_payer hx hb hts in11 hown hK hP (hts (.fieldLink RX11 26 "CoinsOfLast" "payer" "LCoinsOfLast$Payer;") (List.mem_of_getElem? (i := 2) rfl)) dX11_spend_87 ?_
          refine lv_iload hx hb dX11_spend_90 (lv_at hl 0 rfl) ?_
          obtain ⟨r_23, S_21, hc_22, hZ⟩ := jx_b2_some hZ
          refine call_Vi SX_ok sameX ⟨hx, hb, hml, hown, hts⟩ (c_X5_dearestChoice l D q k r_15 S_18 _ (r_23, S_21)  hc_22) (cwV 1 hts gX11_spend_X5_dearestChoice rfl rfl rfl hd_X5_dearestChoice ⟨Nat.le_of_ble_eq_true rfl, Nat.le_of_ble_eq_true rfl⟩) hK hP hD hS hA hsp (va_recv hK hP (ci := 5) (q0 := 12) rfl wX_12) (As := [.int r_15]) rfl hl.1 rfl (Nat.le_of_ble_eq_true rfl) dX11_spend_92 ⟨Nat.zero_le _, Nat.zero_le _⟩ (fun H locs hP hD hS => ?_)
          exact j95 x3 r_15 r_23 S_21 _ _ hZ hP hD hS _ (lv_sub hl [1, 4, 0] rfl)
        · have hZ := jx_i_pos c_20 hZ
          refine lv_aload_n hx hb dX11_spend_74 rfl (lv_at hl 1 rfl) ?_
          refine gf_11_payer hx hb hts in11 hown hK hP (hts (.fieldLink RX11 26 "CoinsOfLast" "payer" "LCoinsOfLast$Payer;") (List.mem_of_getElem? (i := 2) rfl)) dX11_spend_75 ?_
          refine lv_iload hx hb dX11_spend_78 (lv_at hl 0 rfl) ?_
          obtain ⟨r_33, S_31, hc_32, hZ⟩ := jx_b2_some hZ
          refine call_Vi SX_ok sameX ⟨hx, hb, hml, hown, hts⟩ (c_X5_greatestChoice l D q k r_15 S_18 _ (r_33, S_31)  hc_32) (cwV 1 hts gX11_spend_X5_greatestChoice rfl rfl rfl hd_X5_greatestChoice ⟨Nat.le_of_ble_eq_true rfl, Nat.le_of_ble_eq_true rfl⟩) hK hP hD hS hA hsp (va_recv hK hP (ci := 5) (q0 := 12) rfl wX_12) (As := [.int r_15]) rfl hl.1 rfl (Nat.le_of_ble_eq_true rfl) dX11_spend_80 ⟨Nat.zero_le _, Nat.zero_le _⟩ (fun H locs hP hD hS => ?_)
          refine lv_goto (tgt := 95) hx hb dX11_spend_83 (by decide) ?_
          exact j95 x3 r_15 r_33 S_31 _ _ hZ hP hD hS _ (lv_sub hl [1, 4, 0] rfl)
      · have hZ := jx_i_pos c_12 hZ
        refine lv_iconst (v := (-1 : Int32)) hx hb dX11_spend_25 (by decide) ?_
        exact leave_i hx hb hr hlocks hP hS hZ dX11_spend_26
theorem hd_X1_bringBack : yX1_bringBack.cls = RX1 ∧ yX1_bringBack.cls ≠ "java/lang/invoke/MethodHandle" ∧ yX1_bringBack.cls ≠ "java/lang/invoke/VarHandle" ∧ (parseMethodDescriptor yX1_bringBack.desc).map (fun d => d.parameters.length) = some 2 := by decide +kernel
theorem hd_X1_takeOut : yX1_takeOut.cls = RX1 ∧ yX1_takeOut.cls ≠ "java/lang/invoke/MethodHandle" ∧ yX1_takeOut.cls ≠ "java/lang/invoke/VarHandle" ∧ (parseMethodDescriptor yX1_takeOut.desc).map (fun d => d.parameters.length) = some 1 := by decide +kernel
theorem hd_X5_leastFrom : yX5_leastFrom.cls = RX5 ∧ yX5_leastFrom.cls ≠ "java/lang/invoke/MethodHandle" ∧ yX5_leastFrom.cls ≠ "java/lang/invoke/VarHandle" ∧ (parseMethodDescriptor yX5_leastFrom.desc).map (fun d => d.parameters.length) = some 1 := by decide +kernel
-- X11_buy
def f_X11_buy_173 (x5_32 : Int32) (x6_32 : Int32) (s0_32 : Int32) (S_32 : St) : Option (Int32 × St) :=
  jx_a (0 : Int32) 3 (jx_a (0 : Int32) 3 (jx_l (u1 S_32 39 (Int32.toNatClampNeg (0 : Int32)) ((S_32.1 39 (Int32.toNatClampNeg (0 : Int32))) + (x6_32 - s0_32))) (fun S_35 => jx_a (1 : Int32) 3 (jx_a (1 : Int32) 3 (jx_l (u1 S_35 39 (Int32.toNatClampNeg (1 : Int32)) ((S_35.1 39 (Int32.toNatClampNeg (1 : Int32))) + (x5_32 - s0_32))) (fun S_38 => some ((x5_32 - s0_32), S_38)))))))
def f_X11_buy_92 (x1_19 : Int32) (x2_19 : Int32) (x3_19 : Int32) (x4_19 : Int32) (s0_19 : Int32) (S_19 : St) : Option (Int32 × St) :=
  (if s0_19 < 0 then some ((-2 : Int32), S_19) else jx_b2 (f_X5_pay x2_19 s0_19 (1 : Int32) S_19) (fun r_23 S_21 => (if 0 ≤ r_23 then jx_b (f_X1_takeOut S_21) (fun S_25 => jx_a x1_19 10 (jx_a x1_19 10 (jx_l (u1 S_25 11 (Int32.toNatClampNeg x1_19) ((S_25.1 11 (Int32.toNatClampNeg x1_19)) - (1 : Int32))) (fun S_29 => jx_l (s0_19 - x3_19) (fun x6_30 => (if x4_19 = (2 : Int32) then jx_b2 (f_X1_bringBack x2_19 x6_30 S_29) (fun r_42 S_40 => f_X11_buy_173 s0_19 x6_30 r_42 S_40) else f_X11_buy_173 s0_19 x6_30 (0 : Int32) S_29)))))) else some ((-2 : Int32), S_21))))
def f_X11_buy (x1 : Int32) (S : St) : Option (Int32 × St) :=
  jx_b2 (f_X9_knows x1 S) (fun r_3 S_1 => (if r_3 = 0 then some ((-1 : Int32), S_1) else jx_a x1 10 ((if (S_1.1 11 (Int32.toNatClampNeg x1)) = 0 then some ((-5 : Int32), S_1) else jx_a x1 10 (jx_l (S_1.1 8 (Int32.toNatClampNeg x1)) (fun x2_8 => jx_a x1 10 (jx_l (S_1.1 9 (Int32.toNatClampNeg x1)) (fun x3_10 => jx_a x2_8 4 (jx_l (S_1.1 38 (Int32.toNatClampNeg x2_8)) (fun x4_12 => jx_b (f_X5_spread x2_8 S_1) (fun S_13 => (if x4_12 = 0 then f_X11_buy_92 x1 x2_8 x3_10 x4_12 x3_10 S_13 else jx_b2 (f_X5_leastFrom x3_10 S_13) (fun r_18 S_16 => f_X11_buy_92 x1 x2_8 x3_10 x4_12 r_18 S_16)))))))))))))
set_option maxHeartbeats 4000000 in
set_option maxRecDepth 100000 in
theorem c_X11_buy (l : Launch) (D : va_G) (q : Nat → Nat) (k : CI) (x1 : Int32) (S : St) (sz : Nat) (Z : Int32 × St) (hZ : f_X11_buy x1 S = some Z) : MetI W_X SX l yX11_buy wsX11_buy { frames := 3, cells := 0, slots := 0, locals := 74 } [.ref (q 0), .int x1] D q k S sz Z := by
  refine enter (cc := cX11_buy) (maxL := 8) (ret := some .int) (by decide) rfl (Nat.le_of_ble_eq_true rfl) ?_
  intro p e s m below meth c A ls hx hb hr hts hown hlocks hml hP hK hD hA hS hsp hAe hl
  have hown : s.vm.findClass RX11 = some m.cls := hown
  have hl : lv_has ls 8 [(0, .ref (q 0)), (1, .int x1)] := hl
  have in1 : ∀ w ∈ wsX10, w ∈ wsX11_buy := fun _ h => (List.mem_cons_of_mem _ (List.mem_append_left _ (List.mem_append_right _ h)))
  have in5 : ∀ w ∈ wsX50, w ∈ wsX11_buy := fun _ h => (List.mem_cons_of_mem _ (List.mem_append_right _ h))
  have in9 : ∀ w ∈ wsX90, w ∈ wsX11_buy := fun _ h => (List.mem_cons_of_mem _ (List.mem_append_left _ (List.mem_append_left _ (List.mem_append_right _ h))))
  have in11 : ∀ w ∈ wsX110, w ∈ wsX11_buy := fun _ h => (List.mem_cons_of_mem _ (List.mem_append_left _ (List.mem_append_left _ (List.mem_append_left _ (List.mem_append_right _ h)))))
  have j173 : ∀ (x5_32 : Int32) (x6_32 : Int32) (s0_32 : Int32) (S_32 : St)  (H : Heap) (locs : List Loc) (hZ : f_X11_buy_173 x5_32 x6_32 s0_32 S_32 = some Z) (hP : va_P D vwCl (W_X q k S_32) H) (hD : va_D A (W_X q k S_32)) (hS : va_S A s.heap H locs) (ls : Array Slot) (hl : lv_has ls 8 [(0, .ref (q 0)), (5, .int x5_32), (6, .int x6_32)]), W p l e ({ frames := 3, cells := 0, slots := 0, locals := 74 } : Room) s m ([.ref (q 0), .int x1] : List Value).toArray below meth c H locs 0 0 (MQ below (va_Qi (fun r u => (r, u) = Z) (fun u t => va_P D vwCl (W_X q k u) t.heap) A) ([.ref (q 0), .int x1] : List Value).toArray s 0 0 A) (F0 m 173 ls [.int s0_32]) := by
    intro x5_32 x6_32 s0_32 S_32   H locs hZ hP hD hS ls hl
    unfold f_X11_buy_173 at hZ
    refine lv_istore (lv' := [(7, .int s0_32), (0, .ref (q 0)), (5, .int x5_32), (6, .int x6_32)]) hx hb dX11_buy_173 hl (by decide) rfl (fun ls hl => ?_)
    refine lv_aload_n hx hb dX11_buy_175 rfl (lv_at hl 1 rfl) ?_
    refine gf_11_ledger hx hb hts in11 hown hK hP (hts (.fieldLink RX11 89 "CoinsOfLast" "ledger" "[I") (List.mem_of_getElem? (i := 5) rfl)) dX11_buy_176 ?_
    refine lv_iconst (v := (0 : Int32)) hx hb dX11_buy_179 (by decide) ?_
    refine lv_dup2_11 hx hb dX11_buy_180 rfl rfl ?_
    obtain ⟨c_33, hZ⟩ := jx_a_some hZ
    refine X_iald hx hb hK hP wX_39 c_33 dX11_buy_181 ?_
    refine lv_iload hx hb dX11_buy_182 (lv_at hl 3 rfl) ?_
    refine lv_iload hx hb dX11_buy_184 (lv_at hl 0 rfl) ?_
    refine lv_isub hx hb dX11_buy_186 ?_
    refine lv_iadd hx hb dX11_buy_187 ?_
    obtain ⟨c_34, hZ⟩ := jx_a_some hZ
    obtain ⟨S_35, e_S_35, hZ⟩ := jx_l_some hZ
    refine X_iast hx hb hK hP hD hS wX_39 (fun _ => wXs_39) c_34 e_S_35 dX11_buy_188 (fun H locs hP hD hS => ?_)
    refine lv_aload_n hx hb dX11_buy_189 rfl (lv_at hl 1 rfl) ?_
    refine gf_11_ledger hx hb hts in11 hown hK hP (hts (.fieldLink RX11 89 "CoinsOfLast" "ledger" "[I") (List.mem_of_getElem? (i := 5) rfl)) dX11_buy_190 ?_
    refine lv_iconst (v := (1 : Int32)) hx hb dX11_buy_193 (by decide) ?_
    refine lv_dup2_11 hx hb dX11_buy_194 rfl rfl ?_
    obtain ⟨c_36, hZ⟩ := jx_a_some hZ
    refine X_iald hx hb hK hP wX_39 c_36 dX11_buy_195 ?_
    refine lv_iload hx hb dX11_buy_196 (lv_at hl 2 rfl) ?_
    refine lv_iload hx hb dX11_buy_198 (lv_at hl 0 rfl) ?_
    refine lv_isub hx hb dX11_buy_200 ?_
    refine lv_iadd hx hb dX11_buy_201 ?_
    obtain ⟨c_37, hZ⟩ := jx_a_some hZ
    obtain ⟨S_38, e_S_38, hZ⟩ := jx_l_some hZ
    refine X_iast hx hb hK hP hD hS wX_39 (fun _ => wXs_39) c_37 e_S_38 dX11_buy_202 (fun H locs hP hD hS => ?_)
    refine lv_iload hx hb dX11_buy_203 (lv_at hl 2 rfl) ?_
    refine lv_iload hx hb dX11_buy_205 (lv_at hl 0 rfl) ?_
    refine lv_isub hx hb dX11_buy_207 ?_
    exact leave_i hx hb hr hlocks hP hS hZ dX11_buy_208
  have j92 : ∀ (x1_19 : Int32) (x2_19 : Int32) (x3_19 : Int32) (x4_19 : Int32) (s0_19 : Int32) (S_19 : St)  (H : Heap) (locs : List Loc) (hZ : f_X11_buy_92 x1_19 x2_19 x3_19 x4_19 s0_19 S_19 = some Z) (hP : va_P D vwCl (W_X q k S_19) H) (hD : va_D A (W_X q k S_19)) (hS : va_S A s.heap H locs) (ls : Array Slot) (hl : lv_has ls 8 [(0, .ref (q 0)), (1, .int x1_19), (2, .int x2_19), (3, .int x3_19), (4, .int x4_19)]), W p l e ({ frames := 3, cells := 0, slots := 0, locals := 74 } : Room) s m ([.ref (q 0), .int x1] : List Value).toArray below meth c H locs 0 0 (MQ below (va_Qi (fun r u => (r, u) = Z) (fun u t => va_P D vwCl (W_X q k u) t.heap) A) ([.ref (q 0), .int x1] : List Value).toArray s 0 0 A) (F0 m 92 ls [.int s0_19]) := by
    intro x1_19 x2_19 x3_19 x4_19 s0_19 S_19   H locs hZ hP hD hS ls hl
    unfold f_X11_buy_92 at hZ
    refine lv_istore (lv' := [(5, .int s0_19), (0, .ref (q 0)), (1, .int x1_19), (2, .int x2_19), (3, .int x3_19), (4, .int x4_19)]) hx hb dX11_buy_92 hl (by decide) rfl (fun ls hl => ?_)
    refine lv_iload hx hb dX11_buy_94 (lv_at hl 0 rfl) ?_
    refine lv_if_lt (tgt := 117) hx hb dX11_buy_96 (by decide) (fun c_20 => ?_) (fun c_20 => ?_)
    · have hZ := jx_i_pos c_20 hZ
      refine lv_bipush (v := (-2 : Int32)) hx hb dX11_buy_117 (by decide) ?_
      exact leave_i hx hb hr hlocks hP hS hZ dX11_buy_119
    · have hZ := jx_i_neg c_20 hZ
      refine lv_aload_n hx hb dX11_buy_99 rfl (lv_at hl 1 rfl) ?_
      refine gf_11_payer hx hb hts in11 hown hK hP (hts (.fieldLink RX11 26 "CoinsOfLast" "payer" "LCoinsOfLast$Payer;") (List.mem_of_getElem? (i := 3) rfl)) dX11_buy_100 ?_
      refine lv_aload_n hx hb dX11_buy_103 rfl (lv_at hl 1 rfl) ?_
      refine gf_11_coins hx hb hts in11 hown hK hP (hts (.fieldLink RX11 12 "CoinsOfLast" "coins" "LCoinsOfLast$Coins;") (List.mem_of_getElem? (i := 4) rfl)) dX11_buy_104 ?_
      refine lv_iload_n hx hb dX11_buy_107 rfl (lv_at hl 3 rfl) ?_
      refine lv_iload hx hb dX11_buy_108 (lv_at hl 0 rfl) ?_
      refine lv_iconst (v := (1 : Int32)) hx hb dX11_buy_110 (by decide) ?_
      obtain ⟨r_23, S_21, hc_22, hZ⟩ := jx_b2_some hZ
      refine call_Vi SX_ok sameX ⟨hx, hb, hml, hown, hts⟩ (c_X5_pay l D q k x2_19 s0_19 (1 : Int32) S_19 _ (r_23, S_21)  hc_22) (cwV 4 hts gX11_buy_X5_pay rfl rfl rfl hd_X5_pay ⟨Nat.le_of_ble_eq_true rfl, Nat.le_of_ble_eq_true rfl⟩) hK hP hD hS hA hsp (va_recv hK hP (ci := 5) (q0 := 12) rfl wX_12) (As := [.ref (q 1), .int x2_19, .int s0_19, .int (1 : Int32)]) rfl hl.1 rfl (Nat.le_of_ble_eq_true rfl) dX11_buy_111 ⟨Nat.zero_le _, Nat.zero_le _⟩ (fun H locs hP hD hS => ?_)
      refine lv_if_ge (tgt := 120) hx hb dX11_buy_114 (by decide) (fun c_24 => ?_) (fun c_24 => ?_)
      · have hZ := jx_i_pos c_24 hZ
        refine lv_aload_n hx hb dX11_buy_120 rfl (lv_at hl 1 rfl) ?_
        refine gf_11_coins hx hb hts in11 hown hK hP (hts (.fieldLink RX11 12 "CoinsOfLast" "coins" "LCoinsOfLast$Coins;") (List.mem_of_getElem? (i := 4) rfl)) dX11_buy_121 ?_
        refine lv_aload_n hx hb dX11_buy_124 rfl (lv_at hl 1 rfl) ?_
        refine gf_11_payer hx hb hts in11 hown hK hP (hts (.fieldLink RX11 26 "CoinsOfLast" "payer" "LCoinsOfLast$Payer;") (List.mem_of_getElem? (i := 3) rfl)) dX11_buy_125 ?_
        refine gn_5_used hx hb hts in5 hown hK hP (hsp.1 _ (List.mem_of_getElem? (i := 28) rfl)) dX11_buy_128 ?_
        obtain ⟨S_25, hc_26, hZ⟩ := jx_b_some hZ
        refine call_Vv SX_ok sameX ⟨hx, hb, hml, hown, hts⟩ (c_X1_takeOut l D q k  S_21 _ S_25  hc_26) (cwV 1 hts gX11_buy_X1_takeOut rfl rfl rfl hd_X1_takeOut ⟨Nat.le_of_ble_eq_true rfl, Nat.le_of_ble_eq_true rfl⟩) hK hP hD hS hA hsp (va_recv hK hP (ci := 1) (q0 := 1) rfl wX_1) (As := [.ref (q 16)]) rfl hl.1 rfl (Nat.le_of_ble_eq_true rfl) dX11_buy_131 ⟨Nat.zero_le _, Nat.zero_le _⟩ (fun H locs hP hD hS => ?_)
        refine lv_aload_n hx hb dX11_buy_134 rfl (lv_at hl 1 rfl) ?_
        refine gf_11_things hx hb hts in11 hown hK hP (hts (.fieldLink RX11 19 "CoinsOfLast" "things" "LCoinsOfLast$Things;") (List.mem_of_getElem? (i := 1) rfl)) dX11_buy_135 ?_
        refine gn_9_many hx hb hts in9 hown hK hP (hsp.1 _ (List.mem_of_getElem? (i := 24) rfl)) dX11_buy_138 ?_
        refine lv_iload_n hx hb dX11_buy_141 rfl (lv_at hl 2 rfl) ?_
        refine lv_dup2_11 hx hb dX11_buy_142 rfl rfl ?_
        obtain ⟨c_27, hZ⟩ := jx_a_some hZ
        refine X_iald hx hb hK hP wX_11 c_27 dX11_buy_143 ?_
        refine lv_iconst (v := (1 : Int32)) hx hb dX11_buy_144 (by decide) ?_
        refine lv_isub hx hb dX11_buy_145 ?_
        obtain ⟨c_28, hZ⟩ := jx_a_some hZ
        obtain ⟨S_29, e_S_29, hZ⟩ := jx_l_some hZ
        refine X_iast hx hb hK hP hD hS wX_11 (fun _ => wXs_11) c_28 e_S_29 dX11_buy_146 (fun H locs hP hD hS => ?_)
        refine lv_iload hx hb dX11_buy_147 (lv_at hl 0 rfl) ?_
        refine lv_iload_n hx hb dX11_buy_149 rfl (lv_at hl 4 rfl) ?_
        refine lv_isub hx hb dX11_buy_150 ?_
        obtain ⟨x6_30, e_x6_30, hZ⟩ := jx_l_some hZ
        refine tx_i e_x6_30 ?_
        refine lv_istore (lv' := [(6, .int x6_30), (5, .int s0_19), (0, .ref (q 0)), (1, .int x1_19), (2, .int x2_19), (3, .int x3_19), (4, .int x4_19)]) hx hb dX11_buy_151 hl (by decide) rfl (fun ls hl => ?_)
        refine lv_iload hx hb dX11_buy_153 (lv_at hl 6 rfl) ?_
        refine lv_iconst (v := (2 : Int32)) hx hb dX11_buy_155 (by decide) ?_
        refine lv_icmp_ne (tgt := 172) hx hb dX11_buy_156 (by decide) (fun c_31 => ?_) (fun c_31 => ?_)
        · have hZ := jx_i_neg c_31 hZ
          refine lv_iconst (v := (0 : Int32)) hx hb dX11_buy_172 (by decide) ?_
          exact j173 s0_19 x6_30 (0 : Int32) S_29 _ _ hZ hP hD hS _ (lv_sub hl [2, 1, 0] rfl)
        · have hZ := jx_i_pos c_31 hZ
          refine lv_aload_n hx hb dX11_buy_159 rfl (lv_at hl 2 rfl) ?_
          refine gf_11_coins hx hb hts in11 hown hK hP (hts (.fieldLink RX11 12 "CoinsOfLast" "coins" "LCoinsOfLast$Coins;") (List.mem_of_getElem? (i := 4) rfl)) dX11_buy_160 ?_
          refine lv_iload_n hx hb dX11_buy_163 rfl (lv_at hl 4 rfl) ?_
          refine lv_iload hx hb dX11_buy_164 (lv_at hl 0 rfl) ?_
          obtain ⟨r_42, S_40, hc_41, hZ⟩ := jx_b2_some hZ
          refine call_Vi SX_ok sameX ⟨hx, hb, hml, hown, hts⟩ (c_X1_bringBack l D q k x2_19 x6_30 S_29 _ (r_42, S_40)  hc_41) (cwV 2 hts gX11_buy_X1_bringBack rfl rfl rfl hd_X1_bringBack ⟨Nat.le_of_ble_eq_true rfl, Nat.le_of_ble_eq_true rfl⟩) hK hP hD hS hA hsp (va_recv hK hP (ci := 1) (q0 := 1) rfl wX_1) (As := [.int x2_19, .int x6_30]) rfl hl.1 rfl (Nat.le_of_ble_eq_true rfl) dX11_buy_166 ⟨Nat.zero_le _, Nat.zero_le _⟩ (fun H locs hP hD hS => ?_)
          refine lv_goto (tgt := 173) hx hb dX11_buy_169 (by decide) ?_
          exact j173 s0_19 x6_30 r_42 S_40 _ _ hZ hP hD hS _ (lv_sub hl [2, 1, 0] rfl)
      · have hZ := jx_i_neg c_24 hZ
        refine lv_bipush (v := (-2 : Int32)) hx hb dX11_buy_117 (by decide) ?_
        exact leave_i hx hb hr hlocks hP hS hZ dX11_buy_119
  unfold f_X11_buy at hZ
  refine lv_aload_n hx hb dX11_buy_0 rfl (lv_at hl 0 rfl) ?_
  refine gf_11_things hx hb hts in11 hown hK hP (hts (.fieldLink RX11 19 "CoinsOfLast" "things" "LCoinsOfLast$Things;") (List.mem_of_getElem? (i := 1) rfl)) dX11_buy_1 ?_
  refine lv_iload_n hx hb dX11_buy_4 rfl (lv_at hl 1 rfl) ?_
  obtain ⟨r_3, S_1, hc_2, hZ⟩ := jx_b2_some hZ
  refine call_Vi SX_ok sameX ⟨hx, hb, hml, hown, hts⟩ (c_X9_knows l D q k x1 S _ (r_3, S_1)  hc_2) (cwV 1 hts gX11_buy_X9_knows rfl rfl rfl hd_X9_knows ⟨Nat.le_of_ble_eq_true rfl, Nat.le_of_ble_eq_true rfl⟩) hK hP hD hS hA hsp (va_recv hK hP (ci := 9) (q0 := 7) rfl wX_7) (As := [.int x1]) rfl hl.1 rfl (Nat.le_of_ble_eq_true rfl) dX11_buy_5 ⟨Nat.zero_le _, Nat.zero_le _⟩ (fun H locs hP hD hS => ?_)
  refine lv_if_ne (tgt := 13) hx hb dX11_buy_8 (by decide) (fun c_4 => ?_) (fun c_4 => ?_)
  · have hZ := jx_i_neg c_4 hZ
    refine lv_aload_n hx hb dX11_buy_13 rfl (lv_at hl 0 rfl) ?_
    refine gf_11_things hx hb hts in11 hown hK hP (hts (.fieldLink RX11 19 "CoinsOfLast" "things" "LCoinsOfLast$Things;") (List.mem_of_getElem? (i := 1) rfl)) dX11_buy_14 ?_
    refine gn_9_many hx hb hts in9 hown hK hP (hsp.1 _ (List.mem_of_getElem? (i := 24) rfl)) dX11_buy_17 ?_
    refine lv_iload_n hx hb dX11_buy_20 rfl (lv_at hl 1 rfl) ?_
    obtain ⟨c_5, hZ⟩ := jx_a_some hZ
    refine X_iald hx hb hK hP wX_11 c_5 dX11_buy_21 ?_
    refine lv_if_ne (tgt := 28) hx hb dX11_buy_22 (by decide) (fun c_6 => ?_) (fun c_6 => ?_)
    · have hZ := jx_i_neg c_6 hZ
      refine lv_aload_n hx hb dX11_buy_28 rfl (lv_at hl 0 rfl) ?_
      refine gf_11_things hx hb hts in11 hown hK hP (hts (.fieldLink RX11 19 "CoinsOfLast" "things" "LCoinsOfLast$Things;") (List.mem_of_getElem? (i := 1) rfl)) dX11_buy_29 ?_
      refine gn_9_land hx hb hts in9 hown hK hP (hsp.1 _ (List.mem_of_getElem? (i := 17) rfl)) dX11_buy_32 ?_
      refine lv_iload_n hx hb dX11_buy_35 rfl (lv_at hl 1 rfl) ?_
      obtain ⟨c_7, hZ⟩ := jx_a_some hZ
      refine X_iald hx hb hK hP wX_8 c_7 dX11_buy_36 ?_
      obtain ⟨x2_8, e_x2_8, hZ⟩ := jx_l_some hZ
      refine tx_i e_x2_8 ?_
      refine lv_istore_n (lv' := [(2, .int x2_8), (0, .ref (q 0)), (1, .int x1)]) hx hb dX11_buy_37 rfl hl (by decide) rfl (fun ls hl => ?_)
      refine lv_aload_n hx hb dX11_buy_38 rfl (lv_at hl 1 rfl) ?_
      refine gf_11_things hx hb hts in11 hown hK hP (hts (.fieldLink RX11 19 "CoinsOfLast" "things" "LCoinsOfLast$Things;") (List.mem_of_getElem? (i := 1) rfl)) dX11_buy_39 ?_
      refine gn_9_price hx hb hts in9 hown hK hP (hsp.1 _ (List.mem_of_getElem? (i := 19) rfl)) dX11_buy_42 ?_
      refine lv_iload_n hx hb dX11_buy_45 rfl (lv_at hl 2 rfl) ?_
      obtain ⟨c_9, hZ⟩ := jx_a_some hZ
      refine X_iald hx hb hK hP wX_9 c_9 dX11_buy_46 ?_
      obtain ⟨x3_10, e_x3_10, hZ⟩ := jx_l_some hZ
      refine tx_i e_x3_10 ?_
      refine lv_istore_n (lv' := [(3, .int x3_10), (2, .int x2_8), (0, .ref (q 0)), (1, .int x1)]) hx hb dX11_buy_47 rfl hl (by decide) rfl (fun ls hl => ?_)
      refine lv_aload_n hx hb dX11_buy_48 rfl (lv_at hl 2 rfl) ?_
      refine gf_11_rules hx hb hts in11 hown hK hP (hts (.fieldLink RX11 85 "CoinsOfLast" "rules" "[I") (List.mem_of_getElem? (i := 2) rfl)) dX11_buy_49 ?_
      refine lv_iload_n hx hb dX11_buy_52 rfl (lv_at hl 1 rfl) ?_
      obtain ⟨c_11, hZ⟩ := jx_a_some hZ
      refine X_iald hx hb hK hP wX_38 c_11 dX11_buy_53 ?_
      obtain ⟨x4_12, e_x4_12, hZ⟩ := jx_l_some hZ
      refine tx_i e_x4_12 ?_
      refine lv_istore (lv' := [(4, .int x4_12), (3, .int x3_10), (2, .int x2_8), (0, .ref (q 0)), (1, .int x1)]) hx hb dX11_buy_54 hl (by decide) rfl (fun ls hl => ?_)
      refine lv_aload_n hx hb dX11_buy_56 rfl (lv_at hl 3 rfl) ?_
      refine gf_11_payer hx hb hts in11 hown hK hP (hts (.fieldLink RX11 26 "CoinsOfLast" "payer" "LCoinsOfLast$Payer;") (List.mem_of_getElem? (i := 3) rfl)) dX11_buy_57 ?_
      refine lv_aload_n hx hb dX11_buy_60 rfl (lv_at hl 3 rfl) ?_
      refine gf_11_coins hx hb hts in11 hown hK hP (hts (.fieldLink RX11 12 "CoinsOfLast" "coins" "LCoinsOfLast$Coins;") (List.mem_of_getElem? (i := 4) rfl)) dX11_buy_61 ?_
      refine lv_aload_n hx hb dX11_buy_64 rfl (lv_at hl 3 rfl) ?_
      refine gf_11_coins hx hb hts in11 hown hK hP (hts (.fieldLink RX11 12 "CoinsOfLast" "coins" "LCoinsOfLast$Coins;") (List.mem_of_getElem? (i := 4) rfl)) dX11_buy_65 ?_
      refine gn_1_held hx hb hts in1 hown hK hP (hsp.1 _ (List.mem_of_getElem? (i := 10) rfl)) dX11_buy_68 ?_
      refine lv_iload_n hx hb dX11_buy_71 rfl (lv_at hl 2 rfl) ?_
      obtain ⟨S_13, hc_14, hZ⟩ := jx_b_some hZ
      refine call_Vv SX_ok sameX ⟨hx, hb, hml, hown, hts⟩ (c_X5_spread l D q k x2_8 S_1 _ S_13  hc_14) (cwV 3 hts gX11_buy_X5_spread rfl rfl rfl hd_X5_spread ⟨Nat.le_of_ble_eq_true rfl, Nat.le_of_ble_eq_true rfl⟩) hK hP hD hS hA hsp (va_recv hK hP (ci := 5) (q0 := 12) rfl wX_12) (As := [.ref (q 1), .ref (q 6), .int x2_8]) rfl hl.1 rfl (Nat.le_of_ble_eq_true rfl) dX11_buy_72 ⟨Nat.zero_le _, Nat.zero_le _⟩ (fun H locs hP hD hS => ?_)
      refine lv_iload hx hb dX11_buy_75 (lv_at hl 0 rfl) ?_
      refine lv_if_ne (tgt := 84) hx hb dX11_buy_77 (by decide) (fun c_15 => ?_) (fun c_15 => ?_)
      · have hZ := jx_i_neg c_15 hZ
        refine lv_aload_n hx hb dX11_buy_84 rfl (lv_at hl 3 rfl) ?_
        refine gf_11_payer hx hb hts in11 hown hK hP (hts (.fieldLink RX11 26 "CoinsOfLast" "payer" "LCoinsOfLast$Payer;") (List.mem_of_getElem? (i := 3) rfl)) dX11_buy_85 ?_
        refine lv_iload_n hx hb dX11_buy_88 rfl (lv_at hl 1 rfl) ?_
        obtain ⟨r_18, S_16, hc_17, hZ⟩ := jx_b2_some hZ
        refine call_Vi SX_ok sameX ⟨hx, hb, hml, hown, hts⟩ (c_X5_leastFrom l D q k x3_10 S_13 _ (r_18, S_16)  hc_17) (cwV 1 hts gX11_buy_X5_leastFrom rfl rfl rfl hd_X5_leastFrom ⟨Nat.le_of_ble_eq_true rfl, Nat.le_of_ble_eq_true rfl⟩) hK hP hD hS hA hsp (va_recv hK hP (ci := 5) (q0 := 12) rfl wX_12) (As := [.int x3_10]) rfl hl.1 rfl (Nat.le_of_ble_eq_true rfl) dX11_buy_89 ⟨Nat.zero_le _, Nat.zero_le _⟩ (fun H locs hP hD hS => ?_)
        exact j92 x1 x2_8 x3_10 x4_12 r_18 S_16 _ _ hZ hP hD hS _ (lv_sub hl [3, 4, 2, 1, 0] rfl)
      · have hZ := jx_i_pos c_15 hZ
        refine lv_iload_n hx hb dX11_buy_80 rfl (lv_at hl 1 rfl) ?_
        refine lv_goto (tgt := 92) hx hb dX11_buy_81 (by decide) ?_
        exact j92 x1 x2_8 x3_10 x4_12 x3_10 S_13 _ _ hZ hP hD hS _ (lv_sub hl [3, 4, 2, 1, 0] rfl)
    · have hZ := jx_i_pos c_6 hZ
      refine lv_bipush (v := (-5 : Int32)) hx hb dX11_buy_25 (by decide) ?_
      exact leave_i hx hb hr hlocks hP hS hZ dX11_buy_27
  · have hZ := jx_i_pos c_4 hZ
    refine lv_iconst (v := (-1 : Int32)) hx hb dX11_buy_11 (by decide) ?_
    exact leave_i hx hb hr hlocks hP hS hZ dX11_buy_12
