theorem hd_X1_alike : yX1_alike.cls = RX1 ∧ yX1_alike.cls ≠ "java/lang/invoke/MethodHandle" ∧ yX1_alike.cls ≠ "java/lang/invoke/VarHandle" ∧ (parseMethodDescriptor yX1_alike.desc).map (fun d => d.parameters.length) = some 2 := by decide +kernel
-- X11_like
def f_X11_like (x1 : Int32) (x2 : Int32) (S : St) : Option (Int32 × St) :=
  jx_b2 (f_X1_knows x1 S) (fun r_3 S_1 => (if r_3 = 0 then some ((-1 : Int32), S_1) else jx_b2 (f_X11_within x2 (0 : Int32) (99 : Int32) S_1) (fun r_7 S_5 => (if r_7 = 0 then some ((-1 : Int32), S_5) else jx_b2 (f_X1_alike x1 x2 S_5) (fun r_11 S_9 => some (r_11, S_9))))))
set_option maxHeartbeats 4000000 in
set_option maxRecDepth 100000 in
theorem c_X11_like (l : Launch) (D : va_G) (q : Nat → Nat) (k : CI) (x1 : Int32) (x2 : Int32) (S : St) (sz : Nat) (Z : Int32 × St) (hZ : f_X11_like x1 x2 S = some Z) : MetI W_X SX l yX11_like wsX11_like { frames := 2, cells := 0, slots := 0, locals := 45 } [.ref (q 0), .int x1, .int x2] D q k S sz Z := by
  refine enter (cc := cX11_like) (maxL := 3) (ret := some .int) (by decide) rfl (Nat.le_of_ble_eq_true rfl) ?_
  intro p e s m below meth c A ls hx hb hr hts hown hlocks hml hP hK hD hA hS hsp hAe hl
  have hown : s.vm.findClass RX11 = some m.cls := hown
  have hl : lv_has ls 3 [(0, .ref (q 0)), (1, .int x1), (2, .int x2)] := hl
  have in11 : ∀ w ∈ wsX110, w ∈ wsX11_like := fun _ h => (List.mem_cons_of_mem _ (List.mem_append_left _ (List.mem_append_right _ h)))
  unfold f_X11_like at hZ
  refine lv_aload_n hx hb dX11_like_0 rfl (lv_at hl 0 rfl) ?_
  refine gf_11_coins hx hb hts in11 hown hK hP (hts (.fieldLink RX11 12 "CoinsOfLast" "coins" "LCoinsOfLast$Coins;") (List.mem_of_getElem? (i := 1) rfl)) dX11_like_1 ?_
  refine lv_iload_n hx hb dX11_like_4 rfl (lv_at hl 1 rfl) ?_
  obtain ⟨r_3, S_1, hc_2, hZ⟩ := jx_b2_some hZ
  refine call_Vi SX_ok sameX ⟨hx, hb, hml, hown, hts⟩ (c_X1_knows l D q k x1 S _ (r_3, S_1)  hc_2) (cwV 1 hts gX11_like_X1_knows rfl rfl rfl hd_X1_knows ⟨Nat.le_of_ble_eq_true rfl, Nat.le_of_ble_eq_true rfl⟩) hK hP hD hS hA hsp (va_recv hK hP (ci := 1) (q0 := 1) rfl wX_1) (As := [.int x1]) rfl hl.1 rfl (Nat.le_of_ble_eq_true rfl) dX11_like_5 ⟨Nat.zero_le _, Nat.zero_le _⟩ (fun H locs hP hD hS => ?_)
  refine lv_if_eq (tgt := 33) hx hb dX11_like_8 (by decide) (fun c_4 => ?_) (fun c_4 => ?_)
  · have hZ := jx_i_pos c_4 hZ
    refine lv_iconst (v := (-1 : Int32)) hx hb dX11_like_33 (by decide) ?_
    exact leave_i hx hb hr hlocks hP hS hZ dX11_like_34
  · have hZ := jx_i_neg c_4 hZ
    refine lv_iload_n hx hb dX11_like_11 rfl (lv_at hl 2 rfl) ?_
    refine lv_iconst (v := (0 : Int32)) hx hb dX11_like_12 (by decide) ?_
    refine lv_bipush (v := (99 : Int32)) hx hb dX11_like_13 (by decide) ?_
    obtain ⟨r_7, S_5, hc_6, hZ⟩ := jx_b2_some hZ
    refine call_Si SX_ok sameX ⟨hx, hb, hml, hown, hts⟩ (c_X11_within l D q k x2 (0 : Int32) (99 : Int32) S_1 _ (r_7, S_5)  hc_6) (va_cwS 3 hts gX11_like_X11_within rfl rfl rfl hd_X11_within ⟨Nat.le_of_ble_eq_true rfl, Nat.le_of_ble_eq_true rfl⟩) hK hP hD hS hA hsp (As := [.int x2, .int (0 : Int32), .int (99 : Int32)]) rfl hl.1 rfl (Nat.le_of_ble_eq_true rfl) dX11_like_15 ⟨Nat.zero_le _, Nat.zero_le _⟩ (fun H locs hP hD hS => ?_)
    refine lv_if_eq (tgt := 33) hx hb dX11_like_18 (by decide) (fun c_8 => ?_) (fun c_8 => ?_)
    · have hZ := jx_i_pos c_8 hZ
      refine lv_iconst (v := (-1 : Int32)) hx hb dX11_like_33 (by decide) ?_
      exact leave_i hx hb hr hlocks hP hS hZ dX11_like_34
    · have hZ := jx_i_neg c_8 hZ
      refine lv_aload_n hx hb dX11_like_21 rfl (lv_at hl 0 rfl) ?_
      refine gf_11_coins hx hb hts in11 hown hK hP (hts (.fieldLink RX11 12 "CoinsOfLast" "coins" "LCoinsOfLast$Coins;") (List.mem_of_getElem? (i := 1) rfl)) dX11_like_22 ?_
      refine lv_iload_n hx hb dX11_like_25 rfl (lv_at hl 1 rfl) ?_
      refine lv_iload_n hx hb dX11_like_26 rfl (lv_at hl 2 rfl) ?_
      obtain ⟨r_11, S_9, hc_10, hZ⟩ := jx_b2_some hZ
      refine call_Vi SX_ok sameX ⟨hx, hb, hml, hown, hts⟩ (c_X1_alike l D q k x1 x2 S_5 _ (r_11, S_9)  hc_10) (cwV 2 hts gX11_like_X1_alike rfl rfl rfl hd_X1_alike ⟨Nat.le_of_ble_eq_true rfl, Nat.le_of_ble_eq_true rfl⟩) hK hP hD hS hA hsp (va_recv hK hP (ci := 1) (q0 := 1) rfl wX_1) (As := [.int x1, .int x2]) rfl hl.1 rfl (Nat.le_of_ble_eq_true rfl) dX11_like_27 ⟨Nat.zero_le _, Nat.zero_le _⟩ (fun H locs hP hD hS => ?_)
      refine lv_goto (tgt := 34) hx hb dX11_like_30 (by decide) ?_
      exact leave_i hx hb hr hlocks hP hS hZ dX11_like_34
theorem hd_X10_exchanged : yX10_exchanged.cls = RX10 ∧ yX10_exchanged.cls ≠ "java/lang/invoke/MethodHandle" ∧ yX10_exchanged.cls ≠ "java/lang/invoke/VarHandle" ∧ (parseMethodDescriptor yX10_exchanged.desc).map (fun d => d.parameters.length) = some 4 := by decide +kernel
-- X11_standIn
def f_X11_standIn_167 (x6_27 : Int32) (S_27 : St) : Option (Int32 × St) :=
  some (x6_27, S_27)
def f_X11_standIn_157 (x1_25 : Int32) (x4_25 : Int32) (x6_25 : Int32) (x7_25 : Int32) (S_25 : St) : Option (Int32 × St) :=
  (if x4_25 = 0 then f_X11_standIn_167 x6_25 S_25 else (if 0 ≤ x6_25 then jx_a x1_25 8 (some (((S_25.1 3 (Int32.toNatClampNeg x1_25)) - x7_25), S_25)) else f_X11_standIn_167 x6_25 S_25))
def f_X11_standIn_151i61 (x1 : Int32) (x3 : Int32) (x4 : Int32) (x5 : Int32) (x6_36 : Int32) (x7_36 : Int32) (x8_36 : Int32) (S_36 : St) : Option ((Int32 × Int32 × Int32 × St) ⊕ ((Int32 × Int32 × St))) :=
  jx_l (x8_36 + 1) (fun x8_37 => some (.inl (x6_36, x7_36, x8_37, S_36)))
def f_X11_standIn_143i61 (x1 : Int32) (x3 : Int32) (x4 : Int32) (x5 : Int32) (x8_47 : Int32) (x9_47 : Int32) (S_47 : St) : Option ((Int32 × Int32 × Int32 × St) ⊕ ((Int32 × Int32 × St))) :=
  f_X11_standIn_151i61 x1 x3 x4 x5 x8_47 x9_47 x8_47 S_47
def b_X11_standIn_61 (x1 : Int32) (x3 : Int32) (x4 : Int32) (x5 : Int32) (x6 : Int32) (x7 : Int32) (x8 : Int32) (S : St) : Option ((Int32 × Int32 × Int32 × St) ⊕ ((Int32 × Int32 × St))) :=
  (if (S.1 1 5) ≤ x8 then some (.inr (x6, x7, S)) else (if x8 = x1 then f_X11_standIn_151i61 x1 x3 x4 x5 x6 x7 x8 S else (if ((x5 >>> (x8 &&& 31)) &&& (1 : Int32)) = 0 then f_X11_standIn_151i61 x1 x3 x4 x5 x6 x7 x8 S else jx_a x8 8 (jx_a x8 8 (jx_a x1 8 (jx_b2 (f_X10_exchanged (S.1 3 (Int32.toNatClampNeg x8)) (S.1 2 (Int32.toNatClampNeg x8)) (S.1 2 (Int32.toNatClampNeg x1)) x3 S) (fun r_45 S_43 => (if x6 < 0 then f_X11_standIn_143i61 x1 x3 x4 x5 x8 r_45 S_43 else (if x7 ≤ r_45 then f_X11_standIn_151i61 x1 x3 x4 x5 x6 x7 x8 S_43 else f_X11_standIn_143i61 x1 x3 x4 x5 x8 r_45 S_43)))))))))
def g_X11_standIn_61 (x1 : Int32) (x3 : Int32) (x4 : Int32) (x5 : Int32) : (Int32 × Int32 × Int32 × St) → Option ((Int32 × Int32 × Int32 × St) ⊕ ((Int32 × Int32 × St))) := fun z => b_X11_standIn_61 x1 x3 x4 x5 z.1 z.2.1 z.2.2.1 z.2.2.2
def f_X11_standIn (x1 : Int32) (x2 : Int32) (x3 : Int32) (x4 : Int32) (S : St) : Option (Int32 × St) :=
  jx_b2 (f_X1_knows x1 S) (fun r_3 S_1 => (if r_3 = 0 then some ((-2000000000 : Int32), S_1) else jx_b2 (f_X11_within x2 (0 : Int32) (99 : Int32) S_1) (fun r_7 S_5 => (if r_7 = 0 then some ((-2000000000 : Int32), S_5) else jx_b2 (f_X11_isDay x3 S_5) (fun r_11 S_9 => (if r_11 = 0 then some ((-2000000000 : Int32), S_9) else jx_b2 (f_X11_within x4 (0 : Int32) (1 : Int32) S_9) (fun r_15 S_13 => (if r_15 = 0 then some ((-2000000000 : Int32), S_13) else jx_b2 (f_X1_alike x1 x2 S_13) (fun r_19 S_17 => jx_b (jx_w (g_X11_standIn_61 x1 x3 x4 r_19) FU ((-1 : Int32), (0 : Int32), (0 : Int32), S_17)) (fun z => f_X11_standIn_157 x1 x4 z.1 z.2.1 z.2.2))))))))))
set_option maxHeartbeats 4000000 in
set_option maxRecDepth 100000 in
theorem c_X11_standIn (l : Launch) (D : va_G) (q : Nat → Nat) (k : CI) (x1 : Int32) (x2 : Int32) (x3 : Int32) (x4 : Int32) (S : St) (sz : Nat) (Z : Int32 × St) (hZ : f_X11_standIn x1 x2 x3 x4 S = some Z) : MetI W_X SX l yX11_standIn wsX11_standIn { frames := 4, cells := 0, slots := 0, locals := 95 } [.ref (q 0), .int x1, .int x2, .int x3, .int x4] D q k S sz Z := by
  refine enter (cc := cX11_standIn) (maxL := 10) (ret := some .int) (by decide) rfl (Nat.le_of_ble_eq_true rfl) ?_
  intro p e s m below meth c A ls hx hb hr hts hown hlocks hml hP hK hD hA hS hsp hAe hl
  have hown : s.vm.findClass RX11 = some m.cls := hown
  have hl : lv_has ls 10 [(0, .ref (q 0)), (1, .int x1), (2, .int x2), (3, .int x3), (4, .int x4)] := hl
  have in1 : ∀ w ∈ wsX10, w ∈ wsX11_standIn := fun _ h => (List.mem_cons_of_mem _ (List.mem_append_left _ (List.mem_append_left _ (List.mem_append_right _ h))))
  have in11 : ∀ w ∈ wsX110, w ∈ wsX11_standIn := fun _ h => (List.mem_cons_of_mem _ (List.mem_append_left _ (List.mem_append_left _ (List.mem_append_left _ (List.mem_append_right _ h)))))
  have j167 : ∀ (x6_27 : Int32) (S_27 : St)  (H : Heap) (locs : List Loc) (hZ : f_X11_standIn_167 x6_27 S_27 = some Z) (hP : va_P D vwCl (W_X q k S_27) H) (hD : va_D A (W_X q k S_27)) (hS : va_S A s.heap H locs) (ls : Array Slot) (hl : lv_has ls 10 [(6, .int x6_27)]), W p l e ({ frames := 4, cells := 0, slots := 0, locals := 95 } : Room) s m ([.ref (q 0), .int x1, .int x2, .int x3, .int x4] : List Value).toArray below meth c H locs 0 0 (MQ below (va_Qi (fun r u => (r, u) = Z) (fun u t => va_P D vwCl (W_X q k u) t.heap) A) ([.ref (q 0), .int x1, .int x2, .int x3, .int x4] : List Value).toArray s 0 0 A) (F0 m 167 ls []) := by
    intro x6_27 S_27   H locs hZ hP hD hS ls hl
    unfold f_X11_standIn_167 at hZ
    refine lv_iload hx hb dX11_standIn_167 (lv_at hl 0 rfl) ?_
    refine lv_goto (tgt := 184) hx hb dX11_standIn_169 (by decide) ?_
    exact leave_i hx hb hr hlocks hP hS hZ dX11_standIn_184
  have j157 : ∀ (x1_25 : Int32) (x4_25 : Int32) (x6_25 : Int32) (x7_25 : Int32) (S_25 : St)  (H : Heap) (locs : List Loc) (hZ : f_X11_standIn_157 x1_25 x4_25 x6_25 x7_25 S_25 = some Z) (hP : va_P D vwCl (W_X q k S_25) H) (hD : va_D A (W_X q k S_25)) (hS : va_S A s.heap H locs) (ls : Array Slot) (hl : lv_has ls 10 [(0, .ref (q 0)), (1, .int x1_25), (4, .int x4_25), (6, .int x6_25), (7, .int x7_25)]), W p l e ({ frames := 4, cells := 0, slots := 0, locals := 95 } : Room) s m ([.ref (q 0), .int x1, .int x2, .int x3, .int x4] : List Value).toArray below meth c H locs 0 0 (MQ below (va_Qi (fun r u => (r, u) = Z) (fun u t => va_P D vwCl (W_X q k u) t.heap) A) ([.ref (q 0), .int x1, .int x2, .int x3, .int x4] : List Value).toArray s 0 0 A) (F0 m 157 ls []) := by
    intro x1_25 x4_25 x6_25 x7_25 S_25   H locs hZ hP hD hS ls hl
    unfold f_X11_standIn_157 at hZ
    refine lv_iload hx hb dX11_standIn_157 (lv_at hl 2 rfl) ?_
    refine lv_if_eq (tgt := 167) hx hb dX11_standIn_159 (by decide) (fun c_26 => ?_) (fun c_26 => ?_)
    · have hZ := jx_i_pos c_26 hZ
      exact j167 x6_25 S_25 _ _ hZ hP hD hS _ (lv_sub hl [3] rfl)
    · have hZ := jx_i_neg c_26 hZ
      refine lv_iload hx hb dX11_standIn_162 (lv_at hl 3 rfl) ?_
      refine lv_if_ge (tgt := 172) hx hb dX11_standIn_164 (by decide) (fun c_29 => ?_) (fun c_29 => ?_)
      · have hZ := jx_i_pos c_29 hZ
        refine lv_aload_n hx hb dX11_standIn_172 rfl (lv_at hl 0 rfl) ?_
        refine gf_11_coins hx hb hts in11 hown hK hP (hts (.fieldLink RX11 12 "CoinsOfLast" "coins" "LCoinsOfLast$Coins;") (List.mem_of_getElem? (i := 1) rfl)) dX11_standIn_173 ?_
        refine gn_1_worth hx hb hts in1 hown hK hP (hsp.1 _ (List.mem_of_getElem? (i := 5) rfl)) dX11_standIn_176 ?_
        refine lv_iload_n hx hb dX11_standIn_179 rfl (lv_at hl 1 rfl) ?_
        obtain ⟨c_30, hZ⟩ := jx_a_some hZ
        refine X_iald hx hb hK hP wX_3 c_30 dX11_standIn_180 ?_
        refine lv_iload hx hb dX11_standIn_181 (lv_at hl 4 rfl) ?_
        refine lv_isub hx hb dX11_standIn_183 ?_
        exact leave_i hx hb hr hlocks hP hS hZ dX11_standIn_184
      · have hZ := jx_i_neg c_29 hZ
        exact j167 x6_25 S_25 _ _ hZ hP hD hS _ (lv_sub hl [3] rfl)
  unfold f_X11_standIn at hZ
  refine lv_aload_n hx hb dX11_standIn_0 rfl (lv_at hl 0 rfl) ?_
  refine gf_11_coins hx hb hts in11 hown hK hP (hts (.fieldLink RX11 12 "CoinsOfLast" "coins" "LCoinsOfLast$Coins;") (List.mem_of_getElem? (i := 1) rfl)) dX11_standIn_1 ?_
  refine lv_iload_n hx hb dX11_standIn_4 rfl (lv_at hl 1 rfl) ?_
  obtain ⟨r_3, S_1, hc_2, hZ⟩ := jx_b2_some hZ
  refine call_Vi SX_ok sameX ⟨hx, hb, hml, hown, hts⟩ (c_X1_knows l D q k x1 S _ (r_3, S_1)  hc_2) (cwV 1 hts gX11_standIn_X1_knows rfl rfl rfl hd_X1_knows ⟨Nat.le_of_ble_eq_true rfl, Nat.le_of_ble_eq_true rfl⟩) hK hP hD hS hA hsp (va_recv hK hP (ci := 1) (q0 := 1) rfl wX_1) (As := [.int x1]) rfl hl.1 rfl (Nat.le_of_ble_eq_true rfl) dX11_standIn_5 ⟨Nat.zero_le _, Nat.zero_le _⟩ (fun H locs hP hD hS => ?_)
  refine lv_if_eq (tgt := 38) hx hb dX11_standIn_8 (by decide) (fun c_4 => ?_) (fun c_4 => ?_)
  · have hZ := jx_i_pos c_4 hZ
    refine lv_ldc (v := (-2000000000 : Int32)) hx hb hown (hts (.constant RX11 253 (-2000000000)) (List.mem_of_getElem? (i := 2) rfl)) dX11_standIn_38 ?_
    exact leave_i hx hb hr hlocks hP hS hZ dX11_standIn_40
  · have hZ := jx_i_neg c_4 hZ
    refine lv_iload_n hx hb dX11_standIn_11 rfl (lv_at hl 2 rfl) ?_
    refine lv_iconst (v := (0 : Int32)) hx hb dX11_standIn_12 (by decide) ?_
    refine lv_bipush (v := (99 : Int32)) hx hb dX11_standIn_13 (by decide) ?_
    obtain ⟨r_7, S_5, hc_6, hZ⟩ := jx_b2_some hZ
    refine call_Si SX_ok sameX ⟨hx, hb, hml, hown, hts⟩ (c_X11_within l D q k x2 (0 : Int32) (99 : Int32) S_1 _ (r_7, S_5)  hc_6) (va_cwS 3 hts gX11_standIn_X11_within rfl rfl rfl hd_X11_within ⟨Nat.le_of_ble_eq_true rfl, Nat.le_of_ble_eq_true rfl⟩) hK hP hD hS hA hsp (As := [.int x2, .int (0 : Int32), .int (99 : Int32)]) rfl hl.1 rfl (Nat.le_of_ble_eq_true rfl) dX11_standIn_15 ⟨Nat.zero_le _, Nat.zero_le _⟩ (fun H locs hP hD hS => ?_)
    refine lv_if_eq (tgt := 38) hx hb dX11_standIn_18 (by decide) (fun c_8 => ?_) (fun c_8 => ?_)
    · have hZ := jx_i_pos c_8 hZ
      refine lv_ldc (v := (-2000000000 : Int32)) hx hb hown (hts (.constant RX11 253 (-2000000000)) (List.mem_of_getElem? (i := 2) rfl)) dX11_standIn_38 ?_
      exact leave_i hx hb hr hlocks hP hS hZ dX11_standIn_40
    · have hZ := jx_i_neg c_8 hZ
      refine lv_iload_n hx hb dX11_standIn_21 rfl (lv_at hl 3 rfl) ?_
      obtain ⟨r_11, S_9, hc_10, hZ⟩ := jx_b2_some hZ
      refine call_Si SX_ok sameX ⟨hx, hb, hml, hown, hts⟩ (c_X11_isDay l D q k x3 S_5 _ (r_11, S_9)  hc_10) (va_cwS 1 hts gX11_standIn_X11_isDay rfl rfl rfl hd_X11_isDay ⟨Nat.le_of_ble_eq_true rfl, Nat.le_of_ble_eq_true rfl⟩) hK hP hD hS hA hsp (As := [.int x3]) rfl hl.1 rfl (Nat.le_of_ble_eq_true rfl) dX11_standIn_22 ⟨Nat.zero_le _, Nat.zero_le _⟩ (fun H locs hP hD hS => ?_)
      refine lv_if_eq (tgt := 38) hx hb dX11_standIn_25 (by decide) (fun c_12 => ?_) (fun c_12 => ?_)
      · have hZ := jx_i_pos c_12 hZ
        refine lv_ldc (v := (-2000000000 : Int32)) hx hb hown (hts (.constant RX11 253 (-2000000000)) (List.mem_of_getElem? (i := 2) rfl)) dX11_standIn_38 ?_
        exact leave_i hx hb hr hlocks hP hS hZ dX11_standIn_40
      · have hZ := jx_i_neg c_12 hZ
        refine lv_iload hx hb dX11_standIn_28 (lv_at hl 4 rfl) ?_
        refine lv_iconst (v := (0 : Int32)) hx hb dX11_standIn_30 (by decide) ?_
        refine lv_iconst (v := (1 : Int32)) hx hb dX11_standIn_31 (by decide) ?_
        obtain ⟨r_15, S_13, hc_14, hZ⟩ := jx_b2_some hZ
        refine call_Si SX_ok sameX ⟨hx, hb, hml, hown, hts⟩ (c_X11_within l D q k x4 (0 : Int32) (1 : Int32) S_9 _ (r_15, S_13)  hc_14) (va_cwS 3 hts gX11_standIn_X11_within rfl rfl rfl hd_X11_within ⟨Nat.le_of_ble_eq_true rfl, Nat.le_of_ble_eq_true rfl⟩) hK hP hD hS hA hsp (As := [.int x4, .int (0 : Int32), .int (1 : Int32)]) rfl hl.1 rfl (Nat.le_of_ble_eq_true rfl) dX11_standIn_32 ⟨Nat.zero_le _, Nat.zero_le _⟩ (fun H locs hP hD hS => ?_)
        refine lv_if_ne (tgt := 41) hx hb dX11_standIn_35 (by decide) (fun c_16 => ?_) (fun c_16 => ?_)
        · have hZ := jx_i_neg c_16 hZ
          refine lv_aload_n hx hb dX11_standIn_41 rfl (lv_at hl 0 rfl) ?_
          refine gf_11_coins hx hb hts in11 hown hK hP (hts (.fieldLink RX11 12 "CoinsOfLast" "coins" "LCoinsOfLast$Coins;") (List.mem_of_getElem? (i := 1) rfl)) dX11_standIn_42 ?_
          refine lv_iload_n hx hb dX11_standIn_45 rfl (lv_at hl 1 rfl) ?_
          refine lv_iload_n hx hb dX11_standIn_46 rfl (lv_at hl 2 rfl) ?_
          obtain ⟨r_19, S_17, hc_18, hZ⟩ := jx_b2_some hZ
          refine call_Vi SX_ok sameX ⟨hx, hb, hml, hown, hts⟩ (c_X1_alike l D q k x1 x2 S_13 _ (r_19, S_17)  hc_18) (cwV 2 hts gX11_standIn_X1_alike rfl rfl rfl hd_X1_alike ⟨Nat.le_of_ble_eq_true rfl, Nat.le_of_ble_eq_true rfl⟩) hK hP hD hS hA hsp (va_recv hK hP (ci := 1) (q0 := 1) rfl wX_1) (As := [.int x1, .int x2]) rfl hl.1 rfl (Nat.le_of_ble_eq_true rfl) dX11_standIn_47 ⟨Nat.zero_le _, Nat.zero_le _⟩ (fun H locs hP hD hS => ?_)
          refine lv_istore (lv' := [(5, .int r_19), (0, .ref (q 0)), (1, .int x1), (2, .int x2), (3, .int x3), (4, .int x4)]) hx hb dX11_standIn_50 hl (by decide) rfl (fun ls hl => ?_)
          refine lv_iconst (v := (-1 : Int32)) hx hb dX11_standIn_52 (by decide) ?_
          refine lv_istore (lv' := [(6, .int (-1 : Int32)), (5, .int r_19), (0, .ref (q 0)), (1, .int x1), (2, .int x2), (3, .int x3), (4, .int x4)]) hx hb dX11_standIn_53 hl (by decide) rfl (fun ls hl => ?_)
          refine lv_iconst (v := (0 : Int32)) hx hb dX11_standIn_55 (by decide) ?_
          refine lv_istore (lv' := [(7, .int (0 : Int32)), (6, .int (-1 : Int32)), (5, .int r_19), (0, .ref (q 0)), (1, .int x1), (2, .int x2), (3, .int x3), (4, .int x4)]) hx hb dX11_standIn_56 hl (by decide) rfl (fun ls hl => ?_)
          refine lv_iconst (v := (0 : Int32)) hx hb dX11_standIn_58 (by decide) ?_
          refine lv_istore (lv' := [(8, .int (0 : Int32)), (7, .int (0 : Int32)), (6, .int (-1 : Int32)), (5, .int r_19), (0, .ref (q 0)), (1, .int x1), (2, .int x2), (3, .int x3), (4, .int x4)]) hx hb dX11_standIn_59 hl (by decide) rfl (fun ls hl => ?_)
          obtain ⟨r_24, hw, hza_24⟩ := jx_b_some hZ
          have l_24 : ∀ (nn : Nat) (x6_20 : Int32) (x7_21 : Int32) (x8_22 : Int32) (S_23 : St) (H : Heap) (locs : List Loc) (hw : jx_w (g_X11_standIn_61 x1 x3 x4 r_19) nn (x6_20, x7_21, x8_22, S_23) = some r_24) (hP : va_P D vwCl (W_X q k S_23) H) (hD : va_D A (W_X q k S_23)) (hS : va_S A s.heap H locs) (ls : Array Slot) (hl : lv_has ls 10 [(0, .ref (q 0)), (1, .int x1), (3, .int x3), (4, .int x4), (5, .int r_19), (6, .int x6_20), (7, .int x7_21), (8, .int x8_22)]), W p l e ({ frames := 4, cells := 0, slots := 0, locals := 95 } : Room) s m ([.ref (q 0), .int x1, .int x2, .int x3, .int x4] : List Value).toArray below meth c H locs 0 0 (MQ below (va_Qi (fun r u => (r, u) = Z) (fun u t => va_P D vwCl (W_X q k u) t.heap) A) ([.ref (q 0), .int x1, .int x2, .int x3, .int x4] : List Value).toArray s 0 0 A) (F0 m 61 ls []) := by
            intro nn
            induction nn with
            | zero =>
              intro x6_20 x7_21 x8_22 S_23 H locs hw hP hD hS ls hl
              exact jx_w_zero hw
            | succ n_24 ih_24 =>
              intro x6_20 x7_21 x8_22 S_23 H locs hw hP hD hS ls hl
              obtain ⟨o_24, hZ, hk_24⟩ := jx_w_succ hw
              have hZ : b_X11_standIn_61 x1 x3 x4 r_19 x6_20 x7_21 x8_22 S_23 = some o_24 := hZ
              have j151i61 : ∀ (x6_57 : Int32) (x7_57 : Int32) (x8_57 : Int32) (S_57 : St)  (o_24 : (Int32 × Int32 × Int32 × St) ⊕ ((Int32 × Int32 × St))) (hk_24 : jx_k (g_X11_standIn_61 x1 x3 x4 r_19) n_24 r_24 o_24) (H : Heap) (locs : List Loc) (hZ : f_X11_standIn_151i61 x1 x3 x4 r_19 x6_57 x7_57 x8_57 S_57 = some o_24) (hP : va_P D vwCl (W_X q k S_57) H) (hD : va_D A (W_X q k S_57)) (hS : va_S A s.heap H locs) (ls : Array Slot) (hl : lv_has ls 10 [(0, .ref (q 0)), (1, .int x1), (3, .int x3), (4, .int x4), (5, .int r_19), (6, .int x6_57), (7, .int x7_57), (8, .int x8_57)]), W p l e ({ frames := 4, cells := 0, slots := 0, locals := 95 } : Room) s m ([.ref (q 0), .int x1, .int x2, .int x3, .int x4] : List Value).toArray below meth c H locs 0 0 (MQ below (va_Qi (fun r u => (r, u) = Z) (fun u t => va_P D vwCl (W_X q k u) t.heap) A) ([.ref (q 0), .int x1, .int x2, .int x3, .int x4] : List Value).toArray s 0 0 A) (F0 m 151 ls []) := by
                intro x6_57 x7_57 x8_57 S_57  o_24 hk_24 H locs hZ hP hD hS ls hl
                unfold f_X11_standIn_151i61 at hZ
                obtain ⟨x8_58, e_x8_58, hZ⟩ := jx_l_some hZ
                refine lv_iinc (v := x8_58) (lv' := [(8, .int x8_58), (0, .ref (q 0)), (1, .int x1), (3, .int x3), (4, .int x4), (5, .int r_19), (6, .int x6_57), (7, .int x7_57)]) hx hb dX11_standIn_151 hl (k := 7) rfl (by rw [e_x8_58]; rfl) (by decide) rfl (fun ls hl => ?_)
                refine lv_goto (tgt := 61) hx hb dX11_standIn_154 (by decide) ?_
                have ho := Option.some.inj hZ
                subst ho
                exact ih_24 x6_57 x7_57 x8_58 S_57 _ _ hk_24 hP hD hS _ (lv_sub hl [1, 2, 3, 4, 5, 6, 7, 0] rfl)
              have j143i61 : ∀ (x8_68 : Int32) (x9_68 : Int32) (S_68 : St)  (o_24 : (Int32 × Int32 × Int32 × St) ⊕ ((Int32 × Int32 × St))) (hk_24 : jx_k (g_X11_standIn_61 x1 x3 x4 r_19) n_24 r_24 o_24) (H : Heap) (locs : List Loc) (hZ : f_X11_standIn_143i61 x1 x3 x4 r_19 x8_68 x9_68 S_68 = some o_24) (hP : va_P D vwCl (W_X q k S_68) H) (hD : va_D A (W_X q k S_68)) (hS : va_S A s.heap H locs) (ls : Array Slot) (hl : lv_has ls 10 [(0, .ref (q 0)), (1, .int x1), (3, .int x3), (4, .int x4), (5, .int r_19), (8, .int x8_68), (9, .int x9_68)]), W p l e ({ frames := 4, cells := 0, slots := 0, locals := 95 } : Room) s m ([.ref (q 0), .int x1, .int x2, .int x3, .int x4] : List Value).toArray below meth c H locs 0 0 (MQ below (va_Qi (fun r u => (r, u) = Z) (fun u t => va_P D vwCl (W_X q k u) t.heap) A) ([.ref (q 0), .int x1, .int x2, .int x3, .int x4] : List Value).toArray s 0 0 A) (F0 m 143 ls []) := by
                intro x8_68 x9_68 S_68  o_24 hk_24 H locs hZ hP hD hS ls hl
                unfold f_X11_standIn_143i61 at hZ
                refine lv_iload hx hb dX11_standIn_143 (lv_at hl 5 rfl) ?_
                refine lv_istore (lv' := [(6, .int x8_68), (0, .ref (q 0)), (1, .int x1), (3, .int x3), (4, .int x4), (5, .int r_19), (8, .int x8_68), (9, .int x9_68)]) hx hb dX11_standIn_145 hl (by decide) rfl (fun ls hl => ?_)
                refine lv_iload hx hb dX11_standIn_147 (lv_at hl 7 rfl) ?_
                refine lv_istore (lv' := [(7, .int x9_68), (6, .int x8_68), (0, .ref (q 0)), (1, .int x1), (3, .int x3), (4, .int x4), (5, .int r_19), (8, .int x8_68), (9, .int x9_68)]) hx hb dX11_standIn_149 hl (by decide) rfl (fun ls hl => ?_)
                exact j151i61 x8_68 x9_68 x8_68 S_68 _ hk_24 _ _ hZ hP hD hS _ (lv_sub hl [2, 3, 4, 5, 6, 1, 0, 7] rfl)
              unfold b_X11_standIn_61 at hZ
              refine lv_iload hx hb dX11_standIn_61 (lv_at hl 7 rfl) ?_
              refine lv_aload_n hx hb dX11_standIn_63 rfl (lv_at hl 0 rfl) ?_
              refine gf_11_coins hx hb hts in11 hown hK hP (hts (.fieldLink RX11 12 "CoinsOfLast" "coins" "LCoinsOfLast$Coins;") (List.mem_of_getElem? (i := 1) rfl)) dX11_standIn_64 ?_
              refine gn_1_known hx hb hts in1 hown hK hP (hsp.1 _ (List.mem_of_getElem? (i := 15) rfl)) dX11_standIn_67 ?_
              refine lv_icmp_ge (tgt := 157) hx hb dX11_standIn_70 (by decide) (fun c_54 => ?_) (fun c_54 => ?_)
              · have hZ := jx_i_pos c_54 hZ
                have ho := Option.some.inj hZ
                subst ho
                have hE := hza_24
                rw [← (show (x6_20, x7_21, S_23) = r_24 from hk_24)] at hE
                have hZ : f_X11_standIn_157 x1 x4 x6_20 x7_21 S_23 = some Z := hE
                exact j157 x1 x4 x6_20 x7_21 S_23 _ _ hZ hP hD hS _ (lv_sub hl [0, 1, 3, 5, 6] rfl)
              · have hZ := jx_i_neg c_54 hZ
                refine lv_iload hx hb dX11_standIn_73 (lv_at hl 7 rfl) ?_
                refine lv_iload_n hx hb dX11_standIn_75 rfl (lv_at hl 1 rfl) ?_
                refine lv_icmp_eq (tgt := 151) hx hb dX11_standIn_76 (by decide) (fun c_56 => ?_) (fun c_56 => ?_)
                · have hZ := jx_i_pos c_56 hZ
                  exact j151i61 x6_20 x7_21 x8_22 S_23 _ hk_24 _ _ hZ hP hD hS _ (lv_sub hl [0, 1, 2, 3, 4, 5, 6, 7] rfl)
                · have hZ := jx_i_neg c_56 hZ
                  refine lv_iload hx hb dX11_standIn_79 (lv_at hl 4 rfl) ?_
                  refine lv_iload hx hb dX11_standIn_81 (lv_at hl 7 rfl) ?_
                  refine lv_ishr hx hb dX11_standIn_83 ?_
                  refine lv_iconst (v := (1 : Int32)) hx hb dX11_standIn_84 (by decide) ?_
                  refine lv_iand hx hb dX11_standIn_85 ?_
                  refine lv_if_ne (tgt := 92) hx hb dX11_standIn_86 (by decide) (fun c_60 => ?_) (fun c_60 => ?_)
                  · have hZ := jx_i_neg c_60 hZ
                    refine lv_aload_n hx hb dX11_standIn_92 rfl (lv_at hl 0 rfl) ?_
                    refine gf_11_office hx hb hts in11 hown hK hP (hts (.fieldLink RX11 40 "CoinsOfLast" "office" "LCoinsOfLast$Window;") (List.mem_of_getElem? (i := 3) rfl)) dX11_standIn_93 ?_
                    refine lv_aload_n hx hb dX11_standIn_96 rfl (lv_at hl 0 rfl) ?_
                    refine gf_11_coins hx hb hts in11 hown hK hP (hts (.fieldLink RX11 12 "CoinsOfLast" "coins" "LCoinsOfLast$Coins;") (List.mem_of_getElem? (i := 1) rfl)) dX11_standIn_97 ?_
                    refine gn_1_worth hx hb hts in1 hown hK hP (hsp.1 _ (List.mem_of_getElem? (i := 5) rfl)) dX11_standIn_100 ?_
                    refine lv_iload hx hb dX11_standIn_103 (lv_at hl 7 rfl) ?_
                    obtain ⟨c_61, hZ⟩ := jx_a_some hZ
                    refine X_iald hx hb hK hP wX_3 c_61 dX11_standIn_105 ?_
                    refine lv_aload_n hx hb dX11_standIn_106 rfl (lv_at hl 0 rfl) ?_
                    refine gf_11_coins hx hb hts in11 hown hK hP (hts (.fieldLink RX11 12 "CoinsOfLast" "coins" "LCoinsOfLast$Coins;") (List.mem_of_getElem? (i := 1) rfl)) dX11_standIn_107 ?_
                    refine gn_1_land hx hb hts in1 hown hK hP (hsp.1 _ (List.mem_of_getElem? (i := 2) rfl)) dX11_standIn_110 ?_
                    refine lv_iload hx hb dX11_standIn_113 (lv_at hl 7 rfl) ?_
                    obtain ⟨c_62, hZ⟩ := jx_a_some hZ
                    refine X_iald hx hb hK hP wX_2 c_62 dX11_standIn_115 ?_
                    refine lv_aload_n hx hb dX11_standIn_116 rfl (lv_at hl 0 rfl) ?_
                    refine gf_11_coins hx hb hts in11 hown hK hP (hts (.fieldLink RX11 12 "CoinsOfLast" "coins" "LCoinsOfLast$Coins;") (List.mem_of_getElem? (i := 1) rfl)) dX11_standIn_117 ?_
                    refine gn_1_land hx hb hts in1 hown hK hP (hsp.1 _ (List.mem_of_getElem? (i := 2) rfl)) dX11_standIn_120 ?_
                    refine lv_iload_n hx hb dX11_standIn_123 rfl (lv_at hl 1 rfl) ?_
                    obtain ⟨c_63, hZ⟩ := jx_a_some hZ
                    refine X_iald hx hb hK hP wX_2 c_63 dX11_standIn_124 ?_
                    refine lv_iload_n hx hb dX11_standIn_125 rfl (lv_at hl 2 rfl) ?_
                    obtain ⟨r_66, S_64, hc_65, hZ⟩ := jx_b2_some hZ
                    refine call_Vi SX_ok sameX ⟨hx, hb, hml, hown, hts⟩ (c_X10_exchanged l D q k (S_23.1 3 (Int32.toNatClampNeg x8_22)) (S_23.1 2 (Int32.toNatClampNeg x8_22)) (S_23.1 2 (Int32.toNatClampNeg x1)) x3 S_23 _ (r_66, S_64)  hc_65) (cwV 4 hts gX11_standIn_X10_exchanged rfl rfl rfl hd_X10_exchanged ⟨Nat.le_of_ble_eq_true rfl, Nat.le_of_ble_eq_true rfl⟩) hK hP hD hS hA hsp (va_recv hK hP (ci := 10) (q0 := 21) rfl wX_21) (As := [.int (S_23.1 3 (Int32.toNatClampNeg x8_22)), .int (S_23.1 2 (Int32.toNatClampNeg x8_22)), .int (S_23.1 2 (Int32.toNatClampNeg x1)), .int x3]) rfl hl.1 rfl (Nat.le_of_ble_eq_true rfl) dX11_standIn_126 ⟨Nat.zero_le _, Nat.zero_le _⟩ (fun H locs hP hD hS => ?_)
                    refine lv_istore (lv' := [(9, .int r_66), (0, .ref (q 0)), (1, .int x1), (3, .int x3), (4, .int x4), (5, .int r_19), (6, .int x6_20), (7, .int x7_21), (8, .int x8_22)]) hx hb dX11_standIn_129 hl (by decide) rfl (fun ls hl => ?_)
                    refine lv_iload hx hb dX11_standIn_131 (lv_at hl 6 rfl) ?_
                    refine lv_if_lt (tgt := 143) hx hb dX11_standIn_133 (by decide) (fun c_67 => ?_) (fun c_67 => ?_)
                    · have hZ := jx_i_pos c_67 hZ
                      exact j143i61 x8_22 r_66 S_64 _ hk_24 _ _ hZ hP hD hS _ (lv_sub hl [1, 2, 3, 4, 5, 8, 0] rfl)
                    · have hZ := jx_i_neg c_67 hZ
                      refine lv_iload hx hb dX11_standIn_136 (lv_at hl 0 rfl) ?_
                      refine lv_iload hx hb dX11_standIn_138 (lv_at hl 7 rfl) ?_
                      refine lv_icmp_ge (tgt := 151) hx hb dX11_standIn_140 (by decide) (fun c_71 => ?_) (fun c_71 => ?_)
                      · have hZ := jx_i_pos c_71 hZ
                        exact j151i61 x6_20 x7_21 x8_22 S_64 _ hk_24 _ _ hZ hP hD hS _ (lv_sub hl [1, 2, 3, 4, 5, 6, 7, 8] rfl)
                      · have hZ := jx_i_neg c_71 hZ
                        exact j143i61 x8_22 r_66 S_64 _ hk_24 _ _ hZ hP hD hS _ (lv_sub hl [1, 2, 3, 4, 5, 8, 0] rfl)
                  · have hZ := jx_i_pos c_60 hZ
                    refine lv_goto (tgt := 151) hx hb dX11_standIn_89 (by decide) ?_
                    exact j151i61 x6_20 x7_21 x8_22 S_23 _ hk_24 _ _ hZ hP hD hS _ (lv_sub hl [0, 1, 2, 3, 4, 5, 6, 7] rfl)
          exact l_24 FU (-1 : Int32) (0 : Int32) (0 : Int32) S_17 _ _ hw hP hD hS _ (lv_sub hl [4, 5, 7, 8, 3, 2, 1, 0] rfl)
        · have hZ := jx_i_pos c_16 hZ
          refine lv_ldc (v := (-2000000000 : Int32)) hx hb hown (hts (.constant RX11 253 (-2000000000)) (List.mem_of_getElem? (i := 2) rfl)) dX11_standIn_38 ?_
          exact leave_i hx hb hr hlocks hP hS hZ dX11_standIn_40
-- X11_isChange
def f_X11_isChange (x0 : Int32) (S : St) : Option (Int32 × St) :=
  jx_b2 (f_X11_isPair x0 S) (fun r_3 S_1 => (if r_3 = 0 then some ((0 : Int32), S_1) else jx_d (10 : Int32) (jx_d (10 : Int32) ((if (x0 / (10 : Int32)) = (x0 - x0 / (10 : Int32) * (10 : Int32)) then some ((0 : Int32), S_1) else some ((1 : Int32), S_1))))))
set_option maxHeartbeats 4000000 in
set_option maxRecDepth 100000 in
theorem c_X11_isChange (l : Launch) (D : va_G) (q : Nat → Nat) (k : CI) (x0 : Int32) (S : St) (sz : Nat) (Z : Int32 × St) (hZ : f_X11_isChange x0 S = some Z) : MetI W_X SX l yX11_isChange wsX11_isChange { frames := 3, cells := 0, slots := 0, locals := 62 } [.int x0] D q k S sz Z := by
  refine enter (cc := cX11_isChange) (maxL := 1) (ret := some .boolean) (by decide) rfl (Nat.le_of_ble_eq_true rfl) ?_
  intro p e s m below meth c A ls hx hb hr hts hown hlocks hml hP hK hD hA hS hsp hAe hl
  have hown : s.vm.findClass RX11 = some m.cls := hown
  have hl : lv_has ls 1 [(0, .int x0)] := hl
  unfold f_X11_isChange at hZ
  refine lv_iload_n hx hb dX11_isChange_0 rfl (lv_at hl 0 rfl) ?_
  obtain ⟨r_3, S_1, hc_2, hZ⟩ := jx_b2_some hZ
  refine call_Si SX_ok sameX ⟨hx, hb, hml, hown, hts⟩ (c_X11_isPair l D q k x0 S _ (r_3, S_1)  hc_2) (va_cwS 1 hts gX11_isChange_X11_isPair rfl rfl rfl hd_X11_isPair ⟨Nat.le_of_ble_eq_true rfl, Nat.le_of_ble_eq_true rfl⟩) hK hP hD hS hA hsp (As := [.int x0]) rfl hl.1 rfl (Nat.le_of_ble_eq_true rfl) dX11_isChange_1 ⟨Nat.zero_le _, Nat.zero_le _⟩ (fun H locs hP hD hS => ?_)
  refine lv_if_eq (tgt := 22) hx hb dX11_isChange_4 (by decide) (fun c_4 => ?_) (fun c_4 => ?_)
  · have hZ := jx_i_pos c_4 hZ
    refine lv_iconst (v := (0 : Int32)) hx hb dX11_isChange_22 (by decide) ?_
    exact leave_z hx hb hr hlocks rfl hP hS hZ dX11_isChange_23
  · have hZ := jx_i_neg c_4 hZ
    refine lv_iload_n hx hb dX11_isChange_7 rfl (lv_at hl 0 rfl) ?_
    refine lv_bipush (v := (10 : Int32)) hx hb dX11_isChange_8 (by decide) ?_
    obtain ⟨c_5, hZ⟩ := jx_d_some hZ
    refine lv_idiv hx hb dX11_isChange_10 c_5 ?_
    refine lv_iload_n hx hb dX11_isChange_11 rfl (lv_at hl 0 rfl) ?_
    refine lv_bipush (v := (10 : Int32)) hx hb dX11_isChange_12 (by decide) ?_
    obtain ⟨c_6, hZ⟩ := jx_d_some hZ
    refine lv_irem hx hb dX11_isChange_14 c_6 ?_
    refine lv_icmp_eq (tgt := 22) hx hb dX11_isChange_15 (by decide) (fun c_7 => ?_) (fun c_7 => ?_)
    · have hZ := jx_i_pos c_7 hZ
      refine lv_iconst (v := (0 : Int32)) hx hb dX11_isChange_22 (by decide) ?_
      exact leave_z hx hb hr hlocks rfl hP hS hZ dX11_isChange_23
    · have hZ := jx_i_neg c_7 hZ
      refine lv_iconst (v := (1 : Int32)) hx hb dX11_isChange_18 (by decide) ?_
      refine lv_goto (tgt := 23) hx hb dX11_isChange_19 (by decide) ?_
      exact leave_z hx hb hr hlocks rfl hP hS hZ dX11_isChange_23
theorem hd_X11_isChange : yX11_isChange.cls ≠ "java/lang/invoke/MethodHandle" ∧ yX11_isChange.cls ≠ "java/lang/invoke/VarHandle" ∧ (parseMethodDescriptor yX11_isChange.desc).map (fun d => d.parameters.length) = some 1 := by decide +kernel
-- X11_change
def f_X11_change (x1 : Int32) (x2 : Int32) (x3 : Int32) (S : St) : Option (Int32 × St) :=
  jx_b2 (f_X11_within x1 (0 : Int32) (9999 : Int32) S) (fun r_3 S_1 => (if r_3 = 0 then some ((-1 : Int32), S_1) else jx_b2 (f_X11_isChange x2 S_1) (fun r_7 S_5 => (if r_7 = 0 then some ((-1 : Int32), S_5) else jx_b2 (f_X11_isDay x3 S_5) (fun r_11 S_9 => (if r_11 = 0 then some ((-1 : Int32), S_9) else jx_d (10 : Int32) (jx_d (10 : Int32) (jx_b2 (f_X10_changed x1 (x2 / (10 : Int32)) (x2 - x2 / (10 : Int32) * (10 : Int32)) x3 S_9) (fun r_17 S_15 => some (r_17, S_15))))))))))
set_option maxHeartbeats 4000000 in
set_option maxRecDepth 100000 in
theorem c_X11_change (l : Launch) (D : va_G) (q : Nat → Nat) (k : CI) (x1 : Int32) (x2 : Int32) (x3 : Int32) (S : St) (sz : Nat) (Z : Int32 × St) (hZ : f_X11_change x1 x2 x3 S = some Z) : MetI W_X SX l yX11_change wsX11_change { frames := 4, cells := 0, slots := 0, locals := 99 } [.ref (q 0), .int x1, .int x2, .int x3] D q k S sz Z := by
  refine enter (cc := cX11_change) (maxL := 4) (ret := some .int) (by decide) rfl (Nat.le_of_ble_eq_true rfl) ?_
  intro p e s m below meth c A ls hx hb hr hts hown hlocks hml hP hK hD hA hS hsp hAe hl
  have hown : s.vm.findClass RX11 = some m.cls := hown
  have hl : lv_has ls 4 [(0, .ref (q 0)), (1, .int x1), (2, .int x2), (3, .int x3)] := hl
  have in11 : ∀ w ∈ wsX110, w ∈ wsX11_change := fun _ h => (List.mem_cons_of_mem _ (List.mem_append_left _ (List.mem_append_left _ (List.mem_append_right _ h))))
  unfold f_X11_change at hZ
  refine lv_iload_n hx hb dX11_change_0 rfl (lv_at hl 1 rfl) ?_
  refine lv_iconst (v := (0 : Int32)) hx hb dX11_change_1 (by decide) ?_
  refine lv_sipush (v := (9999 : Int32)) hx hb dX11_change_2 (by decide) ?_
  obtain ⟨r_3, S_1, hc_2, hZ⟩ := jx_b2_some hZ
  refine call_Si SX_ok sameX ⟨hx, hb, hml, hown, hts⟩ (c_X11_within l D q k x1 (0 : Int32) (9999 : Int32) S _ (r_3, S_1)  hc_2) (va_cwS 3 hts gX11_change_X11_within rfl rfl rfl hd_X11_within ⟨Nat.le_of_ble_eq_true rfl, Nat.le_of_ble_eq_true rfl⟩) hK hP hD hS hA hsp (As := [.int x1, .int (0 : Int32), .int (9999 : Int32)]) rfl hl.1 rfl (Nat.le_of_ble_eq_true rfl) dX11_change_5 ⟨Nat.zero_le _, Nat.zero_le _⟩ (fun H locs hP hD hS => ?_)
  refine lv_if_eq (tgt := 25) hx hb dX11_change_8 (by decide) (fun c_4 => ?_) (fun c_4 => ?_)
  · have hZ := jx_i_pos c_4 hZ
    refine lv_iconst (v := (-1 : Int32)) hx hb dX11_change_25 (by decide) ?_
    exact leave_i hx hb hr hlocks hP hS hZ dX11_change_26
  · have hZ := jx_i_neg c_4 hZ
    refine lv_iload_n hx hb dX11_change_11 rfl (lv_at hl 2 rfl) ?_
    obtain ⟨r_7, S_5, hc_6, hZ⟩ := jx_b2_some hZ
    refine call_Si SX_ok sameX ⟨hx, hb, hml, hown, hts⟩ (c_X11_isChange l D q k x2 S_1 _ (r_7, S_5)  hc_6) (va_cwS 1 hts gX11_change_X11_isChange rfl rfl rfl hd_X11_isChange ⟨Nat.le_of_ble_eq_true rfl, Nat.le_of_ble_eq_true rfl⟩) hK hP hD hS hA hsp (As := [.int x2]) rfl hl.1 rfl (Nat.le_of_ble_eq_true rfl) dX11_change_12 ⟨Nat.zero_le _, Nat.zero_le _⟩ (fun H locs hP hD hS => ?_)
    refine lv_if_eq (tgt := 25) hx hb dX11_change_15 (by decide) (fun c_8 => ?_) (fun c_8 => ?_)
    · have hZ := jx_i_pos c_8 hZ
      refine lv_iconst (v := (-1 : Int32)) hx hb dX11_change_25 (by decide) ?_
      exact leave_i hx hb hr hlocks hP hS hZ dX11_change_26
    · have hZ := jx_i_neg c_8 hZ
      refine lv_iload_n hx hb dX11_change_18 rfl (lv_at hl 3 rfl) ?_
      obtain ⟨r_11, S_9, hc_10, hZ⟩ := jx_b2_some hZ
      refine call_Si SX_ok sameX ⟨hx, hb, hml, hown, hts⟩ (c_X11_isDay l D q k x3 S_5 _ (r_11, S_9)  hc_10) (va_cwS 1 hts gX11_change_X11_isDay rfl rfl rfl hd_X11_isDay ⟨Nat.le_of_ble_eq_true rfl, Nat.le_of_ble_eq_true rfl⟩) hK hP hD hS hA hsp (As := [.int x3]) rfl hl.1 rfl (Nat.le_of_ble_eq_true rfl) dX11_change_19 ⟨Nat.zero_le _, Nat.zero_le _⟩ (fun H locs hP hD hS => ?_)
      refine lv_if_ne (tgt := 27) hx hb dX11_change_22 (by decide) (fun c_12 => ?_) (fun c_12 => ?_)
      · have hZ := jx_i_neg c_12 hZ
        refine lv_aload_n hx hb dX11_change_27 rfl (lv_at hl 0 rfl) ?_
        refine gf_11_office hx hb hts in11 hown hK hP (hts (.fieldLink RX11 40 "CoinsOfLast" "office" "LCoinsOfLast$Window;") (List.mem_of_getElem? (i := 1) rfl)) dX11_change_28 ?_
        refine lv_iload_n hx hb dX11_change_31 rfl (lv_at hl 1 rfl) ?_
        refine lv_iload_n hx hb dX11_change_32 rfl (lv_at hl 2 rfl) ?_
        refine lv_bipush (v := (10 : Int32)) hx hb dX11_change_33 (by decide) ?_
        obtain ⟨c_13, hZ⟩ := jx_d_some hZ
        refine lv_idiv hx hb dX11_change_35 c_13 ?_
        refine lv_iload_n hx hb dX11_change_36 rfl (lv_at hl 2 rfl) ?_
        refine lv_bipush (v := (10 : Int32)) hx hb dX11_change_37 (by decide) ?_
        obtain ⟨c_14, hZ⟩ := jx_d_some hZ
        refine lv_irem hx hb dX11_change_39 c_14 ?_
        refine lv_iload_n hx hb dX11_change_40 rfl (lv_at hl 3 rfl) ?_
        obtain ⟨r_17, S_15, hc_16, hZ⟩ := jx_b2_some hZ
        refine call_Vi SX_ok sameX ⟨hx, hb, hml, hown, hts⟩ (c_X10_changed l D q k x1 (x2 / (10 : Int32)) (x2 - x2 / (10 : Int32) * (10 : Int32)) x3 S_9 _ (r_17, S_15)  hc_16) (cwV 4 hts gX11_change_X10_changed rfl rfl rfl hd_X10_changed ⟨Nat.le_of_ble_eq_true rfl, Nat.le_of_ble_eq_true rfl⟩) hK hP hD hS hA hsp (va_recv hK hP (ci := 10) (q0 := 21) rfl wX_21) (As := [.int x1, .int (x2 / (10 : Int32)), .int (x2 - x2 / (10 : Int32) * (10 : Int32)), .int x3]) rfl hl.1 rfl (Nat.le_of_ble_eq_true rfl) dX11_change_41 ⟨Nat.zero_le _, Nat.zero_le _⟩ (fun H locs hP hD hS => ?_)
        exact leave_i hx hb hr hlocks hP hS hZ dX11_change_44
      · have hZ := jx_i_pos c_12 hZ
        refine lv_iconst (v := (-1 : Int32)) hx hb dX11_change_25 (by decide) ?_
        exact leave_i hx hb hr hlocks hP hS hZ dX11_change_26
theorem hd_X10_search : yX10_search.cls = RX10 ∧ yX10_search.cls ≠ "java/lang/invoke/MethodHandle" ∧ yX10_search.cls ≠ "java/lang/invoke/VarHandle" ∧ (parseMethodDescriptor yX10_search.desc).map (fun d => d.parameters.length) = some 4 := by decide +kernel
-- X11_way
def f_X11_way (x1 : Int32) (x2 : Int32) (x3 : Int32) (x4 : Int32) (S : St) : Option (Int32 × St) :=
  jx_b2 (f_X11_within x1 (0 : Int32) (9999 : Int32) S) (fun r_3 S_1 => (if r_3 = 0 then some ((-1 : Int32), S_1) else jx_b2 (f_X11_isChange x2 S_1) (fun r_7 S_5 => (if r_7 = 0 then some ((-1 : Int32), S_5) else jx_b2 (f_X11_isDay x3 S_5) (fun r_11 S_9 => (if r_11 = 0 then some ((-1 : Int32), S_9) else jx_b2 (f_X11_within x4 (0 : Int32) (1 : Int32) S_9) (fun r_15 S_13 => (if r_15 = 0 then some ((-1 : Int32), S_13) else jx_d (10 : Int32) (jx_d (10 : Int32) (jx_b (f_X10_search x1 (x2 / (10 : Int32)) (x2 - x2 / (10 : Int32) * (10 : Int32)) x3 S_13) (fun S_19 => (if x4 = 0 then some ((S_19.1 21 4), S_19) else some ((S_19.1 21 5), S_19)))))))))))))
set_option maxHeartbeats 4000000 in
set_option maxRecDepth 100000 in
theorem c_X11_way (l : Launch) (D : va_G) (q : Nat → Nat) (k : CI) (x1 : Int32) (x2 : Int32) (x3 : Int32) (x4 : Int32) (S : St) (sz : Nat) (Z : Int32 × St) (hZ : f_X11_way x1 x2 x3 x4 S = some Z) : MetI W_X SX l yX11_way wsX11_way { frames := 42, cells := 0, slots := 0, locals := 1066 } [.ref (q 0), .int x1, .int x2, .int x3, .int x4] D q k S sz Z := by
  refine enter (cc := cX11_way) (maxL := 5) (ret := some .int) (by decide) rfl (Nat.le_of_ble_eq_true rfl) ?_
  intro p e s m below meth c A ls hx hb hr hts hown hlocks hml hP hK hD hA hS hsp hAe hl
  have hown : s.vm.findClass RX11 = some m.cls := hown
  have hl : lv_has ls 5 [(0, .ref (q 0)), (1, .int x1), (2, .int x2), (3, .int x3), (4, .int x4)] := hl
  have in10 : ∀ w ∈ wsX100, w ∈ wsX11_way := fun _ h => (List.mem_cons_of_mem _ (List.mem_append_left _ (List.mem_append_right _ h)))
  have in11 : ∀ w ∈ wsX110, w ∈ wsX11_way := fun _ h => (List.mem_cons_of_mem _ (List.mem_append_left _ (List.mem_append_left _ (List.mem_append_right _ h))))
  unfold f_X11_way at hZ
  refine lv_iload_n hx hb dX11_way_0 rfl (lv_at hl 1 rfl) ?_
  refine lv_iconst (v := (0 : Int32)) hx hb dX11_way_1 (by decide) ?_
  refine lv_sipush (v := (9999 : Int32)) hx hb dX11_way_2 (by decide) ?_
  obtain ⟨r_3, S_1, hc_2, hZ⟩ := jx_b2_some hZ
  refine call_Si SX_ok sameX ⟨hx, hb, hml, hown, hts⟩ (c_X11_within l D q k x1 (0 : Int32) (9999 : Int32) S _ (r_3, S_1)  hc_2) (va_cwS 3 hts gX11_way_X11_within rfl rfl rfl hd_X11_within ⟨Nat.le_of_ble_eq_true rfl, Nat.le_of_ble_eq_true rfl⟩) hK hP hD hS hA hsp (As := [.int x1, .int (0 : Int32), .int (9999 : Int32)]) rfl hl.1 rfl (Nat.le_of_ble_eq_true rfl) dX11_way_5 ⟨Nat.zero_le _, Nat.zero_le _⟩ (fun H locs hP hD hS => ?_)
  refine lv_if_eq (tgt := 35) hx hb dX11_way_8 (by decide) (fun c_4 => ?_) (fun c_4 => ?_)
  · have hZ := jx_i_pos c_4 hZ
    refine lv_iconst (v := (-1 : Int32)) hx hb dX11_way_35 (by decide) ?_
    exact leave_i hx hb hr hlocks hP hS hZ dX11_way_36
  · have hZ := jx_i_neg c_4 hZ
    refine lv_iload_n hx hb dX11_way_11 rfl (lv_at hl 2 rfl) ?_
    obtain ⟨r_7, S_5, hc_6, hZ⟩ := jx_b2_some hZ
    refine call_Si SX_ok sameX ⟨hx, hb, hml, hown, hts⟩ (c_X11_isChange l D q k x2 S_1 _ (r_7, S_5)  hc_6) (va_cwS 1 hts gX11_way_X11_isChange rfl rfl rfl hd_X11_isChange ⟨Nat.le_of_ble_eq_true rfl, Nat.le_of_ble_eq_true rfl⟩) hK hP hD hS hA hsp (As := [.int x2]) rfl hl.1 rfl (Nat.le_of_ble_eq_true rfl) dX11_way_12 ⟨Nat.zero_le _, Nat.zero_le _⟩ (fun H locs hP hD hS => ?_)
    refine lv_if_eq (tgt := 35) hx hb dX11_way_15 (by decide) (fun c_8 => ?_) (fun c_8 => ?_)
    · have hZ := jx_i_pos c_8 hZ
      refine lv_iconst (v := (-1 : Int32)) hx hb dX11_way_35 (by decide) ?_
      exact leave_i hx hb hr hlocks hP hS hZ dX11_way_36
    · have hZ := jx_i_neg c_8 hZ
      refine lv_iload_n hx hb dX11_way_18 rfl (lv_at hl 3 rfl) ?_
      obtain ⟨r_11, S_9, hc_10, hZ⟩ := jx_b2_some hZ
      refine call_Si SX_ok sameX ⟨hx, hb, hml, hown, hts⟩ (c_X11_isDay l D q k x3 S_5 _ (r_11, S_9)  hc_10) (va_cwS 1 hts gX11_way_X11_isDay rfl rfl rfl hd_X11_isDay ⟨Nat.le_of_ble_eq_true rfl, Nat.le_of_ble_eq_true rfl⟩) hK hP hD hS hA hsp (As := [.int x3]) rfl hl.1 rfl (Nat.le_of_ble_eq_true rfl) dX11_way_19 ⟨Nat.zero_le _, Nat.zero_le _⟩ (fun H locs hP hD hS => ?_)
      refine lv_if_eq (tgt := 35) hx hb dX11_way_22 (by decide) (fun c_12 => ?_) (fun c_12 => ?_)
      · have hZ := jx_i_pos c_12 hZ
        refine lv_iconst (v := (-1 : Int32)) hx hb dX11_way_35 (by decide) ?_
        exact leave_i hx hb hr hlocks hP hS hZ dX11_way_36
      · have hZ := jx_i_neg c_12 hZ
        refine lv_iload hx hb dX11_way_25 (lv_at hl 4 rfl) ?_
        refine lv_iconst (v := (0 : Int32)) hx hb dX11_way_27 (by decide) ?_
        refine lv_iconst (v := (1 : Int32)) hx hb dX11_way_28 (by decide) ?_
        obtain ⟨r_15, S_13, hc_14, hZ⟩ := jx_b2_some hZ
        refine call_Si SX_ok sameX ⟨hx, hb, hml, hown, hts⟩ (c_X11_within l D q k x4 (0 : Int32) (1 : Int32) S_9 _ (r_15, S_13)  hc_14) (va_cwS 3 hts gX11_way_X11_within rfl rfl rfl hd_X11_within ⟨Nat.le_of_ble_eq_true rfl, Nat.le_of_ble_eq_true rfl⟩) hK hP hD hS hA hsp (As := [.int x4, .int (0 : Int32), .int (1 : Int32)]) rfl hl.1 rfl (Nat.le_of_ble_eq_true rfl) dX11_way_29 ⟨Nat.zero_le _, Nat.zero_le _⟩ (fun H locs hP hD hS => ?_)
        refine lv_if_ne (tgt := 37) hx hb dX11_way_32 (by decide) (fun c_16 => ?_) (fun c_16 => ?_)
        · have hZ := jx_i_neg c_16 hZ
          refine lv_aload_n hx hb dX11_way_37 rfl (lv_at hl 0 rfl) ?_
          refine gf_11_office hx hb hts in11 hown hK hP (hts (.fieldLink RX11 40 "CoinsOfLast" "office" "LCoinsOfLast$Window;") (List.mem_of_getElem? (i := 1) rfl)) dX11_way_38 ?_
          refine lv_iload_n hx hb dX11_way_41 rfl (lv_at hl 1 rfl) ?_
          refine lv_iload_n hx hb dX11_way_42 rfl (lv_at hl 2 rfl) ?_
          refine lv_bipush (v := (10 : Int32)) hx hb dX11_way_43 (by decide) ?_
          obtain ⟨c_17, hZ⟩ := jx_d_some hZ
          refine lv_idiv hx hb dX11_way_45 c_17 ?_
          refine lv_iload_n hx hb dX11_way_46 rfl (lv_at hl 2 rfl) ?_
          refine lv_bipush (v := (10 : Int32)) hx hb dX11_way_47 (by decide) ?_
          obtain ⟨c_18, hZ⟩ := jx_d_some hZ
          refine lv_irem hx hb dX11_way_49 c_18 ?_
          refine lv_iload_n hx hb dX11_way_50 rfl (lv_at hl 3 rfl) ?_
          obtain ⟨S_19, hc_20, hZ⟩ := jx_b_some hZ
          refine call_Vv SX_ok sameX ⟨hx, hb, hml, hown, hts⟩ (c_X10_search l D q k x1 (x2 / (10 : Int32)) (x2 - x2 / (10 : Int32) * (10 : Int32)) x3 S_13 _ S_19  hc_20) (cwV 4 hts gX11_way_X10_search rfl rfl rfl hd_X10_search ⟨Nat.le_of_ble_eq_true rfl, Nat.le_of_ble_eq_true rfl⟩) hK hP hD hS hA hsp (va_recv hK hP (ci := 10) (q0 := 21) rfl wX_21) (As := [.int x1, .int (x2 / (10 : Int32)), .int (x2 - x2 / (10 : Int32) * (10 : Int32)), .int x3]) rfl hl.1 rfl (Nat.le_of_ble_eq_true rfl) dX11_way_51 ⟨Nat.zero_le _, Nat.zero_le _⟩ (fun H locs hP hD hS => ?_)
          refine lv_iload hx hb dX11_way_54 (lv_at hl 4 rfl) ?_
          refine lv_if_ne (tgt := 69) hx hb dX11_way_56 (by decide) (fun c_21 => ?_) (fun c_21 => ?_)
          · have hZ := jx_i_neg c_21 hZ
            refine lv_aload_n hx hb dX11_way_69 rfl (lv_at hl 0 rfl) ?_
            refine gf_11_office hx hb hts in11 hown hK hP (hts (.fieldLink RX11 40 "CoinsOfLast" "office" "LCoinsOfLast$Window;") (List.mem_of_getElem? (i := 1) rfl)) dX11_way_70 ?_
            refine gn_10_digits hx hb hts in10 hown hK hP (hsp.1 _ (List.mem_of_getElem? (i := 39) rfl)) dX11_way_73 ?_
            exact leave_i hx hb hr hlocks hP hS hZ dX11_way_76
          · have hZ := jx_i_pos c_21 hZ
            refine lv_aload_n hx hb dX11_way_59 rfl (lv_at hl 0 rfl) ?_
            refine gf_11_office hx hb hts in11 hown hK hP (hts (.fieldLink RX11 40 "CoinsOfLast" "office" "LCoinsOfLast$Window;") (List.mem_of_getElem? (i := 1) rfl)) dX11_way_60 ?_
            refine gn_10_most hx hb hts in10 hown hK hP (hsp.1 _ (List.mem_of_getElem? (i := 38) rfl)) dX11_way_63 ?_
            refine lv_goto (tgt := 76) hx hb dX11_way_66 (by decide) ?_
            exact leave_i hx hb hr hlocks hP hS hZ dX11_way_76
        · have hZ := jx_i_pos c_16 hZ
          refine lv_iconst (v := (-1 : Int32)) hx hb dX11_way_35 (by decide) ?_
          exact leave_i hx hb hr hlocks hP hS hZ dX11_way_36
-- X11_round
def f_X11_round (x1 : Int32) (x2 : Int32) (x3 : Int32) (x4 : Int32) (S : St) : Option (Int32 × St) :=
  jx_b2 (f_X11_within x1 (0 : Int32) (9999 : Int32) S) (fun r_3 S_1 => (if r_3 = 0 then some ((-1 : Int32), S_1) else jx_b2 (f_X11_isLand x2 S_1) (fun r_7 S_5 => (if r_7 = 0 then some ((-1 : Int32), S_5) else jx_b2 (f_X11_isDay x3 S_5) (fun r_11 S_9 => (if r_11 = 0 then some ((-1 : Int32), S_9) else jx_b2 (f_X11_within x4 (0 : Int32) (1 : Int32) S_9) (fun r_15 S_13 => (if r_15 = 0 then some ((-1 : Int32), S_13) else jx_b (f_X10_search x1 x2 x2 x3 S_13) (fun S_17 => (if x4 = 0 then some ((S_17.1 21 4), S_17) else some ((S_17.1 21 5), S_17)))))))))))
set_option maxHeartbeats 4000000 in
set_option maxRecDepth 100000 in
theorem c_X11_round (l : Launch) (D : va_G) (q : Nat → Nat) (k : CI) (x1 : Int32) (x2 : Int32) (x3 : Int32) (x4 : Int32) (S : St) (sz : Nat) (Z : Int32 × St) (hZ : f_X11_round x1 x2 x3 x4 S = some Z) : MetI W_X SX l yX11_round wsX11_round { frames := 42, cells := 0, slots := 0, locals := 1066 } [.ref (q 0), .int x1, .int x2, .int x3, .int x4] D q k S sz Z := by
  refine enter (cc := cX11_round) (maxL := 5) (ret := some .int) (by decide) rfl (Nat.le_of_ble_eq_true rfl) ?_
  intro p e s m below meth c A ls hx hb hr hts hown hlocks hml hP hK hD hA hS hsp hAe hl
  have hown : s.vm.findClass RX11 = some m.cls := hown
  have hl : lv_has ls 5 [(0, .ref (q 0)), (1, .int x1), (2, .int x2), (3, .int x3), (4, .int x4)] := hl
  have in10 : ∀ w ∈ wsX100, w ∈ wsX11_round := fun _ h => (List.mem_cons_of_mem _ (List.mem_append_left _ (List.mem_append_right _ h)))
  have in11 : ∀ w ∈ wsX110, w ∈ wsX11_round := fun _ h => (List.mem_cons_of_mem _ (List.mem_append_left _ (List.mem_append_left _ (List.mem_append_right _ h))))
  unfold f_X11_round at hZ
  refine lv_iload_n hx hb dX11_round_0 rfl (lv_at hl 1 rfl) ?_
  refine lv_iconst (v := (0 : Int32)) hx hb dX11_round_1 (by decide) ?_
  refine lv_sipush (v := (9999 : Int32)) hx hb dX11_round_2 (by decide) ?_
  obtain ⟨r_3, S_1, hc_2, hZ⟩ := jx_b2_some hZ
  refine call_Si SX_ok sameX ⟨hx, hb, hml, hown, hts⟩ (c_X11_within l D q k x1 (0 : Int32) (9999 : Int32) S _ (r_3, S_1)  hc_2) (va_cwS 3 hts gX11_round_X11_within rfl rfl rfl hd_X11_within ⟨Nat.le_of_ble_eq_true rfl, Nat.le_of_ble_eq_true rfl⟩) hK hP hD hS hA hsp (As := [.int x1, .int (0 : Int32), .int (9999 : Int32)]) rfl hl.1 rfl (Nat.le_of_ble_eq_true rfl) dX11_round_5 ⟨Nat.zero_le _, Nat.zero_le _⟩ (fun H locs hP hD hS => ?_)
  refine lv_if_eq (tgt := 35) hx hb dX11_round_8 (by decide) (fun c_4 => ?_) (fun c_4 => ?_)
  · have hZ := jx_i_pos c_4 hZ
    refine lv_iconst (v := (-1 : Int32)) hx hb dX11_round_35 (by decide) ?_
    exact leave_i hx hb hr hlocks hP hS hZ dX11_round_36
  · have hZ := jx_i_neg c_4 hZ
    refine lv_iload_n hx hb dX11_round_11 rfl (lv_at hl 2 rfl) ?_
    obtain ⟨r_7, S_5, hc_6, hZ⟩ := jx_b2_some hZ
    refine call_Si SX_ok sameX ⟨hx, hb, hml, hown, hts⟩ (c_X11_isLand l D q k x2 S_1 _ (r_7, S_5)  hc_6) (va_cwS 1 hts gX11_round_X11_isLand rfl rfl rfl hd_X11_isLand ⟨Nat.le_of_ble_eq_true rfl, Nat.le_of_ble_eq_true rfl⟩) hK hP hD hS hA hsp (As := [.int x2]) rfl hl.1 rfl (Nat.le_of_ble_eq_true rfl) dX11_round_12 ⟨Nat.zero_le _, Nat.zero_le _⟩ (fun H locs hP hD hS => ?_)
    refine lv_if_eq (tgt := 35) hx hb dX11_round_15 (by decide) (fun c_8 => ?_) (fun c_8 => ?_)
    · have hZ := jx_i_pos c_8 hZ
      refine lv_iconst (v := (-1 : Int32)) hx hb dX11_round_35 (by decide) ?_
      exact leave_i hx hb hr hlocks hP hS hZ dX11_round_36
    · have hZ := jx_i_neg c_8 hZ
      refine lv_iload_n hx hb dX11_round_18 rfl (lv_at hl 3 rfl) ?_
      obtain ⟨r_11, S_9, hc_10, hZ⟩ := jx_b2_some hZ
      refine call_Si SX_ok sameX ⟨hx, hb, hml, hown, hts⟩ (c_X11_isDay l D q k x3 S_5 _ (r_11, S_9)  hc_10) (va_cwS 1 hts gX11_round_X11_isDay rfl rfl rfl hd_X11_isDay ⟨Nat.le_of_ble_eq_true rfl, Nat.le_of_ble_eq_true rfl⟩) hK hP hD hS hA hsp (As := [.int x3]) rfl hl.1 rfl (Nat.le_of_ble_eq_true rfl) dX11_round_19 ⟨Nat.zero_le _, Nat.zero_le _⟩ (fun H locs hP hD hS => ?_)
      refine lv_if_eq (tgt := 35) hx hb dX11_round_22 (by decide) (fun c_12 => ?_) (fun c_12 => ?_)
      · have hZ := jx_i_pos c_12 hZ
        refine lv_iconst (v := (-1 : Int32)) hx hb dX11_round_35 (by decide) ?_
        exact leave_i hx hb hr hlocks hP hS hZ dX11_round_36
      · have hZ := jx_i_neg c_12 hZ
        refine lv_iload hx hb dX11_round_25 (lv_at hl 4 rfl) ?_
        refine lv_iconst (v := (0 : Int32)) hx hb dX11_round_27 (by decide) ?_
        refine lv_iconst (v := (1 : Int32)) hx hb dX11_round_28 (by decide) ?_
        obtain ⟨r_15, S_13, hc_14, hZ⟩ := jx_b2_some hZ
        refine call_Si SX_ok sameX ⟨hx, hb, hml, hown, hts⟩ (c_X11_within l D q k x4 (0 : Int32) (1 : Int32) S_9 _ (r_15, S_13)  hc_14) (va_cwS 3 hts gX11_round_X11_within rfl rfl rfl hd_X11_within ⟨Nat.le_of_ble_eq_true rfl, Nat.le_of_ble_eq_true rfl⟩) hK hP hD hS hA hsp (As := [.int x4, .int (0 : Int32), .int (1 : Int32)]) rfl hl.1 rfl (Nat.le_of_ble_eq_true rfl) dX11_round_29 ⟨Nat.zero_le _, Nat.zero_le _⟩ (fun H locs hP hD hS => ?_)
        refine lv_if_ne (tgt := 37) hx hb dX11_round_32 (by decide) (fun c_16 => ?_) (fun c_16 => ?_)
        · have hZ := jx_i_neg c_16 hZ
          refine lv_aload_n hx hb dX11_round_37 rfl (lv_at hl 0 rfl) ?_
          refine gf_11_office hx hb hts in11 hown hK hP (hts (.fieldLink RX11 40 "CoinsOfLast" "office" "LCoinsOfLast$Window;") (List.mem_of_getElem? (i := 1) rfl)) dX11_round_38 ?_
          refine lv_iload_n hx hb dX11_round_41 rfl (lv_at hl 1 rfl) ?_
          refine lv_iload_n hx hb dX11_round_42 rfl (lv_at hl 2 rfl) ?_
          refine lv_iload_n hx hb dX11_round_43 rfl (lv_at hl 2 rfl) ?_
          refine lv_iload_n hx hb dX11_round_44 rfl (lv_at hl 3 rfl) ?_
          obtain ⟨S_17, hc_18, hZ⟩ := jx_b_some hZ
          refine call_Vv SX_ok sameX ⟨hx, hb, hml, hown, hts⟩ (c_X10_search l D q k x1 x2 x2 x3 S_13 _ S_17  hc_18) (cwV 4 hts gX11_round_X10_search rfl rfl rfl hd_X10_search ⟨Nat.le_of_ble_eq_true rfl, Nat.le_of_ble_eq_true rfl⟩) hK hP hD hS hA hsp (va_recv hK hP (ci := 10) (q0 := 21) rfl wX_21) (As := [.int x1, .int x2, .int x2, .int x3]) rfl hl.1 rfl (Nat.le_of_ble_eq_true rfl) dX11_round_45 ⟨Nat.zero_le _, Nat.zero_le _⟩ (fun H locs hP hD hS => ?_)
          refine lv_iload hx hb dX11_round_48 (lv_at hl 4 rfl) ?_
          refine lv_if_ne (tgt := 63) hx hb dX11_round_50 (by decide) (fun c_19 => ?_) (fun c_19 => ?_)
          · have hZ := jx_i_neg c_19 hZ
            refine lv_aload_n hx hb dX11_round_63 rfl (lv_at hl 0 rfl) ?_
            refine gf_11_office hx hb hts in11 hown hK hP (hts (.fieldLink RX11 40 "CoinsOfLast" "office" "LCoinsOfLast$Window;") (List.mem_of_getElem? (i := 1) rfl)) dX11_round_64 ?_
            refine gn_10_digits hx hb hts in10 hown hK hP (hsp.1 _ (List.mem_of_getElem? (i := 39) rfl)) dX11_round_67 ?_
            exact leave_i hx hb hr hlocks hP hS hZ dX11_round_70
          · have hZ := jx_i_pos c_19 hZ
            refine lv_aload_n hx hb dX11_round_53 rfl (lv_at hl 0 rfl) ?_
            refine gf_11_office hx hb hts in11 hown hK hP (hts (.fieldLink RX11 40 "CoinsOfLast" "office" "LCoinsOfLast$Window;") (List.mem_of_getElem? (i := 1) rfl)) dX11_round_54 ?_
            refine gn_10_most hx hb hts in10 hown hK hP (hsp.1 _ (List.mem_of_getElem? (i := 38) rfl)) dX11_round_57 ?_
            refine lv_goto (tgt := 70) hx hb dX11_round_60 (by decide) ?_
            exact leave_i hx hb hr hlocks hP hS hZ dX11_round_70
        · have hZ := jx_i_pos c_16 hZ
          refine lv_iconst (v := (-1 : Int32)) hx hb dX11_round_35 (by decide) ?_
          exact leave_i hx hb hr hlocks hP hS hZ dX11_round_36
-- X11_waits
def f_X11_waits_127 (x4_28 : Int32) (x5_28 : Int32) (x6_28 : Int32) (S_28 : St) : Option (Int32 × St) :=
  (if x4_28 = 0 then some (x5_28, S_28) else some (x6_28, S_28))
def f_X11_waits_121i67 (x1 : Int32) (x2 : Int32) (x3 : Int32) (x4 : Int32) (x5_41 : Int32) (x6_41 : Int32) (x7_41 : Int32) (S_41 : St) : Option ((Int32 × Int32 × Int32 × St) ⊕ ((Int32 × Int32 × St))) :=
  jx_l (x7_41 + 1) (fun x7_42 => some (.inl (x5_41, x6_41, x7_42, S_41)))
def b_X11_waits_67 (x1 : Int32) (x2 : Int32) (x3 : Int32) (x4 : Int32) (x5 : Int32) (x6 : Int32) (x7 : Int32) (S : St) : Option ((Int32 × Int32 × Int32 × St) ⊕ ((Int32 × Int32 × St))) :=
  jx_d (100 : Int32) ((if (x3 - x3 / (100 : Int32) * (100 : Int32)) < x7 then some (.inr (x5, x6, S)) else jx_d (10 : Int32) (jx_d (10 : Int32) (jx_d (100 : Int32) (jx_b2 (f_X10_changed x1 (x2 / (10 : Int32)) (x2 - x2 / (10 : Int32) * (10 : Int32)) ((x3 / (100 : Int32)) + x7) S) (fun r_39 S_37 => (if r_39 ≤ x6 then f_X11_waits_121i67 x1 x2 x3 x4 x5 x6 x7 S_37 else jx_d (100 : Int32) (jx_l ((x3 / (100 : Int32)) + x7) (fun x5_45 => f_X11_waits_121i67 x1 x2 x3 x4 x5_45 r_39 x7 S_37)))))))))
def g_X11_waits_67 (x1 : Int32) (x2 : Int32) (x3 : Int32) (x4 : Int32) : (Int32 × Int32 × Int32 × St) → Option ((Int32 × Int32 × Int32 × St) ⊕ ((Int32 × Int32 × St))) := fun z => b_X11_waits_67 x1 x2 x3 x4 z.1 z.2.1 z.2.2.1 z.2.2.2
def f_X11_waits (x1 : Int32) (x2 : Int32) (x3 : Int32) (x4 : Int32) (S : St) : Option (Int32 × St) :=
  jx_b2 (f_X11_within x1 (0 : Int32) (9999 : Int32) S) (fun r_3 S_1 => (if r_3 = 0 then some ((-1 : Int32), S_1) else jx_b2 (f_X11_isChange x2 S_1) (fun r_7 S_5 => (if r_7 = 0 then some ((-1 : Int32), S_5) else (if x3 < 0 then some ((-1 : Int32), S_5) else jx_b2 (f_X11_within x4 (0 : Int32) (1 : Int32) S_5) (fun r_12 S_10 => (if r_12 = 0 then some ((-1 : Int32), S_10) else jx_d (100 : Int32) (jx_b2 (f_X11_isDay (x3 / (100 : Int32)) S_10) (fun r_17 S_15 => (if r_17 = 0 then some ((-1 : Int32), S_15) else jx_d (100 : Int32) ((if (x3 - x3 / (100 : Int32) * (100 : Int32)) ≤ (60 : Int32) then jx_d (100 : Int32) (jx_l (x3 / (100 : Int32)) (fun x5_22 => jx_b (jx_w (g_X11_waits_67 x1 x2 x3 x4) FU (x5_22, (-1 : Int32), (0 : Int32), S_15)) (fun z => f_X11_waits_127 x4 z.1 z.2.1 z.2.2))) else some ((-1 : Int32), S_15)))))))))))))
set_option maxHeartbeats 4000000 in
set_option maxRecDepth 100000 in
theorem c_X11_waits (l : Launch) (D : va_G) (q : Nat → Nat) (k : CI) (x1 : Int32) (x2 : Int32) (x3 : Int32) (x4 : Int32) (S : St) (sz : Nat) (Z : Int32 × St) (hZ : f_X11_waits x1 x2 x3 x4 S = some Z) : MetI W_X SX l yX11_waits wsX11_waits { frames := 4, cells := 0, slots := 0, locals := 99 } [.ref (q 0), .int x1, .int x2, .int x3, .int x4] D q k S sz Z := by
  refine enter (cc := cX11_waits) (maxL := 9) (ret := some .int) (by decide) rfl (Nat.le_of_ble_eq_true rfl) ?_
  intro p e s m below meth c A ls hx hb hr hts hown hlocks hml hP hK hD hA hS hsp hAe hl
  have hown : s.vm.findClass RX11 = some m.cls := hown
  have hl : lv_has ls 9 [(0, .ref (q 0)), (1, .int x1), (2, .int x2), (3, .int x3), (4, .int x4)] := hl
  have in11 : ∀ w ∈ wsX110, w ∈ wsX11_waits := fun _ h => (List.mem_cons_of_mem _ (List.mem_append_left _ (List.mem_append_left _ (List.mem_append_right _ h))))
  have j127 : ∀ (x4_28 : Int32) (x5_28 : Int32) (x6_28 : Int32) (S_28 : St)  (H : Heap) (locs : List Loc) (hZ : f_X11_waits_127 x4_28 x5_28 x6_28 S_28 = some Z) (hP : va_P D vwCl (W_X q k S_28) H) (hD : va_D A (W_X q k S_28)) (hS : va_S A s.heap H locs) (ls : Array Slot) (hl : lv_has ls 9 [(4, .int x4_28), (5, .int x5_28), (6, .int x6_28)]), W p l e ({ frames := 4, cells := 0, slots := 0, locals := 99 } : Room) s m ([.ref (q 0), .int x1, .int x2, .int x3, .int x4] : List Value).toArray below meth c H locs 0 0 (MQ below (va_Qi (fun r u => (r, u) = Z) (fun u t => va_P D vwCl (W_X q k u) t.heap) A) ([.ref (q 0), .int x1, .int x2, .int x3, .int x4] : List Value).toArray s 0 0 A) (F0 m 127 ls []) := by
    intro x4_28 x5_28 x6_28 S_28   H locs hZ hP hD hS ls hl
    unfold f_X11_waits_127 at hZ
    refine lv_iload hx hb dX11_waits_127 (lv_at hl 0 rfl) ?_
    refine lv_if_ne (tgt := 137) hx hb dX11_waits_129 (by decide) (fun c_29 => ?_) (fun c_29 => ?_)
    · have hZ := jx_i_neg c_29 hZ
      refine lv_iload hx hb dX11_waits_137 (lv_at hl 2 rfl) ?_
      exact leave_i hx hb hr hlocks hP hS hZ dX11_waits_139
    · have hZ := jx_i_pos c_29 hZ
      refine lv_iload hx hb dX11_waits_132 (lv_at hl 1 rfl) ?_
      refine lv_goto (tgt := 139) hx hb dX11_waits_134 (by decide) ?_
      exact leave_i hx hb hr hlocks hP hS hZ dX11_waits_139
  unfold f_X11_waits at hZ
  refine lv_iload_n hx hb dX11_waits_0 rfl (lv_at hl 1 rfl) ?_
  refine lv_iconst (v := (0 : Int32)) hx hb dX11_waits_1 (by decide) ?_
  refine lv_sipush (v := (9999 : Int32)) hx hb dX11_waits_2 (by decide) ?_
  obtain ⟨r_3, S_1, hc_2, hZ⟩ := jx_b2_some hZ
  refine call_Si SX_ok sameX ⟨hx, hb, hml, hown, hts⟩ (c_X11_within l D q k x1 (0 : Int32) (9999 : Int32) S _ (r_3, S_1)  hc_2) (va_cwS 3 hts gX11_waits_X11_within rfl rfl rfl hd_X11_within ⟨Nat.le_of_ble_eq_true rfl, Nat.le_of_ble_eq_true rfl⟩) hK hP hD hS hA hsp (As := [.int x1, .int (0 : Int32), .int (9999 : Int32)]) rfl hl.1 rfl (Nat.le_of_ble_eq_true rfl) dX11_waits_5 ⟨Nat.zero_le _, Nat.zero_le _⟩ (fun H locs hP hD hS => ?_)
  refine lv_if_eq (tgt := 32) hx hb dX11_waits_8 (by decide) (fun c_4 => ?_) (fun c_4 => ?_)
  · have hZ := jx_i_pos c_4 hZ
    refine lv_iconst (v := (-1 : Int32)) hx hb dX11_waits_32 (by decide) ?_
    exact leave_i hx hb hr hlocks hP hS hZ dX11_waits_33
  · have hZ := jx_i_neg c_4 hZ
    refine lv_iload_n hx hb dX11_waits_11 rfl (lv_at hl 2 rfl) ?_
    obtain ⟨r_7, S_5, hc_6, hZ⟩ := jx_b2_some hZ
    refine call_Si SX_ok sameX ⟨hx, hb, hml, hown, hts⟩ (c_X11_isChange l D q k x2 S_1 _ (r_7, S_5)  hc_6) (va_cwS 1 hts gX11_waits_X11_isChange rfl rfl rfl hd_X11_isChange ⟨Nat.le_of_ble_eq_true rfl, Nat.le_of_ble_eq_true rfl⟩) hK hP hD hS hA hsp (As := [.int x2]) rfl hl.1 rfl (Nat.le_of_ble_eq_true rfl) dX11_waits_12 ⟨Nat.zero_le _, Nat.zero_le _⟩ (fun H locs hP hD hS => ?_)
    refine lv_if_eq (tgt := 32) hx hb dX11_waits_15 (by decide) (fun c_8 => ?_) (fun c_8 => ?_)
    · have hZ := jx_i_pos c_8 hZ
      refine lv_iconst (v := (-1 : Int32)) hx hb dX11_waits_32 (by decide) ?_
      exact leave_i hx hb hr hlocks hP hS hZ dX11_waits_33
    · have hZ := jx_i_neg c_8 hZ
      refine lv_iload_n hx hb dX11_waits_18 rfl (lv_at hl 3 rfl) ?_
      refine lv_if_lt (tgt := 32) hx hb dX11_waits_19 (by decide) (fun c_9 => ?_) (fun c_9 => ?_)
      · have hZ := jx_i_pos c_9 hZ
        refine lv_iconst (v := (-1 : Int32)) hx hb dX11_waits_32 (by decide) ?_
        exact leave_i hx hb hr hlocks hP hS hZ dX11_waits_33
      · have hZ := jx_i_neg c_9 hZ
        refine lv_iload hx hb dX11_waits_22 (lv_at hl 4 rfl) ?_
        refine lv_iconst (v := (0 : Int32)) hx hb dX11_waits_24 (by decide) ?_
        refine lv_iconst (v := (1 : Int32)) hx hb dX11_waits_25 (by decide) ?_
        obtain ⟨r_12, S_10, hc_11, hZ⟩ := jx_b2_some hZ
        refine call_Si SX_ok sameX ⟨hx, hb, hml, hown, hts⟩ (c_X11_within l D q k x4 (0 : Int32) (1 : Int32) S_5 _ (r_12, S_10)  hc_11) (va_cwS 3 hts gX11_waits_X11_within rfl rfl rfl hd_X11_within ⟨Nat.le_of_ble_eq_true rfl, Nat.le_of_ble_eq_true rfl⟩) hK hP hD hS hA hsp (As := [.int x4, .int (0 : Int32), .int (1 : Int32)]) rfl hl.1 rfl (Nat.le_of_ble_eq_true rfl) dX11_waits_26 ⟨Nat.zero_le _, Nat.zero_le _⟩ (fun H locs hP hD hS => ?_)
        refine lv_if_ne (tgt := 34) hx hb dX11_waits_29 (by decide) (fun c_13 => ?_) (fun c_13 => ?_)
        · have hZ := jx_i_neg c_13 hZ
          refine lv_iload_n hx hb dX11_waits_34 rfl (lv_at hl 3 rfl) ?_
          refine lv_bipush (v := (100 : Int32)) hx hb dX11_waits_35 (by decide) ?_
          obtain ⟨c_14, hZ⟩ := jx_d_some hZ
          refine lv_idiv hx hb dX11_waits_37 c_14 ?_
          obtain ⟨r_17, S_15, hc_16, hZ⟩ := jx_b2_some hZ
          refine call_Si SX_ok sameX ⟨hx, hb, hml, hown, hts⟩ (c_X11_isDay l D q k (x3 / (100 : Int32)) S_10 _ (r_17, S_15)  hc_16) (va_cwS 1 hts gX11_waits_X11_isDay rfl rfl rfl hd_X11_isDay ⟨Nat.le_of_ble_eq_true rfl, Nat.le_of_ble_eq_true rfl⟩) hK hP hD hS hA hsp (As := [.int (x3 / (100 : Int32))]) rfl hl.1 rfl (Nat.le_of_ble_eq_true rfl) dX11_waits_38 ⟨Nat.zero_le _, Nat.zero_le _⟩ (fun H locs hP hD hS => ?_)
          refine lv_if_eq (tgt := 53) hx hb dX11_waits_41 (by decide) (fun c_18 => ?_) (fun c_18 => ?_)
          · have hZ := jx_i_pos c_18 hZ
            refine lv_iconst (v := (-1 : Int32)) hx hb dX11_waits_53 (by decide) ?_
            exact leave_i hx hb hr hlocks hP hS hZ dX11_waits_54
          · have hZ := jx_i_neg c_18 hZ
            refine lv_iload_n hx hb dX11_waits_44 rfl (lv_at hl 3 rfl) ?_
            refine lv_bipush (v := (100 : Int32)) hx hb dX11_waits_45 (by decide) ?_
            obtain ⟨c_19, hZ⟩ := jx_d_some hZ
            refine lv_irem hx hb dX11_waits_47 c_19 ?_
            refine lv_bipush (v := (60 : Int32)) hx hb dX11_waits_48 (by decide) ?_
            refine lv_icmp_le (tgt := 55) hx hb dX11_waits_50 (by decide) (fun c_20 => ?_) (fun c_20 => ?_)
            · have hZ := jx_i_pos c_20 hZ
              refine lv_iload_n hx hb dX11_waits_55 rfl (lv_at hl 3 rfl) ?_
              refine lv_bipush (v := (100 : Int32)) hx hb dX11_waits_56 (by decide) ?_
              obtain ⟨c_21, hZ⟩ := jx_d_some hZ
              refine lv_idiv hx hb dX11_waits_58 c_21 ?_
              obtain ⟨x5_22, e_x5_22, hZ⟩ := jx_l_some hZ
              refine tx_i e_x5_22 ?_
              refine lv_istore (lv' := [(5, .int x5_22), (0, .ref (q 0)), (1, .int x1), (2, .int x2), (3, .int x3), (4, .int x4)]) hx hb dX11_waits_59 hl (by decide) rfl (fun ls hl => ?_)
              refine lv_iconst (v := (-1 : Int32)) hx hb dX11_waits_61 (by decide) ?_
              refine lv_istore (lv' := [(6, .int (-1 : Int32)), (5, .int x5_22), (0, .ref (q 0)), (1, .int x1), (2, .int x2), (3, .int x3), (4, .int x4)]) hx hb dX11_waits_62 hl (by decide) rfl (fun ls hl => ?_)
              refine lv_iconst (v := (0 : Int32)) hx hb dX11_waits_64 (by decide) ?_
              refine lv_istore (lv' := [(7, .int (0 : Int32)), (6, .int (-1 : Int32)), (5, .int x5_22), (0, .ref (q 0)), (1, .int x1), (2, .int x2), (3, .int x3), (4, .int x4)]) hx hb dX11_waits_65 hl (by decide) rfl (fun ls hl => ?_)
              obtain ⟨r_27, hw, hza_27⟩ := jx_b_some hZ
              have l_27 : ∀ (nn : Nat) (x5_23 : Int32) (x6_24 : Int32) (x7_25 : Int32) (S_26 : St) (H : Heap) (locs : List Loc) (hw : jx_w (g_X11_waits_67 x1 x2 x3 x4) nn (x5_23, x6_24, x7_25, S_26) = some r_27) (hP : va_P D vwCl (W_X q k S_26) H) (hD : va_D A (W_X q k S_26)) (hS : va_S A s.heap H locs) (ls : Array Slot) (hl : lv_has ls 9 [(0, .ref (q 0)), (1, .int x1), (2, .int x2), (3, .int x3), (4, .int x4), (5, .int x5_23), (6, .int x6_24), (7, .int x7_25)]), W p l e ({ frames := 4, cells := 0, slots := 0, locals := 99 } : Room) s m ([.ref (q 0), .int x1, .int x2, .int x3, .int x4] : List Value).toArray below meth c H locs 0 0 (MQ below (va_Qi (fun r u => (r, u) = Z) (fun u t => va_P D vwCl (W_X q k u) t.heap) A) ([.ref (q 0), .int x1, .int x2, .int x3, .int x4] : List Value).toArray s 0 0 A) (F0 m 67 ls []) := by
                intro nn
                induction nn with
                | zero =>
                  intro x5_23 x6_24 x7_25 S_26 H locs hw hP hD hS ls hl
                  exact jx_w_zero hw
                | succ n_27 ih_27 =>
                  intro x5_23 x6_24 x7_25 S_26 H locs hw hP hD hS ls hl
                  obtain ⟨o_27, hZ, hk_27⟩ := jx_w_succ hw
                  have hZ : b_X11_waits_67 x1 x2 x3 x4 x5_23 x6_24 x7_25 S_26 = some o_27 := hZ
                  have j121i67 : ∀ (x5_57 : Int32) (x6_57 : Int32) (x7_57 : Int32) (S_57 : St)  (o_27 : (Int32 × Int32 × Int32 × St) ⊕ ((Int32 × Int32 × St))) (hk_27 : jx_k (g_X11_waits_67 x1 x2 x3 x4) n_27 r_27 o_27) (H : Heap) (locs : List Loc) (hZ : f_X11_waits_121i67 x1 x2 x3 x4 x5_57 x6_57 x7_57 S_57 = some o_27) (hP : va_P D vwCl (W_X q k S_57) H) (hD : va_D A (W_X q k S_57)) (hS : va_S A s.heap H locs) (ls : Array Slot) (hl : lv_has ls 9 [(0, .ref (q 0)), (1, .int x1), (2, .int x2), (3, .int x3), (4, .int x4), (5, .int x5_57), (6, .int x6_57), (7, .int x7_57)]), W p l e ({ frames := 4, cells := 0, slots := 0, locals := 99 } : Room) s m ([.ref (q 0), .int x1, .int x2, .int x3, .int x4] : List Value).toArray below meth c H locs 0 0 (MQ below (va_Qi (fun r u => (r, u) = Z) (fun u t => va_P D vwCl (W_X q k u) t.heap) A) ([.ref (q 0), .int x1, .int x2, .int x3, .int x4] : List Value).toArray s 0 0 A) (F0 m 121 ls []) := by
                    intro x5_57 x6_57 x7_57 S_57  o_27 hk_27 H locs hZ hP hD hS ls hl
                    unfold f_X11_waits_121i67 at hZ
                    obtain ⟨x7_58, e_x7_58, hZ⟩ := jx_l_some hZ
                    refine lv_iinc (v := x7_58) (lv' := [(7, .int x7_58), (0, .ref (q 0)), (1, .int x1), (2, .int x2), (3, .int x3), (4, .int x4), (5, .int x5_57), (6, .int x6_57)]) hx hb dX11_waits_121 hl (k := 7) rfl (by rw [e_x7_58]; rfl) (by decide) rfl (fun ls hl => ?_)
                    refine lv_goto (tgt := 67) hx hb dX11_waits_124 (by decide) ?_
                    have ho := Option.some.inj hZ
                    subst ho
                    exact ih_27 x5_57 x6_57 x7_58 S_57 _ _ hk_27 hP hD hS _ (lv_sub hl [1, 2, 3, 4, 5, 6, 7, 0] rfl)
                  unfold b_X11_waits_67 at hZ
                  refine lv_iload hx hb dX11_waits_67 (lv_at hl 7 rfl) ?_
                  refine lv_iload_n hx hb dX11_waits_69 rfl (lv_at hl 3 rfl) ?_
                  refine lv_bipush (v := (100 : Int32)) hx hb dX11_waits_70 (by decide) ?_
                  obtain ⟨c_47, hZ⟩ := jx_d_some hZ
                  refine lv_irem hx hb dX11_waits_72 c_47 ?_
                  refine lv_icmp_gt (tgt := 127) hx hb dX11_waits_73 (by decide) (fun c_48 => ?_) (fun c_48 => ?_)
                  · have hZ := jx_i_pos c_48 hZ
                    have ho := Option.some.inj hZ
                    subst ho
                    have hE := hza_27
                    rw [← (show (x5_23, x6_24, S_26) = r_27 from hk_27)] at hE
                    have hZ : f_X11_waits_127 x4 x5_23 x6_24 S_26 = some Z := hE
                    exact j127 x4 x5_23 x6_24 S_26 _ _ hZ hP hD hS _ (lv_sub hl [4, 5, 6] rfl)
                  · have hZ := jx_i_neg c_48 hZ
                    refine lv_aload_n hx hb dX11_waits_76 rfl (lv_at hl 0 rfl) ?_
                    refine gf_11_office hx hb hts in11 hown hK hP (hts (.fieldLink RX11 40 "CoinsOfLast" "office" "LCoinsOfLast$Window;") (List.mem_of_getElem? (i := 1) rfl)) dX11_waits_77 ?_
                    refine lv_iload_n hx hb dX11_waits_80 rfl (lv_at hl 1 rfl) ?_
                    refine lv_iload_n hx hb dX11_waits_81 rfl (lv_at hl 2 rfl) ?_
                    refine lv_bipush (v := (10 : Int32)) hx hb dX11_waits_82 (by decide) ?_
                    obtain ⟨c_50, hZ⟩ := jx_d_some hZ
                    refine lv_idiv hx hb dX11_waits_84 c_50 ?_
                    refine lv_iload_n hx hb dX11_waits_85 rfl (lv_at hl 2 rfl) ?_
                    refine lv_bipush (v := (10 : Int32)) hx hb dX11_waits_86 (by decide) ?_
                    obtain ⟨c_51, hZ⟩ := jx_d_some hZ
                    refine lv_irem hx hb dX11_waits_88 c_51 ?_
                    refine lv_iload_n hx hb dX11_waits_89 rfl (lv_at hl 3 rfl) ?_
                    refine lv_bipush (v := (100 : Int32)) hx hb dX11_waits_90 (by decide) ?_
                    obtain ⟨c_52, hZ⟩ := jx_d_some hZ
                    refine lv_idiv hx hb dX11_waits_92 c_52 ?_
                    refine lv_iload hx hb dX11_waits_93 (lv_at hl 7 rfl) ?_
                    refine lv_iadd hx hb dX11_waits_95 ?_
                    obtain ⟨r_55, S_53, hc_54, hZ⟩ := jx_b2_some hZ
                    refine call_Vi SX_ok sameX ⟨hx, hb, hml, hown, hts⟩ (c_X10_changed l D q k x1 (x2 / (10 : Int32)) (x2 - x2 / (10 : Int32) * (10 : Int32)) ((x3 / (100 : Int32)) + x7_25) S_26 _ (r_55, S_53)  hc_54) (cwV 4 hts gX11_waits_X10_changed rfl rfl rfl hd_X10_changed ⟨Nat.le_of_ble_eq_true rfl, Nat.le_of_ble_eq_true rfl⟩) hK hP hD hS hA hsp (va_recv hK hP (ci := 10) (q0 := 21) rfl wX_21) (As := [.int x1, .int (x2 / (10 : Int32)), .int (x2 - x2 / (10 : Int32) * (10 : Int32)), .int ((x3 / (100 : Int32)) + x7_25)]) rfl hl.1 rfl (Nat.le_of_ble_eq_true rfl) dX11_waits_96 ⟨Nat.zero_le _, Nat.zero_le _⟩ (fun H locs hP hD hS => ?_)
                    refine lv_istore (lv' := [(8, .int r_55), (0, .ref (q 0)), (1, .int x1), (2, .int x2), (3, .int x3), (4, .int x4), (5, .int x5_23), (6, .int x6_24), (7, .int x7_25)]) hx hb dX11_waits_99 hl (by decide) rfl (fun ls hl => ?_)
                    refine lv_iload hx hb dX11_waits_101 (lv_at hl 0 rfl) ?_
                    refine lv_iload hx hb dX11_waits_103 (lv_at hl 7 rfl) ?_
                    refine lv_icmp_le (tgt := 121) hx hb dX11_waits_105 (by decide) (fun c_56 => ?_) (fun c_56 => ?_)
                    · have hZ := jx_i_pos c_56 hZ
                      exact j121i67 x5_23 x6_24 x7_25 S_53 _ hk_27 _ _ hZ hP hD hS _ (lv_sub hl [1, 2, 3, 4, 5, 6, 7, 8] rfl)
                    · have hZ := jx_i_neg c_56 hZ
                      refine lv_iload hx hb dX11_waits_108 (lv_at hl 0 rfl) ?_
                      refine lv_istore (lv' := [(6, .int r_55), (8, .int r_55), (0, .ref (q 0)), (1, .int x1), (2, .int x2), (3, .int x3), (4, .int x4), (5, .int x5_23), (7, .int x7_25)]) hx hb dX11_waits_110 hl (by decide) rfl (fun ls hl => ?_)
                      refine lv_iload_n hx hb dX11_waits_112 rfl (lv_at hl 5 rfl) ?_
                      refine lv_bipush (v := (100 : Int32)) hx hb dX11_waits_113 (by decide) ?_
                      obtain ⟨c_60, hZ⟩ := jx_d_some hZ
                      refine lv_idiv hx hb dX11_waits_115 c_60 ?_
                      refine lv_iload hx hb dX11_waits_116 (lv_at hl 8 rfl) ?_
                      refine lv_iadd hx hb dX11_waits_118 ?_
                      obtain ⟨x5_61, e_x5_61, hZ⟩ := jx_l_some hZ
                      refine tx_i e_x5_61 ?_
                      refine lv_istore (lv' := [(5, .int x5_61), (6, .int r_55), (8, .int r_55), (0, .ref (q 0)), (1, .int x1), (2, .int x2), (3, .int x3), (4, .int x4), (7, .int x7_25)]) hx hb dX11_waits_119 hl (by decide) rfl (fun ls hl => ?_)
                      exact j121i67 x5_61 r_55 x7_25 S_53 _ hk_27 _ _ hZ hP hD hS _ (lv_sub hl [3, 4, 5, 6, 7, 0, 1, 8] rfl)
              exact l_27 FU x5_22 (-1 : Int32) (0 : Int32) S_15 _ _ hw hP hD hS _ (lv_sub hl [3, 4, 5, 6, 7, 2, 1, 0] rfl)
            · have hZ := jx_i_neg c_20 hZ
              refine lv_iconst (v := (-1 : Int32)) hx hb dX11_waits_53 (by decide) ?_
              exact leave_i hx hb hr hlocks hP hS hZ dX11_waits_54
        · have hZ := jx_i_pos c_13 hZ
          refine lv_iconst (v := (-1 : Int32)) hx hb dX11_waits_32 (by decide) ?_
          exact leave_i hx hb hr hlocks hP hS hZ dX11_waits_33
-- X11_isFair
def f_X11_isFair (x1 : Int32) (x2 : Int32) (x3 : Int32) (x4 : Int32) (x5 : Int32) (S : St) : Option (Int32 × St) :=
  (if x2 = x4 then some ((0 : Int32), S) else jx_a x2 8 ((if (S.1 6 (Int32.toNatClampNeg x2)) < x3 then some ((0 : Int32), S) else jx_a x4 8 ((if ((S.1 6 (Int32.toNatClampNeg x4)) + x5) ≤ (6 : Int32) then jx_a x2 8 (jx_a x2 8 (jx_a x4 8 (jx_b2 (f_X10_exchanged (x3 * (S.1 3 (Int32.toNatClampNeg x2))) (S.1 2 (Int32.toNatClampNeg x2)) (S.1 2 (Int32.toNatClampNeg x4)) x1 S) (fun r_11 S_9 => jx_a x4 8 ((if r_11 < (x5 * (S_9.1 3 (Int32.toNatClampNeg x4))) then some ((0 : Int32), S_9) else some ((1 : Int32), S_9))))))) else some ((0 : Int32), S))))))
set_option maxHeartbeats 4000000 in
set_option maxRecDepth 100000 in
theorem c_X11_isFair (l : Launch) (D : va_G) (q : Nat → Nat) (k : CI) (x1 : Int32) (x2 : Int32) (x3 : Int32) (x4 : Int32) (x5 : Int32) (S : St) (sz : Nat) (Z : Int32 × St) (hZ : f_X11_isFair x1 x2 x3 x4 x5 S = some Z) : MetI W_X SX l yX11_isFair wsX11_isFair { frames := 4, cells := 0, slots := 0, locals := 95 } [.ref (q 0), .int x1, .int x2, .int x3, .int x4, .int x5] D q k S sz Z := by
  refine enter (cc := cX11_isFair) (maxL := 7) (ret := some .boolean) (by decide) rfl (Nat.le_of_ble_eq_true rfl) ?_
  intro p e s m below meth c A ls hx hb hr hts hown hlocks hml hP hK hD hA hS hsp hAe hl
  have hown : s.vm.findClass RX11 = some m.cls := hown
  have hl : lv_has ls 7 [(0, .ref (q 0)), (1, .int x1), (2, .int x2), (3, .int x3), (4, .int x4), (5, .int x5)] := hl
  have in1 : ∀ w ∈ wsX10, w ∈ wsX11_isFair := fun _ h => (List.mem_cons_of_mem _ (List.mem_append_left _ (List.mem_append_left _ (List.mem_append_right _ h))))
  have in11 : ∀ w ∈ wsX110, w ∈ wsX11_isFair := fun _ h => (List.mem_cons_of_mem _ (List.mem_append_left _ (List.mem_append_left _ (List.mem_append_left _ (List.mem_append_right _ h)))))
  unfold f_X11_isFair at hZ
  refine lv_iload_n hx hb dX11_isFair_0 rfl (lv_at hl 2 rfl) ?_
  refine lv_iload hx hb dX11_isFair_1 (lv_at hl 4 rfl) ?_
  refine lv_icmp_eq (tgt := 37) hx hb dX11_isFair_3 (by decide) (fun c_1 => ?_) (fun c_1 => ?_)
  · have hZ := jx_i_pos c_1 hZ
    refine lv_iconst (v := (0 : Int32)) hx hb dX11_isFair_37 (by decide) ?_
    exact leave_z hx hb hr hlocks rfl hP hS hZ dX11_isFair_38
  · have hZ := jx_i_neg c_1 hZ
    refine lv_aload_n hx hb dX11_isFair_6 rfl (lv_at hl 0 rfl) ?_
    refine gf_11_coins hx hb hts in11 hown hK hP (hts (.fieldLink RX11 12 "CoinsOfLast" "coins" "LCoinsOfLast$Coins;") (List.mem_of_getElem? (i := 1) rfl)) dX11_isFair_7 ?_
    refine gn_1_held hx hb hts in1 hown hK hP (hsp.1 _ (List.mem_of_getElem? (i := 10) rfl)) dX11_isFair_10 ?_
    refine lv_iload_n hx hb dX11_isFair_13 rfl (lv_at hl 2 rfl) ?_
    obtain ⟨c_2, hZ⟩ := jx_a_some hZ
    refine X_iald hx hb hK hP wX_6 c_2 dX11_isFair_14 ?_
    refine lv_iload_n hx hb dX11_isFair_15 rfl (lv_at hl 3 rfl) ?_
    refine lv_icmp_lt (tgt := 37) hx hb dX11_isFair_16 (by decide) (fun c_3 => ?_) (fun c_3 => ?_)
    · have hZ := jx_i_pos c_3 hZ
      refine lv_iconst (v := (0 : Int32)) hx hb dX11_isFair_37 (by decide) ?_
      exact leave_z hx hb hr hlocks rfl hP hS hZ dX11_isFair_38
    · have hZ := jx_i_neg c_3 hZ
      refine lv_aload_n hx hb dX11_isFair_19 rfl (lv_at hl 0 rfl) ?_
      refine gf_11_coins hx hb hts in11 hown hK hP (hts (.fieldLink RX11 12 "CoinsOfLast" "coins" "LCoinsOfLast$Coins;") (List.mem_of_getElem? (i := 1) rfl)) dX11_isFair_20 ?_
      refine gn_1_held hx hb hts in1 hown hK hP (hsp.1 _ (List.mem_of_getElem? (i := 10) rfl)) dX11_isFair_23 ?_
      refine lv_iload hx hb dX11_isFair_26 (lv_at hl 4 rfl) ?_
      obtain ⟨c_4, hZ⟩ := jx_a_some hZ
      refine X_iald hx hb hK hP wX_6 c_4 dX11_isFair_28 ?_
      refine lv_iload hx hb dX11_isFair_29 (lv_at hl 5 rfl) ?_
      refine lv_iadd hx hb dX11_isFair_31 ?_
      refine lv_bipush (v := (6 : Int32)) hx hb dX11_isFair_32 (by decide) ?_
      refine lv_icmp_le (tgt := 39) hx hb dX11_isFair_34 (by decide) (fun c_5 => ?_) (fun c_5 => ?_)
      · have hZ := jx_i_pos c_5 hZ
        refine lv_aload_n hx hb dX11_isFair_39 rfl (lv_at hl 0 rfl) ?_
        refine gf_11_office hx hb hts in11 hown hK hP (hts (.fieldLink RX11 40 "CoinsOfLast" "office" "LCoinsOfLast$Window;") (List.mem_of_getElem? (i := 2) rfl)) dX11_isFair_40 ?_
        refine lv_iload_n hx hb dX11_isFair_43 rfl (lv_at hl 3 rfl) ?_
        refine lv_aload_n hx hb dX11_isFair_44 rfl (lv_at hl 0 rfl) ?_
        refine gf_11_coins hx hb hts in11 hown hK hP (hts (.fieldLink RX11 12 "CoinsOfLast" "coins" "LCoinsOfLast$Coins;") (List.mem_of_getElem? (i := 1) rfl)) dX11_isFair_45 ?_
        refine gn_1_worth hx hb hts in1 hown hK hP (hsp.1 _ (List.mem_of_getElem? (i := 5) rfl)) dX11_isFair_48 ?_
        refine lv_iload_n hx hb dX11_isFair_51 rfl (lv_at hl 2 rfl) ?_
        obtain ⟨c_6, hZ⟩ := jx_a_some hZ
        refine X_iald hx hb hK hP wX_3 c_6 dX11_isFair_52 ?_
        refine lv_imul hx hb dX11_isFair_53 ?_
        refine lv_aload_n hx hb dX11_isFair_54 rfl (lv_at hl 0 rfl) ?_
        refine gf_11_coins hx hb hts in11 hown hK hP (hts (.fieldLink RX11 12 "CoinsOfLast" "coins" "LCoinsOfLast$Coins;") (List.mem_of_getElem? (i := 1) rfl)) dX11_isFair_55 ?_
        refine gn_1_land hx hb hts in1 hown hK hP (hsp.1 _ (List.mem_of_getElem? (i := 2) rfl)) dX11_isFair_58 ?_
        refine lv_iload_n hx hb dX11_isFair_61 rfl (lv_at hl 2 rfl) ?_
        obtain ⟨c_7, hZ⟩ := jx_a_some hZ
        refine X_iald hx hb hK hP wX_2 c_7 dX11_isFair_62 ?_
        refine lv_aload_n hx hb dX11_isFair_63 rfl (lv_at hl 0 rfl) ?_
        refine gf_11_coins hx hb hts in11 hown hK hP (hts (.fieldLink RX11 12 "CoinsOfLast" "coins" "LCoinsOfLast$Coins;") (List.mem_of_getElem? (i := 1) rfl)) dX11_isFair_64 ?_
        refine gn_1_land hx hb hts in1 hown hK hP (hsp.1 _ (List.mem_of_getElem? (i := 2) rfl)) dX11_isFair_67 ?_
        refine lv_iload hx hb dX11_isFair_70 (lv_at hl 4 rfl) ?_
        obtain ⟨c_8, hZ⟩ := jx_a_some hZ
        refine X_iald hx hb hK hP wX_2 c_8 dX11_isFair_72 ?_
        refine lv_iload_n hx hb dX11_isFair_73 rfl (lv_at hl 1 rfl) ?_
        obtain ⟨r_11, S_9, hc_10, hZ⟩ := jx_b2_some hZ
        refine call_Vi SX_ok sameX ⟨hx, hb, hml, hown, hts⟩ (c_X10_exchanged l D q k (x3 * (S.1 3 (Int32.toNatClampNeg x2))) (S.1 2 (Int32.toNatClampNeg x2)) (S.1 2 (Int32.toNatClampNeg x4)) x1 S _ (r_11, S_9)  hc_10) (cwV 4 hts gX11_isFair_X10_exchanged rfl rfl rfl hd_X10_exchanged ⟨Nat.le_of_ble_eq_true rfl, Nat.le_of_ble_eq_true rfl⟩) hK hP hD hS hA hsp (va_recv hK hP (ci := 10) (q0 := 21) rfl wX_21) (As := [.int (x3 * (S.1 3 (Int32.toNatClampNeg x2))), .int (S.1 2 (Int32.toNatClampNeg x2)), .int (S.1 2 (Int32.toNatClampNeg x4)), .int x1]) rfl hl.1 rfl (Nat.le_of_ble_eq_true rfl) dX11_isFair_74 ⟨Nat.zero_le _, Nat.zero_le _⟩ (fun H locs hP hD hS => ?_)
        refine lv_istore (lv' := [(6, .int r_11), (0, .ref (q 0)), (1, .int x1), (2, .int x2), (3, .int x3), (4, .int x4), (5, .int x5)]) hx hb dX11_isFair_77 hl (by decide) rfl (fun ls hl => ?_)
        refine lv_iload hx hb dX11_isFair_79 (lv_at hl 0 rfl) ?_
        refine lv_iload hx hb dX11_isFair_81 (lv_at hl 6 rfl) ?_
        refine lv_aload_n hx hb dX11_isFair_83 rfl (lv_at hl 1 rfl) ?_
        refine gf_11_coins hx hb hts in11 hown hK hP (hts (.fieldLink RX11 12 "CoinsOfLast" "coins" "LCoinsOfLast$Coins;") (List.mem_of_getElem? (i := 1) rfl)) dX11_isFair_84 ?_
        refine gn_1_worth hx hb hts in1 hown hK hP (hsp.1 _ (List.mem_of_getElem? (i := 5) rfl)) dX11_isFair_87 ?_
        refine lv_iload hx hb dX11_isFair_90 (lv_at hl 5 rfl) ?_
        obtain ⟨c_12, hZ⟩ := jx_a_some hZ
        refine X_iald hx hb hK hP wX_3 c_12 dX11_isFair_92 ?_
        refine lv_imul hx hb dX11_isFair_93 ?_
        refine lv_icmp_lt (tgt := 101) hx hb dX11_isFair_94 (by decide) (fun c_13 => ?_) (fun c_13 => ?_)
        · have hZ := jx_i_pos c_13 hZ
          refine lv_iconst (v := (0 : Int32)) hx hb dX11_isFair_101 (by decide) ?_
          exact leave_z hx hb hr hlocks rfl hP hS hZ dX11_isFair_102
        · have hZ := jx_i_neg c_13 hZ
          refine lv_iconst (v := (1 : Int32)) hx hb dX11_isFair_97 (by decide) ?_
          refine lv_goto (tgt := 102) hx hb dX11_isFair_98 (by decide) ?_
          exact leave_z hx hb hr hlocks rfl hP hS hZ dX11_isFair_102
      · have hZ := jx_i_neg c_5 hZ
        refine lv_iconst (v := (0 : Int32)) hx hb dX11_isFair_37 (by decide) ?_
        exact leave_z hx hb hr hlocks rfl hP hS hZ dX11_isFair_38
-- X11_helps
def f_X11_helps (x1 : Int32) (x2 : Int32) (x3 : Int32) (x4 : Int32) (x5 : Int32) (S : St) : Option (Int32 × St) :=
  jx_d (10000 : Int32) (jx_l (x1 / (10000 : Int32)) (fun x6_2 => jx_a x4 8 ((if (S.1 2 (Int32.toNatClampNeg x4)) = x6_2 then jx_c (0 : Int32) (0 : Int32) (8 : Int32) 8 8 (jx_l (s1 S 17 (va_cpy (S.1 6) (S.1 17) (Int32.toNatClampNeg (0 : Int32)) (Int32.toNatClampNeg (0 : Int32)) (Int32.toNatClampNeg (8 : Int32)))) (fun S_6 => jx_a x2 8 (jx_a x2 8 (jx_l (u1 S_6 17 (Int32.toNatClampNeg x2) ((S_6.1 17 (Int32.toNatClampNeg x2)) - x3)) (fun S_9 => jx_a x4 8 (jx_a x4 8 (jx_l (u1 S_9 17 (Int32.toNatClampNeg x4) ((S_9.1 17 (Int32.toNatClampNeg x4)) + x5)) (fun S_12 => jx_b (f_X5_spreadc x6_2 S_12) (fun S_13 => jx_d (10000 : Int32) (jx_b2 (f_X5_can (x1 - x1 / (10000 : Int32) * (10000 : Int32)) S_13) (fun r_18 S_16 => jx_z r_18 (some (r_18, S_16))))))))))))) else some ((0 : Int32), S)))))
set_option maxHeartbeats 4000000 in
set_option maxRecDepth 100000 in
theorem c_X11_helps (l : Launch) (D : va_G) (q : Nat → Nat) (k : CI) (x1 : Int32) (x2 : Int32) (x3 : Int32) (x4 : Int32) (x5 : Int32) (S : St) (sz : Nat) (Z : Int32 × St) (hZ : f_X11_helps x1 x2 x3 x4 x5 S = some Z) : MetI W_X SX l yX11_helps wsX11_helps { frames := 2, cells := 0, slots := 0, locals := 50 } [.ref (q 0), .int x1, .int x2, .int x3, .int x4, .int x5] D q k S sz Z := by
  refine enter (cc := cX11_helps) (maxL := 7) (ret := some .boolean) (by decide) rfl (Nat.le_of_ble_eq_true rfl) ?_
  intro p e s m below meth c A ls hx hb hr hts hown hlocks hml hP hK hD hA hS hsp hAe hl
  have hown : s.vm.findClass RX11 = some m.cls := hown
  have hl : lv_has ls 7 [(0, .ref (q 0)), (1, .int x1), (2, .int x2), (3, .int x3), (4, .int x4), (5, .int x5)] := hl
  have in1 : ∀ w ∈ wsX10, w ∈ wsX11_helps := fun _ h => (List.mem_cons_of_mem _ (List.mem_append_left _ (List.mem_append_right _ h)))
  have in5 : ∀ w ∈ wsX50, w ∈ wsX11_helps := fun _ h => (List.mem_cons_of_mem _ (List.mem_append_right _ h))
  have in11 : ∀ w ∈ wsX110, w ∈ wsX11_helps := fun _ h => (List.mem_cons_of_mem _ (List.mem_append_left _ (List.mem_append_left _ (List.mem_append_right _ h))))
  unfold f_X11_helps at hZ
  refine lv_iload_n hx hb dX11_helps_0 rfl (lv_at hl 1 rfl) ?_
  refine lv_sipush (v := (10000 : Int32)) hx hb dX11_helps_1 (by decide) ?_
  obtain ⟨c_1, hZ⟩ := jx_d_some hZ
  refine lv_idiv hx hb dX11_helps_4 c_1 ?_
  obtain ⟨x6_2, e_x6_2, hZ⟩ := jx_l_some hZ
  refine tx_i e_x6_2 ?_
  refine lv_istore (lv' := [(6, .int x6_2), (0, .ref (q 0)), (1, .int x1), (2, .int x2), (3, .int x3), (4, .int x4), (5, .int x5)]) hx hb dX11_helps_5 hl (by decide) rfl (fun ls hl => ?_)
  refine lv_aload_n hx hb dX11_helps_7 rfl (lv_at hl 1 rfl) ?_
  refine gf_11_coins hx hb hts in11 hown hK hP (hts (.fieldLink RX11 12 "CoinsOfLast" "coins" "LCoinsOfLast$Coins;") (List.mem_of_getElem? (i := 1) rfl)) dX11_helps_8 ?_
  refine gn_1_land hx hb hts in1 hown hK hP (hsp.1 _ (List.mem_of_getElem? (i := 2) rfl)) dX11_helps_11 ?_
  refine lv_iload hx hb dX11_helps_14 (lv_at hl 5 rfl) ?_
  obtain ⟨c_3, hZ⟩ := jx_a_some hZ
  refine X_iald hx hb hK hP wX_2 c_3 dX11_helps_16 ?_
  refine lv_iload hx hb dX11_helps_17 (lv_at hl 0 rfl) ?_
  refine lv_icmp_eq (tgt := 24) hx hb dX11_helps_19 (by decide) (fun c_4 => ?_) (fun c_4 => ?_)
  · have hZ := jx_i_pos c_4 hZ
    refine lv_aload_n hx hb dX11_helps_24 rfl (lv_at hl 1 rfl) ?_
    refine gf_11_coins hx hb hts in11 hown hK hP (hts (.fieldLink RX11 12 "CoinsOfLast" "coins" "LCoinsOfLast$Coins;") (List.mem_of_getElem? (i := 1) rfl)) dX11_helps_25 ?_
    refine gn_1_held hx hb hts in1 hown hK hP (hsp.1 _ (List.mem_of_getElem? (i := 10) rfl)) dX11_helps_28 ?_
    refine lv_iconst (v := (0 : Int32)) hx hb dX11_helps_31 (by decide) ?_
    refine lv_aload_n hx hb dX11_helps_32 rfl (lv_at hl 1 rfl) ?_
    refine gf_11_payer hx hb hts in11 hown hK hP (hts (.fieldLink RX11 26 "CoinsOfLast" "payer" "LCoinsOfLast$Payer;") (List.mem_of_getElem? (i := 2) rfl)) dX11_helps_33 ?_
    refine gn_5_counts hx hb hts in5 hown hK hP (hsp.1 _ (List.mem_of_getElem? (i := 29) rfl)) dX11_helps_36 ?_
    refine lv_iconst (v := (0 : Int32)) hx hb dX11_helps_39 (by decide) ?_
    refine lv_bipush (v := (8 : Int32)) hx hb dX11_helps_40 (by decide) ?_
    obtain ⟨c_5, hZ⟩ := jx_c_some hZ
    obtain ⟨S_6, e_S_6, hZ⟩ := jx_l_some hZ
    refine X_copyi hx hb (hml.trans hl.1.symm) hown (hts _ (List.mem_of_getElem? (i := 3) rfl)) (hts _ (List.mem_of_getElem? (i := 4) rfl)) (hts _ (List.mem_of_getElem? (i := 5) rfl)) (hts _ (List.mem_of_getElem? (i := 6) rfl)) hK hP hD hS wX_6 wX_17 (fun _ => wXs_17) c_5 e_S_6 (Nat.le_of_ble_eq_true rfl) (Nat.le_of_ble_eq_true rfl) dX11_helps_42 (fun H locs hP hD hS => ?_)
    refine lv_aload_n hx hb dX11_helps_45 rfl (lv_at hl 1 rfl) ?_
    refine gf_11_payer hx hb hts in11 hown hK hP (hts (.fieldLink RX11 26 "CoinsOfLast" "payer" "LCoinsOfLast$Payer;") (List.mem_of_getElem? (i := 2) rfl)) dX11_helps_46 ?_
    refine gn_5_counts hx hb hts in5 hown hK hP (hsp.1 _ (List.mem_of_getElem? (i := 29) rfl)) dX11_helps_49 ?_
    refine lv_iload_n hx hb dX11_helps_52 rfl (lv_at hl 3 rfl) ?_
    refine lv_dup2_11 hx hb dX11_helps_53 rfl rfl ?_
    obtain ⟨c_7, hZ⟩ := jx_a_some hZ
    refine X_iald hx hb hK hP wX_17 c_7 dX11_helps_54 ?_
    refine lv_iload_n hx hb dX11_helps_55 rfl (lv_at hl 4 rfl) ?_
    refine lv_isub hx hb dX11_helps_56 ?_
    obtain ⟨c_8, hZ⟩ := jx_a_some hZ
    obtain ⟨S_9, e_S_9, hZ⟩ := jx_l_some hZ
    refine X_iast hx hb hK hP hD hS wX_17 (fun _ => wXs_17) c_8 e_S_9 dX11_helps_57 (fun H locs hP hD hS => ?_)
    refine lv_aload_n hx hb dX11_helps_58 rfl (lv_at hl 1 rfl) ?_
    refine gf_11_payer hx hb hts in11 hown hK hP (hts (.fieldLink RX11 26 "CoinsOfLast" "payer" "LCoinsOfLast$Payer;") (List.mem_of_getElem? (i := 2) rfl)) dX11_helps_59 ?_
    refine gn_5_counts hx hb hts in5 hown hK hP (hsp.1 _ (List.mem_of_getElem? (i := 29) rfl)) dX11_helps_62 ?_
    refine lv_iload hx hb dX11_helps_65 (lv_at hl 5 rfl) ?_
    refine lv_dup2_11 hx hb dX11_helps_67 rfl rfl ?_
    obtain ⟨c_10, hZ⟩ := jx_a_some hZ
    refine X_iald hx hb hK hP wX_17 c_10 dX11_helps_68 ?_
    refine lv_iload hx hb dX11_helps_69 (lv_at hl 6 rfl) ?_
    refine lv_iadd hx hb dX11_helps_71 ?_
    obtain ⟨c_11, hZ⟩ := jx_a_some hZ
    obtain ⟨S_12, e_S_12, hZ⟩ := jx_l_some hZ
    refine X_iast hx hb hK hP hD hS wX_17 (fun _ => wXs_17) c_11 e_S_12 dX11_helps_72 (fun H locs hP hD hS => ?_)
    refine lv_aload_n hx hb dX11_helps_73 rfl (lv_at hl 1 rfl) ?_
    refine gf_11_payer hx hb hts in11 hown hK hP (hts (.fieldLink RX11 26 "CoinsOfLast" "payer" "LCoinsOfLast$Payer;") (List.mem_of_getElem? (i := 2) rfl)) dX11_helps_74 ?_
    refine lv_aload_n hx hb dX11_helps_77 rfl (lv_at hl 1 rfl) ?_
    refine gf_11_coins hx hb hts in11 hown hK hP (hts (.fieldLink RX11 12 "CoinsOfLast" "coins" "LCoinsOfLast$Coins;") (List.mem_of_getElem? (i := 1) rfl)) dX11_helps_78 ?_
    refine lv_aload_n hx hb dX11_helps_81 rfl (lv_at hl 1 rfl) ?_
    refine gf_11_payer hx hb hts in11 hown hK hP (hts (.fieldLink RX11 26 "CoinsOfLast" "payer" "LCoinsOfLast$Payer;") (List.mem_of_getElem? (i := 2) rfl)) dX11_helps_82 ?_
    refine gn_5_counts hx hb hts in5 hown hK hP (hsp.1 _ (List.mem_of_getElem? (i := 29) rfl)) dX11_helps_85 ?_
    refine lv_iload hx hb dX11_helps_88 (lv_at hl 0 rfl) ?_
    obtain ⟨S_13, hc_14, hZ⟩ := jx_b_some hZ
    refine call_Vv SX_ok sameX ⟨hx, hb, hml, hown, hts⟩ (c_X5_spreadc l D q k x6_2 S_12 _ S_13  hc_14) (cwV 3 hts gX11_helps_X5_spread rfl rfl rfl hd_X5_spread ⟨Nat.le_of_ble_eq_true rfl, Nat.le_of_ble_eq_true rfl⟩) hK hP hD hS hA hsp (va_recv hK hP (ci := 5) (q0 := 12) rfl wX_12) (As := [.ref (q 1), .ref (q 17), .int x6_2]) rfl hl.1 rfl (Nat.le_of_ble_eq_true rfl) dX11_helps_90 ⟨Nat.zero_le _, Nat.zero_le _⟩ (fun H locs hP hD hS => ?_)
    refine lv_aload_n hx hb dX11_helps_93 rfl (lv_at hl 1 rfl) ?_
    refine gf_11_payer hx hb hts in11 hown hK hP (hts (.fieldLink RX11 26 "CoinsOfLast" "payer" "LCoinsOfLast$Payer;") (List.mem_of_getElem? (i := 2) rfl)) dX11_helps_94 ?_
    refine lv_iload_n hx hb dX11_helps_97 rfl (lv_at hl 2 rfl) ?_
    refine lv_sipush (v := (10000 : Int32)) hx hb dX11_helps_98 (by decide) ?_
    obtain ⟨c_15, hZ⟩ := jx_d_some hZ
    refine lv_irem hx hb dX11_helps_101 c_15 ?_
    obtain ⟨r_18, S_16, hc_17, hZ⟩ := jx_b2_some hZ
    refine call_Vi SX_ok sameX ⟨hx, hb, hml, hown, hts⟩ (c_X5_can l D q k (x1 - x1 / (10000 : Int32) * (10000 : Int32)) S_13 _ (r_18, S_16)  hc_17) (cwV 1 hts gX11_helps_X5_can rfl rfl rfl hd_X5_can ⟨Nat.le_of_ble_eq_true rfl, Nat.le_of_ble_eq_true rfl⟩) hK hP hD hS hA hsp (va_recv hK hP (ci := 5) (q0 := 12) rfl wX_12) (As := [.int (x1 - x1 / (10000 : Int32) * (10000 : Int32))]) rfl hl.1 rfl (Nat.le_of_ble_eq_true rfl) dX11_helps_102 ⟨Nat.zero_le _, Nat.zero_le _⟩ (fun H locs hP hD hS => ?_)
    obtain ⟨hnz, hZ⟩ := jx_z_some hZ
    exact leave_z hx hb hr hlocks hnz hP hS hZ dX11_helps_105
  · have hZ := jx_i_neg c_4 hZ
    refine lv_iconst (v := (0 : Int32)) hx hb dX11_helps_22 (by decide) ?_
    exact leave_z hx hb hr hlocks rfl hP hS hZ dX11_helps_23
theorem hd_X11_helps : yX11_helps.cls = RX11 ∧ yX11_helps.cls ≠ "java/lang/invoke/MethodHandle" ∧ yX11_helps.cls ≠ "java/lang/invoke/VarHandle" ∧ (parseMethodDescriptor yX11_helps.desc).map (fun d => d.parameters.length) = some 5 := by decide +kernel
theorem hd_X11_isFair : yX11_isFair.cls = RX11 ∧ yX11_isFair.cls ≠ "java/lang/invoke/MethodHandle" ∧ yX11_isFair.cls ≠ "java/lang/invoke/VarHandle" ∧ (parseMethodDescriptor yX11_isFair.desc).map (fun d => d.parameters.length) = some 5 := by decide +kernel
-- X11_leastSwap
def f_X11_leastSwap_129 (S_4 : St) : Option (Int32 × St) :=
  some ((-2 : Int32), S_4)
def f_X11_leastSwap_89 (x4_6 : Int32) (x5_6 : Int32) (x6_6 : Int32) (x7_6 : Int32) (S_6 : St) : Option (Int32 × St) :=
  some (((((x4_6 * (1000 : Int32)) + (x6_6 * (100 : Int32))) + (x5_6 * (10 : Int32))) + x7_6), S_6)
def f_X11_leastSwap_123i3 (x1 : Int32) (x2 : Int32) (x3 : Int32) (x4_13 : Int32) (S_13 : St) : Option ((Int32 × St) ⊕ ((St) ⊕ ((Int32 × Int32 × Int32 × Int32 × St)))) :=
  jx_l (x4_13 + 1) (fun x4_14 => some (.inl (x4_14, S_13)))
def f_X11_leastSwap_117i18 (x1 : Int32) (x2 : Int32) (x3 : Int32) (x4 : Int32) (x5_22 : Int32) (S_22 : St) : Option ((Int32 × St) ⊕ ((St) ⊕ ((Int32 × Int32 × Int32 × St)))) :=
  jx_l (x5_22 + 1) (fun x5_23 => some (.inl (x5_23, S_22)))
def f_X11_leastSwap_111i33 (x1 : Int32) (x2 : Int32) (x3 : Int32) (x4 : Int32) (x5 : Int32) (x6_32 : Int32) (S_32 : St) : Option ((Int32 × St) ⊕ ((St) ⊕ ((Int32 × Int32 × St)))) :=
  jx_l (x6_32 + 1) (fun x6_33 => some (.inl (x6_33, S_32)))
def b_X11_leastSwap_33 (x1 : Int32) (x2 : Int32) (x3 : Int32) (x4 : Int32) (x5 : Int32) (x6 : Int32) (S : St) : Option ((Int32 × St) ⊕ ((St) ⊕ ((Int32 × Int32 × St)))) :=
  (if (3 : Int32) < x6 then some (.inr (.inl S)) else (if x3 ≤ x6 then some (.inr (.inl S)) else jx_l (x3 - x6) (fun x7_30 => (if (3 : Int32) < x7_30 then f_X11_leastSwap_111i33 x1 x2 x3 x4 x5 x6 S else jx_b2 (f_X11_isFair x2 x4 x6 x5 x7_30 S) (fun r_37 S_35 => (if r_37 = 0 then f_X11_leastSwap_111i33 x1 x2 x3 x4 x5 x6 S_35 else jx_b2 (f_X11_helps x1 x4 x6 x5 x7_30 S_35) (fun r_42 S_40 => (if r_42 = 0 then f_X11_leastSwap_111i33 x1 x2 x3 x4 x5 x6 S_40 else some (.inr (.inr (x6, x7_30, S_40)))))))))))
def g_X11_leastSwap_33 (x1 : Int32) (x2 : Int32) (x3 : Int32) (x4 : Int32) (x5 : Int32) : (Int32 × St) → Option ((Int32 × St) ⊕ ((St) ⊕ ((Int32 × Int32 × St)))) := fun z => b_X11_leastSwap_33 x1 x2 x3 x4 x5 z.1 z.2
def b_X11_leastSwap_18 (x1 : Int32) (x2 : Int32) (x3 : Int32) (x4 : Int32) (x5 : Int32) (S : St) : Option ((Int32 × St) ⊕ ((St) ⊕ ((Int32 × Int32 × Int32 × St)))) :=
  (if (S.1 1 5) ≤ x5 then some (.inr (.inl S)) else jx_b (jx_w (g_X11_leastSwap_33 x1 x2 x3 x4 x5) FU ((1 : Int32), S)) (fun z => Sum.elim (fun z => f_X11_leastSwap_117i18 x1 x2 x3 x4 x5 z) (fun z => some (.inr (.inr (x5, z.1, z.2.1, z.2.2)))) z))
def g_X11_leastSwap_18 (x1 : Int32) (x2 : Int32) (x3 : Int32) (x4 : Int32) : (Int32 × St) → Option ((Int32 × St) ⊕ ((St) ⊕ ((Int32 × Int32 × Int32 × St)))) := fun z => b_X11_leastSwap_18 x1 x2 x3 x4 z.1 z.2
def b_X11_leastSwap_3 (x1 : Int32) (x2 : Int32) (x3 : Int32) (x4 : Int32) (S : St) : Option ((Int32 × St) ⊕ ((St) ⊕ ((Int32 × Int32 × Int32 × Int32 × St)))) :=
  (if (S.1 1 5) ≤ x4 then some (.inr (.inl S)) else jx_b (jx_w (g_X11_leastSwap_18 x1 x2 x3 x4) FU ((0 : Int32), S)) (fun z => Sum.elim (fun z => f_X11_leastSwap_123i3 x1 x2 x3 x4 z) (fun z => some (.inr (.inr (x4, z.1, z.2.1, z.2.2.1, z.2.2.2)))) z))
def g_X11_leastSwap_3 (x1 : Int32) (x2 : Int32) (x3 : Int32) : (Int32 × St) → Option ((Int32 × St) ⊕ ((St) ⊕ ((Int32 × Int32 × Int32 × Int32 × St)))) := fun z => b_X11_leastSwap_3 x1 x2 x3 z.1 z.2
def f_X11_leastSwap (x1 : Int32) (x2 : Int32) (x3 : Int32) (S : St) : Option (Int32 × St) :=
  jx_b (jx_w (g_X11_leastSwap_3 x1 x2 x3) FU ((0 : Int32), S)) (fun z => Sum.elim (fun z => f_X11_leastSwap_129 z) (fun z => f_X11_leastSwap_89 z.1 z.2.1 z.2.2.1 z.2.2.2.1 z.2.2.2.2) z)
set_option maxHeartbeats 4000000 in
set_option maxRecDepth 100000 in
theorem c_X11_leastSwap (l : Launch) (D : va_G) (q : Nat → Nat) (k : CI) (x1 : Int32) (x2 : Int32) (x3 : Int32) (S : St) (sz : Nat) (Z : Int32 × St) (hZ : f_X11_leastSwap x1 x2 x3 S = some Z) : MetI W_X SX l yX11_leastSwap wsX11_leastSwap { frames := 5, cells := 0, slots := 0, locals := 121 } [.ref (q 0), .int x1, .int x2, .int x3] D q k S sz Z := by
  refine enter (cc := cX11_leastSwap) (maxL := 8) (ret := some .int) (by decide) rfl (Nat.le_of_ble_eq_true rfl) ?_
  intro p e s m below meth c A ls hx hb hr hts hown hlocks hml hP hK hD hA hS hsp hAe hl
  have hown : s.vm.findClass RX11 = some m.cls := hown
  have hl : lv_has ls 8 [(0, .ref (q 0)), (1, .int x1), (2, .int x2), (3, .int x3)] := hl
  have in1 : ∀ w ∈ wsX10, w ∈ wsX11_leastSwap := fun _ h => (List.mem_cons_of_mem _ (List.mem_append_left _ (List.mem_append_left _ (List.mem_append_left _ (List.mem_append_right _ h)))))
  have in11 : ∀ w ∈ wsX110, w ∈ wsX11_leastSwap := fun _ h => (List.mem_cons_of_mem _ (List.mem_append_left _ (List.mem_append_left _ (List.mem_append_left _ (List.mem_append_left _ (List.mem_append_right _ h))))))
  have j129 : ∀ (S_4 : St)  (H : Heap) (locs : List Loc) (hZ : f_X11_leastSwap_129 S_4 = some Z) (hP : va_P D vwCl (W_X q k S_4) H) (hD : va_D A (W_X q k S_4)) (hS : va_S A s.heap H locs) (ls : Array Slot) (hl : lv_has ls 8 []), W p l e ({ frames := 5, cells := 0, slots := 0, locals := 121 } : Room) s m ([.ref (q 0), .int x1, .int x2, .int x3] : List Value).toArray below meth c H locs 0 0 (MQ below (va_Qi (fun r u => (r, u) = Z) (fun u t => va_P D vwCl (W_X q k u) t.heap) A) ([.ref (q 0), .int x1, .int x2, .int x3] : List Value).toArray s 0 0 A) (F0 m 129 ls []) := by
    intro S_4   H locs hZ hP hD hS ls hl
    unfold f_X11_leastSwap_129 at hZ
    refine lv_bipush (v := (-2 : Int32)) hx hb dX11_leastSwap_129 (by decide) ?_
    exact leave_i hx hb hr hlocks hP hS hZ dX11_leastSwap_131
  have j89 : ∀ (x4_6 : Int32) (x5_6 : Int32) (x6_6 : Int32) (x7_6 : Int32) (S_6 : St)  (H : Heap) (locs : List Loc) (hZ : f_X11_leastSwap_89 x4_6 x5_6 x6_6 x7_6 S_6 = some Z) (hP : va_P D vwCl (W_X q k S_6) H) (hD : va_D A (W_X q k S_6)) (hS : va_S A s.heap H locs) (ls : Array Slot) (hl : lv_has ls 8 [(4, .int x4_6), (5, .int x5_6), (6, .int x6_6), (7, .int x7_6)]), W p l e ({ frames := 5, cells := 0, slots := 0, locals := 121 } : Room) s m ([.ref (q 0), .int x1, .int x2, .int x3] : List Value).toArray below meth c H locs 0 0 (MQ below (va_Qi (fun r u => (r, u) = Z) (fun u t => va_P D vwCl (W_X q k u) t.heap) A) ([.ref (q 0), .int x1, .int x2, .int x3] : List Value).toArray s 0 0 A) (F0 m 89 ls []) := by
    intro x4_6 x5_6 x6_6 x7_6 S_6   H locs hZ hP hD hS ls hl
    unfold f_X11_leastSwap_89 at hZ
    refine lv_iload hx hb dX11_leastSwap_89 (lv_at hl 0 rfl) ?_
    refine lv_sipush (v := (1000 : Int32)) hx hb dX11_leastSwap_91 (by decide) ?_
    refine lv_imul hx hb dX11_leastSwap_94 ?_
    refine lv_iload hx hb dX11_leastSwap_95 (lv_at hl 2 rfl) ?_
    refine lv_bipush (v := (100 : Int32)) hx hb dX11_leastSwap_97 (by decide) ?_
    refine lv_imul hx hb dX11_leastSwap_99 ?_
    refine lv_iadd hx hb dX11_leastSwap_100 ?_
    refine lv_iload hx hb dX11_leastSwap_101 (lv_at hl 1 rfl) ?_
    refine lv_bipush (v := (10 : Int32)) hx hb dX11_leastSwap_103 (by decide) ?_
    refine lv_imul hx hb dX11_leastSwap_105 ?_
    refine lv_iadd hx hb dX11_leastSwap_106 ?_
    refine lv_iload hx hb dX11_leastSwap_107 (lv_at hl 3 rfl) ?_
    refine lv_iadd hx hb dX11_leastSwap_109 ?_
    exact leave_i hx hb hr hlocks hP hS hZ dX11_leastSwap_110
  unfold f_X11_leastSwap at hZ
  refine lv_iconst (v := (0 : Int32)) hx hb dX11_leastSwap_0 (by decide) ?_
  refine lv_istore (lv' := [(4, .int (0 : Int32)), (0, .ref (q 0)), (1, .int x1), (2, .int x2), (3, .int x3)]) hx hb dX11_leastSwap_1 hl (by decide) rfl (fun ls hl => ?_)
  obtain ⟨r_3, hw, hza_3⟩ := jx_b_some hZ
  have l_3 : ∀ (nn : Nat) (x4_1 : Int32) (S_2 : St) (H : Heap) (locs : List Loc) (hw : jx_w (g_X11_leastSwap_3 x1 x2 x3) nn (x4_1, S_2) = some r_3) (hP : va_P D vwCl (W_X q k S_2) H) (hD : va_D A (W_X q k S_2)) (hS : va_S A s.heap H locs) (ls : Array Slot) (hl : lv_has ls 8 [(0, .ref (q 0)), (1, .int x1), (2, .int x2), (3, .int x3), (4, .int x4_1)]), W p l e ({ frames := 5, cells := 0, slots := 0, locals := 121 } : Room) s m ([.ref (q 0), .int x1, .int x2, .int x3] : List Value).toArray below meth c H locs 0 0 (MQ below (va_Qi (fun r u => (r, u) = Z) (fun u t => va_P D vwCl (W_X q k u) t.heap) A) ([.ref (q 0), .int x1, .int x2, .int x3] : List Value).toArray s 0 0 A) (F0 m 3 ls []) := by
    intro nn
    induction nn with
    | zero =>
      intro x4_1 S_2 H locs hw hP hD hS ls hl
      exact jx_w_zero hw
    | succ n_3 ih_3 =>
      intro x4_1 S_2 H locs hw hP hD hS ls hl
      obtain ⟨o_3, hZ, hk_3⟩ := jx_w_succ hw
      have hZ : b_X11_leastSwap_3 x1 x2 x3 x4_1 S_2 = some o_3 := hZ
      have j123i3 : ∀ (x4_120 : Int32) (S_120 : St)  (o_3 : (Int32 × St) ⊕ ((St) ⊕ ((Int32 × Int32 × Int32 × Int32 × St)))) (hk_3 : jx_k (g_X11_leastSwap_3 x1 x2 x3) n_3 r_3 o_3) (H : Heap) (locs : List Loc) (hZ : f_X11_leastSwap_123i3 x1 x2 x3 x4_120 S_120 = some o_3) (hP : va_P D vwCl (W_X q k S_120) H) (hD : va_D A (W_X q k S_120)) (hS : va_S A s.heap H locs) (ls : Array Slot) (hl : lv_has ls 8 [(0, .ref (q 0)), (1, .int x1), (2, .int x2), (3, .int x3), (4, .int x4_120)]), W p l e ({ frames := 5, cells := 0, slots := 0, locals := 121 } : Room) s m ([.ref (q 0), .int x1, .int x2, .int x3] : List Value).toArray below meth c H locs 0 0 (MQ below (va_Qi (fun r u => (r, u) = Z) (fun u t => va_P D vwCl (W_X q k u) t.heap) A) ([.ref (q 0), .int x1, .int x2, .int x3] : List Value).toArray s 0 0 A) (F0 m 123 ls []) := by
        intro x4_120 S_120  o_3 hk_3 H locs hZ hP hD hS ls hl
        unfold f_X11_leastSwap_123i3 at hZ
        obtain ⟨x4_121, e_x4_121, hZ⟩ := jx_l_some hZ
        refine lv_iinc (v := x4_121) (lv' := [(4, .int x4_121), (0, .ref (q 0)), (1, .int x1), (2, .int x2), (3, .int x3)]) hx hb dX11_leastSwap_123 hl (k := 4) rfl (by rw [e_x4_121]; rfl) (by decide) rfl (fun ls hl => ?_)
        refine lv_goto (tgt := 3) hx hb dX11_leastSwap_126 (by decide) ?_
        have ho := Option.some.inj hZ
        subst ho
        exact ih_3 x4_121 S_120 _ _ hk_3 hP hD hS _ (lv_sub hl [1, 2, 3, 4, 0] rfl)
      unfold b_X11_leastSwap_3 at hZ
      refine lv_iload hx hb dX11_leastSwap_3 (lv_at hl 4 rfl) ?_
      refine lv_aload_n hx hb dX11_leastSwap_5 rfl (lv_at hl 0 rfl) ?_
      refine gf_11_coins hx hb hts in11 hown hK hP (hts (.fieldLink RX11 12 "CoinsOfLast" "coins" "LCoinsOfLast$Coins;") (List.mem_of_getElem? (i := 1) rfl)) dX11_leastSwap_6 ?_
      refine gn_1_known hx hb hts in1 hown hK hP (hsp.1 _ (List.mem_of_getElem? (i := 15) rfl)) dX11_leastSwap_9 ?_
      refine lv_icmp_ge (tgt := 129) hx hb dX11_leastSwap_12 (by decide) (fun c_115 => ?_) (fun c_115 => ?_)
      · have hZ := jx_i_pos c_115 hZ
        have ho := Option.some.inj hZ
        subst ho
        have hE := hza_3
        rw [← (show .inl S_2 = r_3 from hk_3)] at hE
        have hZ : f_X11_leastSwap_129 S_2 = some Z := hE
        exact j129 S_2 _ _ hZ hP hD hS _ (lv_sub hl [] rfl)
      · have hZ := jx_i_neg c_115 hZ
        refine lv_iconst (v := (0 : Int32)) hx hb dX11_leastSwap_15 (by decide) ?_
        refine lv_istore (lv' := [(5, .int (0 : Int32)), (0, .ref (q 0)), (1, .int x1), (2, .int x2), (3, .int x3), (4, .int x4_1)]) hx hb dX11_leastSwap_16 hl (by decide) rfl (fun ls hl => ?_)
        obtain ⟨r_119, hw, hza_119⟩ := jx_b_some hZ
        have l_119 : ∀ (nn : Nat) (x5_117 : Int32) (S_118 : St) (H : Heap) (locs : List Loc) (hw : jx_w (g_X11_leastSwap_18 x1 x2 x3 x4_1) nn (x5_117, S_118) = some r_119) (hP : va_P D vwCl (W_X q k S_118) H) (hD : va_D A (W_X q k S_118)) (hS : va_S A s.heap H locs) (ls : Array Slot) (hl : lv_has ls 8 [(0, .ref (q 0)), (1, .int x1), (2, .int x2), (3, .int x3), (4, .int x4_1), (5, .int x5_117)]), W p l e ({ frames := 5, cells := 0, slots := 0, locals := 121 } : Room) s m ([.ref (q 0), .int x1, .int x2, .int x3] : List Value).toArray below meth c H locs 0 0 (MQ below (va_Qi (fun r u => (r, u) = Z) (fun u t => va_P D vwCl (W_X q k u) t.heap) A) ([.ref (q 0), .int x1, .int x2, .int x3] : List Value).toArray s 0 0 A) (F0 m 18 ls []) := by
          intro nn
          induction nn with
          | zero =>
            intro x5_117 S_118 H locs hw hP hD hS ls hl
            exact jx_w_zero hw
          | succ n_119 ih_119 =>
            intro x5_117 S_118 H locs hw hP hD hS ls hl
            obtain ⟨o_119, hZ, hk_119⟩ := jx_w_succ hw
            have hZ : b_X11_leastSwap_18 x1 x2 x3 x4_1 x5_117 S_118 = some o_119 := hZ
            have j117i18 : ∀ (x5_178 : Int32) (S_178 : St)  (o_119 : (Int32 × St) ⊕ ((St) ⊕ ((Int32 × Int32 × Int32 × St)))) (hk_119 : jx_k (g_X11_leastSwap_18 x1 x2 x3 x4_1) n_119 r_119 o_119) (H : Heap) (locs : List Loc) (hZ : f_X11_leastSwap_117i18 x1 x2 x3 x4_1 x5_178 S_178 = some o_119) (hP : va_P D vwCl (W_X q k S_178) H) (hD : va_D A (W_X q k S_178)) (hS : va_S A s.heap H locs) (ls : Array Slot) (hl : lv_has ls 8 [(0, .ref (q 0)), (1, .int x1), (2, .int x2), (3, .int x3), (4, .int x4_1), (5, .int x5_178)]), W p l e ({ frames := 5, cells := 0, slots := 0, locals := 121 } : Room) s m ([.ref (q 0), .int x1, .int x2, .int x3] : List Value).toArray below meth c H locs 0 0 (MQ below (va_Qi (fun r u => (r, u) = Z) (fun u t => va_P D vwCl (W_X q k u) t.heap) A) ([.ref (q 0), .int x1, .int x2, .int x3] : List Value).toArray s 0 0 A) (F0 m 117 ls []) := by
              intro x5_178 S_178  o_119 hk_119 H locs hZ hP hD hS ls hl
              unfold f_X11_leastSwap_117i18 at hZ
              obtain ⟨x5_179, e_x5_179, hZ⟩ := jx_l_some hZ
              refine lv_iinc (v := x5_179) (lv' := [(5, .int x5_179), (0, .ref (q 0)), (1, .int x1), (2, .int x2), (3, .int x3), (4, .int x4_1)]) hx hb dX11_leastSwap_117 hl (k := 5) rfl (by rw [e_x5_179]; rfl) (by decide) rfl (fun ls hl => ?_)
              refine lv_goto (tgt := 18) hx hb dX11_leastSwap_120 (by decide) ?_
              have ho := Option.some.inj hZ
              subst ho
              exact ih_119 x5_179 S_178 _ _ hk_119 hP hD hS _ (lv_sub hl [1, 2, 3, 4, 5, 0] rfl)
            unfold b_X11_leastSwap_18 at hZ
            refine lv_iload hx hb dX11_leastSwap_18 (lv_at hl 5 rfl) ?_
            refine lv_aload_n hx hb dX11_leastSwap_20 rfl (lv_at hl 0 rfl) ?_
            refine gf_11_coins hx hb hts in11 hown hK hP (hts (.fieldLink RX11 12 "CoinsOfLast" "coins" "LCoinsOfLast$Coins;") (List.mem_of_getElem? (i := 1) rfl)) dX11_leastSwap_21 ?_
            refine gn_1_known hx hb hts in1 hown hK hP (hsp.1 _ (List.mem_of_getElem? (i := 15) rfl)) dX11_leastSwap_24 ?_
            refine lv_icmp_ge (tgt := 123) hx hb dX11_leastSwap_27 (by decide) (fun c_173 => ?_) (fun c_173 => ?_)
            · have hZ := jx_i_pos c_173 hZ
              have ho := Option.some.inj hZ
              subst ho
              have hE := hza_119
              rw [← (show .inl S_118 = r_119 from hk_119)] at hE
              have hZ : f_X11_leastSwap_123i3 x1 x2 x3 x4_1 S_118 = some o_3 := hE
              exact j123i3 x4_1 S_118 _ hk_3 _ _ hZ hP hD hS _ (lv_sub hl [0, 1, 2, 3, 4] rfl)
            · have hZ := jx_i_neg c_173 hZ
              refine lv_iconst (v := (1 : Int32)) hx hb dX11_leastSwap_30 (by decide) ?_
              refine lv_istore (lv' := [(6, .int (1 : Int32)), (0, .ref (q 0)), (1, .int x1), (2, .int x2), (3, .int x3), (4, .int x4_1), (5, .int x5_117)]) hx hb dX11_leastSwap_31 hl (by decide) rfl (fun ls hl => ?_)
              obtain ⟨r_177, hw, hza_177⟩ := jx_b_some hZ
              have l_177 : ∀ (nn : Nat) (x6_175 : Int32) (S_176 : St) (H : Heap) (locs : List Loc) (hw : jx_w (g_X11_leastSwap_33 x1 x2 x3 x4_1 x5_117) nn (x6_175, S_176) = some r_177) (hP : va_P D vwCl (W_X q k S_176) H) (hD : va_D A (W_X q k S_176)) (hS : va_S A s.heap H locs) (ls : Array Slot) (hl : lv_has ls 8 [(0, .ref (q 0)), (1, .int x1), (2, .int x2), (3, .int x3), (4, .int x4_1), (5, .int x5_117), (6, .int x6_175)]), W p l e ({ frames := 5, cells := 0, slots := 0, locals := 121 } : Room) s m ([.ref (q 0), .int x1, .int x2, .int x3] : List Value).toArray below meth c H locs 0 0 (MQ below (va_Qi (fun r u => (r, u) = Z) (fun u t => va_P D vwCl (W_X q k u) t.heap) A) ([.ref (q 0), .int x1, .int x2, .int x3] : List Value).toArray s 0 0 A) (F0 m 33 ls []) := by
                intro nn
                induction nn with
                | zero =>
                  intro x6_175 S_176 H locs hw hP hD hS ls hl
                  exact jx_w_zero hw
                | succ n_177 ih_177 =>
                  intro x6_175 S_176 H locs hw hP hD hS ls hl
                  obtain ⟨o_177, hZ, hk_177⟩ := jx_w_succ hw
                  have hZ : b_X11_leastSwap_33 x1 x2 x3 x4_1 x5_117 x6_175 S_176 = some o_177 := hZ
                  have j111i33 : ∀ (x6_208 : Int32) (S_208 : St)  (o_177 : (Int32 × St) ⊕ ((St) ⊕ ((Int32 × Int32 × St)))) (hk_177 : jx_k (g_X11_leastSwap_33 x1 x2 x3 x4_1 x5_117) n_177 r_177 o_177) (H : Heap) (locs : List Loc) (hZ : f_X11_leastSwap_111i33 x1 x2 x3 x4_1 x5_117 x6_208 S_208 = some o_177) (hP : va_P D vwCl (W_X q k S_208) H) (hD : va_D A (W_X q k S_208)) (hS : va_S A s.heap H locs) (ls : Array Slot) (hl : lv_has ls 8 [(0, .ref (q 0)), (1, .int x1), (2, .int x2), (3, .int x3), (4, .int x4_1), (5, .int x5_117), (6, .int x6_208)]), W p l e ({ frames := 5, cells := 0, slots := 0, locals := 121 } : Room) s m ([.ref (q 0), .int x1, .int x2, .int x3] : List Value).toArray below meth c H locs 0 0 (MQ below (va_Qi (fun r u => (r, u) = Z) (fun u t => va_P D vwCl (W_X q k u) t.heap) A) ([.ref (q 0), .int x1, .int x2, .int x3] : List Value).toArray s 0 0 A) (F0 m 111 ls []) := by
                    intro x6_208 S_208  o_177 hk_177 H locs hZ hP hD hS ls hl
                    unfold f_X11_leastSwap_111i33 at hZ
                    obtain ⟨x6_209, e_x6_209, hZ⟩ := jx_l_some hZ
                    refine lv_iinc (v := x6_209) (lv' := [(6, .int x6_209), (0, .ref (q 0)), (1, .int x1), (2, .int x2), (3, .int x3), (4, .int x4_1), (5, .int x5_117)]) hx hb dX11_leastSwap_111 hl (k := 6) rfl (by rw [e_x6_209]; rfl) (by decide) rfl (fun ls hl => ?_)
                    refine lv_goto (tgt := 33) hx hb dX11_leastSwap_114 (by decide) ?_
                    have ho := Option.some.inj hZ
                    subst ho
                    exact ih_177 x6_209 S_208 _ _ hk_177 hP hD hS _ (lv_sub hl [1, 2, 3, 4, 5, 6, 0] rfl)
                  unfold b_X11_leastSwap_33 at hZ
                  refine lv_iload hx hb dX11_leastSwap_33 (lv_at hl 6 rfl) ?_
                  refine lv_iconst (v := (3 : Int32)) hx hb dX11_leastSwap_35 (by decide) ?_
                  refine lv_icmp_gt (tgt := 117) hx hb dX11_leastSwap_36 (by decide) (fun c_202 => ?_) (fun c_202 => ?_)
                  · have hZ := jx_i_pos c_202 hZ
                    have ho := Option.some.inj hZ
                    subst ho
                    have hE := hza_177
                    rw [← (show .inl S_176 = r_177 from hk_177)] at hE
                    have hZ : f_X11_leastSwap_117i18 x1 x2 x3 x4_1 x5_117 S_176 = some o_119 := hE
                    exact j117i18 x5_117 S_176 _ hk_119 _ _ hZ hP hD hS _ (lv_sub hl [0, 1, 2, 3, 4, 5] rfl)
                  · have hZ := jx_i_neg c_202 hZ
                    refine lv_iload hx hb dX11_leastSwap_39 (lv_at hl 6 rfl) ?_
                    refine lv_iload_n hx hb dX11_leastSwap_41 rfl (lv_at hl 3 rfl) ?_
                    refine lv_icmp_ge (tgt := 117) hx hb dX11_leastSwap_42 (by decide) (fun c_204 => ?_) (fun c_204 => ?_)
                    · have hZ := jx_i_pos c_204 hZ
                      have ho := Option.some.inj hZ
                      subst ho
                      have hE := hza_177
                      rw [← (show .inl S_176 = r_177 from hk_177)] at hE
                      have hZ : f_X11_leastSwap_117i18 x1 x2 x3 x4_1 x5_117 S_176 = some o_119 := hE
                      exact j117i18 x5_117 S_176 _ hk_119 _ _ hZ hP hD hS _ (lv_sub hl [0, 1, 2, 3, 4, 5] rfl)
                    · have hZ := jx_i_neg c_204 hZ
                      refine lv_iload_n hx hb dX11_leastSwap_45 rfl (lv_at hl 3 rfl) ?_
                      refine lv_iload hx hb dX11_leastSwap_46 (lv_at hl 6 rfl) ?_
                      refine lv_isub hx hb dX11_leastSwap_48 ?_
                      obtain ⟨x7_206, e_x7_206, hZ⟩ := jx_l_some hZ
                      refine tx_i e_x7_206 ?_
                      refine lv_istore (lv' := [(7, .int x7_206), (0, .ref (q 0)), (1, .int x1), (2, .int x2), (3, .int x3), (4, .int x4_1), (5, .int x5_117), (6, .int x6_175)]) hx hb dX11_leastSwap_49 hl (by decide) rfl (fun ls hl => ?_)
                      refine lv_iload hx hb dX11_leastSwap_51 (lv_at hl 0 rfl) ?_
                      refine lv_iconst (v := (3 : Int32)) hx hb dX11_leastSwap_53 (by decide) ?_
                      refine lv_icmp_gt (tgt := 111) hx hb dX11_leastSwap_54 (by decide) (fun c_207 => ?_) (fun c_207 => ?_)
                      · have hZ := jx_i_pos c_207 hZ
                        exact j111i33 x6_175 S_176 _ hk_177 _ _ hZ hP hD hS _ (lv_sub hl [1, 2, 3, 4, 5, 6, 7] rfl)
                      · have hZ := jx_i_neg c_207 hZ
                        refine lv_aload_n hx hb dX11_leastSwap_57 rfl (lv_at hl 1 rfl) ?_
                        refine lv_iload_n hx hb dX11_leastSwap_58 rfl (lv_at hl 3 rfl) ?_
                        refine lv_iload hx hb dX11_leastSwap_59 (lv_at hl 5 rfl) ?_
                        refine lv_iload hx hb dX11_leastSwap_61 (lv_at hl 7 rfl) ?_
                        refine lv_iload hx hb dX11_leastSwap_63 (lv_at hl 6 rfl) ?_
                        refine lv_iload hx hb dX11_leastSwap_65 (lv_at hl 0 rfl) ?_
                        obtain ⟨r_213, S_211, hc_212, hZ⟩ := jx_b2_some hZ
                        refine call_Vi SX_ok sameX ⟨hx, hb, hml, hown, hts⟩ (c_X11_isFair l D q k x2 x4_1 x6_175 x5_117 x7_206 S_176 _ (r_213, S_211)  hc_212) (cwV 5 hts gX11_leastSwap_X11_isFair rfl rfl rfl hd_X11_isFair ⟨Nat.le_of_ble_eq_true rfl, Nat.le_of_ble_eq_true rfl⟩) hK hP hD hS hA hsp (va_recv hK hP (ci := 11) (q0 := 0) rfl wX_0) (As := [.int x2, .int x4_1, .int x6_175, .int x5_117, .int x7_206]) rfl hl.1 rfl (Nat.le_of_ble_eq_true rfl) dX11_leastSwap_67 ⟨Nat.zero_le _, Nat.zero_le _⟩ (fun H locs hP hD hS => ?_)
                        refine lv_if_eq (tgt := 111) hx hb dX11_leastSwap_70 (by decide) (fun c_214 => ?_) (fun c_214 => ?_)
                        · have hZ := jx_i_pos c_214 hZ
                          exact j111i33 x6_175 S_211 _ hk_177 _ _ hZ hP hD hS _ (lv_sub hl [1, 2, 3, 4, 5, 6, 7] rfl)
                        · have hZ := jx_i_neg c_214 hZ
                          refine lv_aload_n hx hb dX11_leastSwap_73 rfl (lv_at hl 1 rfl) ?_
                          refine lv_iload_n hx hb dX11_leastSwap_74 rfl (lv_at hl 2 rfl) ?_
                          refine lv_iload hx hb dX11_leastSwap_75 (lv_at hl 5 rfl) ?_
                          refine lv_iload hx hb dX11_leastSwap_77 (lv_at hl 7 rfl) ?_
                          refine lv_iload hx hb dX11_leastSwap_79 (lv_at hl 6 rfl) ?_
                          refine lv_iload hx hb dX11_leastSwap_81 (lv_at hl 0 rfl) ?_
                          obtain ⟨r_218, S_216, hc_217, hZ⟩ := jx_b2_some hZ
                          refine call_Vi SX_ok sameX ⟨hx, hb, hml, hown, hts⟩ (c_X11_helps l D q k x1 x4_1 x6_175 x5_117 x7_206 S_211 _ (r_218, S_216)  hc_217) (cwV 5 hts gX11_leastSwap_X11_helps rfl rfl rfl hd_X11_helps ⟨Nat.le_of_ble_eq_true rfl, Nat.le_of_ble_eq_true rfl⟩) hK hP hD hS hA hsp (va_recv hK hP (ci := 11) (q0 := 0) rfl wX_0) (As := [.int x1, .int x4_1, .int x6_175, .int x5_117, .int x7_206]) rfl hl.1 rfl (Nat.le_of_ble_eq_true rfl) dX11_leastSwap_83 ⟨Nat.zero_le _, Nat.zero_le _⟩ (fun H locs hP hD hS => ?_)
                          refine lv_if_eq (tgt := 111) hx hb dX11_leastSwap_86 (by decide) (fun c_219 => ?_) (fun c_219 => ?_)
                          · have hZ := jx_i_pos c_219 hZ
                            exact j111i33 x6_175 S_216 _ hk_177 _ _ hZ hP hD hS _ (lv_sub hl [1, 2, 3, 4, 5, 6, 7] rfl)
                          · have hZ := jx_i_neg c_219 hZ
                            have ho := Option.some.inj hZ
                            subst ho
                            have hE := hza_177
                            rw [← (show .inr (x6_175, x7_206, S_216) = r_177 from hk_177)] at hE
                            have hZ : some (.inr (.inr (x5_117, x6_175, x7_206, S_216))) = some o_119 := hE
                            have ho := Option.some.inj hZ
                            subst ho
                            have hE := hza_119
                            rw [← (show .inr (x5_117, x6_175, x7_206, S_216) = r_119 from hk_119)] at hE
                            have hZ : some (.inr (.inr (x4_1, x5_117, x6_175, x7_206, S_216))) = some o_3 := hE
                            have ho := Option.some.inj hZ
                            subst ho
                            have hE := hza_3
                            rw [← (show .inr (x4_1, x5_117, x6_175, x7_206, S_216) = r_3 from hk_3)] at hE
                            have hZ : f_X11_leastSwap_89 x4_1 x5_117 x6_175 x7_206 S_216 = some Z := hE
                            exact j89 x4_1 x5_117 x6_175 x7_206 S_216 _ _ hZ hP hD hS _ (lv_sub hl [5, 6, 7, 0] rfl)
              exact l_177 FU (1 : Int32) S_118 _ _ hw hP hD hS _ (lv_sub hl [1, 2, 3, 4, 5, 6, 0] rfl)
        exact l_119 FU (0 : Int32) S_2 _ _ hw hP hD hS _ (lv_sub hl [1, 2, 3, 4, 5, 0] rfl)
  exact l_3 FU (0 : Int32) S _ _ hw hP hD hS _ (lv_sub hl [1, 2, 3, 4, 0] rfl)
theorem hd_X11_leastSwap : yX11_leastSwap.cls = RX11 ∧ yX11_leastSwap.cls ≠ "java/lang/invoke/MethodHandle" ∧ yX11_leastSwap.cls ≠ "java/lang/invoke/VarHandle" ∧ (parseMethodDescriptor yX11_leastSwap.desc).map (fun d => d.parameters.length) = some 3 := by decide +kernel
-- X11_swap
def f_X11_swap_88 (S_20 : St) : Option (Int32 × St) :=
  some ((-2 : Int32), S_20)
def f_X11_swap_79 (x4_22 : Int32) (S_22 : St) : Option (Int32 × St) :=
  some (x4_22, S_22)
def b_X11_swap_59 (x1 : Int32) (x2 : Int32) (x3 : Int32) (S : St) : Option ((Int32 × St) ⊕ ((St) ⊕ ((Int32 × St)))) :=
  (if (6 : Int32) < x3 then some (.inr (.inl S)) else jx_b2 (f_X11_leastSwap x1 x2 x3 S) (fun r_28 S_26 => (if r_28 < 0 then jx_l (x3 + 1) (fun x3_30 => some (.inl (x3_30, S_26))) else some (.inr (.inr (r_28, S_26))))))
def g_X11_swap_59 (x1 : Int32) (x2 : Int32) : (Int32 × St) → Option ((Int32 × St) ⊕ ((St) ⊕ ((Int32 × St)))) := fun z => b_X11_swap_59 x1 x2 z.1 z.2
def f_X11_swap (x1 : Int32) (x2 : Int32) (S : St) : Option (Int32 × St) :=
  jx_b2 (f_X11_isAmount x1 S) (fun r_3 S_1 => (if r_3 = 0 then some ((-1 : Int32), S_1) else jx_b2 (f_X11_isDay x2 S_1) (fun r_7 S_5 => (if r_7 = 0 then some ((-1 : Int32), S_5) else jx_d (10000 : Int32) (jx_b (f_X5_spread (x1 / (10000 : Int32)) S_5) (fun S_10 => jx_d (10000 : Int32) (jx_b2 (f_X5_can (x1 - x1 / (10000 : Int32) * (10000 : Int32)) S_10) (fun r_15 S_13 => (if r_15 = 0 then jx_b (jx_w (g_X11_swap_59 x1 x2) FU ((2 : Int32), S_13)) (fun z => Sum.elim (fun z => f_X11_swap_88 z) (fun z => f_X11_swap_79 z.1 z.2) z) else some ((-5 : Int32), S_13))))))))))
set_option maxHeartbeats 4000000 in
set_option maxRecDepth 100000 in
theorem c_X11_swap (l : Launch) (D : va_G) (q : Nat → Nat) (k : CI) (x1 : Int32) (x2 : Int32) (S : St) (sz : Nat) (Z : Int32 × St) (hZ : f_X11_swap x1 x2 S = some Z) : MetI W_X SX l yX11_swap wsX11_swap { frames := 6, cells := 0, slots := 0, locals := 148 } [.ref (q 0), .int x1, .int x2] D q k S sz Z := by
  refine enter (cc := cX11_swap) (maxL := 5) (ret := some .int) (by decide) rfl (Nat.le_of_ble_eq_true rfl) ?_
  intro p e s m below meth c A ls hx hb hr hts hown hlocks hml hP hK hD hA hS hsp hAe hl
  have hown : s.vm.findClass RX11 = some m.cls := hown
  have hl : lv_has ls 5 [(0, .ref (q 0)), (1, .int x1), (2, .int x2)] := hl
  have in1 : ∀ w ∈ wsX10, w ∈ wsX11_swap := fun _ h => (List.mem_cons_of_mem _ (List.mem_append_left _ (List.mem_append_left _ (List.mem_append_left _ (List.mem_append_right _ h)))))
  have in11 : ∀ w ∈ wsX110, w ∈ wsX11_swap := fun _ h => (List.mem_cons_of_mem _ (List.mem_append_left _ (List.mem_append_left _ (List.mem_append_left _ (List.mem_append_left _ (List.mem_append_right _ h))))))
  have j88 : ∀ (S_20 : St)  (H : Heap) (locs : List Loc) (hZ : f_X11_swap_88 S_20 = some Z) (hP : va_P D vwCl (W_X q k S_20) H) (hD : va_D A (W_X q k S_20)) (hS : va_S A s.heap H locs) (ls : Array Slot) (hl : lv_has ls 5 []), W p l e ({ frames := 6, cells := 0, slots := 0, locals := 148 } : Room) s m ([.ref (q 0), .int x1, .int x2] : List Value).toArray below meth c H locs 0 0 (MQ below (va_Qi (fun r u => (r, u) = Z) (fun u t => va_P D vwCl (W_X q k u) t.heap) A) ([.ref (q 0), .int x1, .int x2] : List Value).toArray s 0 0 A) (F0 m 88 ls []) := by
    intro S_20   H locs hZ hP hD hS ls hl
    unfold f_X11_swap_88 at hZ
    refine lv_bipush (v := (-2 : Int32)) hx hb dX11_swap_88 (by decide) ?_
    exact leave_i hx hb hr hlocks hP hS hZ dX11_swap_90
  have j79 : ∀ (x4_22 : Int32) (S_22 : St)  (H : Heap) (locs : List Loc) (hZ : f_X11_swap_79 x4_22 S_22 = some Z) (hP : va_P D vwCl (W_X q k S_22) H) (hD : va_D A (W_X q k S_22)) (hS : va_S A s.heap H locs) (ls : Array Slot) (hl : lv_has ls 5 [(4, .int x4_22)]), W p l e ({ frames := 6, cells := 0, slots := 0, locals := 148 } : Room) s m ([.ref (q 0), .int x1, .int x2] : List Value).toArray below meth c H locs 0 0 (MQ below (va_Qi (fun r u => (r, u) = Z) (fun u t => va_P D vwCl (W_X q k u) t.heap) A) ([.ref (q 0), .int x1, .int x2] : List Value).toArray s 0 0 A) (F0 m 79 ls []) := by
    intro x4_22 S_22   H locs hZ hP hD hS ls hl
    unfold f_X11_swap_79 at hZ
    refine lv_iload hx hb dX11_swap_79 (lv_at hl 0 rfl) ?_
    exact leave_i hx hb hr hlocks hP hS hZ dX11_swap_81
  unfold f_X11_swap at hZ
  refine lv_iload_n hx hb dX11_swap_0 rfl (lv_at hl 1 rfl) ?_
  obtain ⟨r_3, S_1, hc_2, hZ⟩ := jx_b2_some hZ
  refine call_Si SX_ok sameX ⟨hx, hb, hml, hown, hts⟩ (c_X11_isAmount l D q k x1 S _ (r_3, S_1)  hc_2) (va_cwS 1 hts gX11_swap_X11_isAmount rfl rfl rfl hd_X11_isAmount ⟨Nat.le_of_ble_eq_true rfl, Nat.le_of_ble_eq_true rfl⟩) hK hP hD hS hA hsp (As := [.int x1]) rfl hl.1 rfl (Nat.le_of_ble_eq_true rfl) dX11_swap_1 ⟨Nat.zero_le _, Nat.zero_le _⟩ (fun H locs hP hD hS => ?_)
  refine lv_if_eq (tgt := 14) hx hb dX11_swap_4 (by decide) (fun c_4 => ?_) (fun c_4 => ?_)
  · have hZ := jx_i_pos c_4 hZ
    refine lv_iconst (v := (-1 : Int32)) hx hb dX11_swap_14 (by decide) ?_
    exact leave_i hx hb hr hlocks hP hS hZ dX11_swap_15
  · have hZ := jx_i_neg c_4 hZ
    refine lv_iload_n hx hb dX11_swap_7 rfl (lv_at hl 2 rfl) ?_
    obtain ⟨r_7, S_5, hc_6, hZ⟩ := jx_b2_some hZ
    refine call_Si SX_ok sameX ⟨hx, hb, hml, hown, hts⟩ (c_X11_isDay l D q k x2 S_1 _ (r_7, S_5)  hc_6) (va_cwS 1 hts gX11_swap_X11_isDay rfl rfl rfl hd_X11_isDay ⟨Nat.le_of_ble_eq_true rfl, Nat.le_of_ble_eq_true rfl⟩) hK hP hD hS hA hsp (As := [.int x2]) rfl hl.1 rfl (Nat.le_of_ble_eq_true rfl) dX11_swap_8 ⟨Nat.zero_le _, Nat.zero_le _⟩ (fun H locs hP hD hS => ?_)
    refine lv_if_ne (tgt := 16) hx hb dX11_swap_11 (by decide) (fun c_8 => ?_) (fun c_8 => ?_)
    · have hZ := jx_i_neg c_8 hZ
      refine lv_aload_n hx hb dX11_swap_16 rfl (lv_at hl 0 rfl) ?_
      refine gf_11_payer hx hb hts in11 hown hK hP (hts (.fieldLink RX11 26 "CoinsOfLast" "payer" "LCoinsOfLast$Payer;") (List.mem_of_getElem? (i := 1) rfl)) dX11_swap_17 ?_
      refine lv_aload_n hx hb dX11_swap_20 rfl (lv_at hl 0 rfl) ?_
      refine gf_11_coins hx hb hts in11 hown hK hP (hts (.fieldLink RX11 12 "CoinsOfLast" "coins" "LCoinsOfLast$Coins;") (List.mem_of_getElem? (i := 2) rfl)) dX11_swap_21 ?_
      refine lv_aload_n hx hb dX11_swap_24 rfl (lv_at hl 0 rfl) ?_
      refine gf_11_coins hx hb hts in11 hown hK hP (hts (.fieldLink RX11 12 "CoinsOfLast" "coins" "LCoinsOfLast$Coins;") (List.mem_of_getElem? (i := 2) rfl)) dX11_swap_25 ?_
      refine gn_1_held hx hb hts in1 hown hK hP (hsp.1 _ (List.mem_of_getElem? (i := 10) rfl)) dX11_swap_28 ?_
      refine lv_iload_n hx hb dX11_swap_31 rfl (lv_at hl 1 rfl) ?_
      refine lv_sipush (v := (10000 : Int32)) hx hb dX11_swap_32 (by decide) ?_
      obtain ⟨c_9, hZ⟩ := jx_d_some hZ
      refine lv_idiv hx hb dX11_swap_35 c_9 ?_
      obtain ⟨S_10, hc_11, hZ⟩ := jx_b_some hZ
      refine call_Vv SX_ok sameX ⟨hx, hb, hml, hown, hts⟩ (c_X5_spread l D q k (x1 / (10000 : Int32)) S_5 _ S_10  hc_11) (cwV 3 hts gX11_swap_X5_spread rfl rfl rfl hd_X5_spread ⟨Nat.le_of_ble_eq_true rfl, Nat.le_of_ble_eq_true rfl⟩) hK hP hD hS hA hsp (va_recv hK hP (ci := 5) (q0 := 12) rfl wX_12) (As := [.ref (q 1), .ref (q 6), .int (x1 / (10000 : Int32))]) rfl hl.1 rfl (Nat.le_of_ble_eq_true rfl) dX11_swap_36 ⟨Nat.zero_le _, Nat.zero_le _⟩ (fun H locs hP hD hS => ?_)
      refine lv_aload_n hx hb dX11_swap_39 rfl (lv_at hl 0 rfl) ?_
      refine gf_11_payer hx hb hts in11 hown hK hP (hts (.fieldLink RX11 26 "CoinsOfLast" "payer" "LCoinsOfLast$Payer;") (List.mem_of_getElem? (i := 1) rfl)) dX11_swap_40 ?_
      refine lv_iload_n hx hb dX11_swap_43 rfl (lv_at hl 1 rfl) ?_
      refine lv_sipush (v := (10000 : Int32)) hx hb dX11_swap_44 (by decide) ?_
      obtain ⟨c_12, hZ⟩ := jx_d_some hZ
      refine lv_irem hx hb dX11_swap_47 c_12 ?_
      obtain ⟨r_15, S_13, hc_14, hZ⟩ := jx_b2_some hZ
      refine call_Vi SX_ok sameX ⟨hx, hb, hml, hown, hts⟩ (c_X5_can l D q k (x1 - x1 / (10000 : Int32) * (10000 : Int32)) S_10 _ (r_15, S_13)  hc_14) (cwV 1 hts gX11_swap_X5_can rfl rfl rfl hd_X5_can ⟨Nat.le_of_ble_eq_true rfl, Nat.le_of_ble_eq_true rfl⟩) hK hP hD hS hA hsp (va_recv hK hP (ci := 5) (q0 := 12) rfl wX_12) (As := [.int (x1 - x1 / (10000 : Int32) * (10000 : Int32))]) rfl hl.1 rfl (Nat.le_of_ble_eq_true rfl) dX11_swap_48 ⟨Nat.zero_le _, Nat.zero_le _⟩ (fun H locs hP hD hS => ?_)
      refine lv_if_eq (tgt := 57) hx hb dX11_swap_51 (by decide) (fun c_16 => ?_) (fun c_16 => ?_)
      · have hZ := jx_i_pos c_16 hZ
        refine lv_iconst (v := (2 : Int32)) hx hb dX11_swap_57 (by decide) ?_
        refine lv_istore_n (lv' := [(3, .int (2 : Int32)), (0, .ref (q 0)), (1, .int x1), (2, .int x2)]) hx hb dX11_swap_58 rfl hl (by decide) rfl (fun ls hl => ?_)
        obtain ⟨r_19, hw, hza_19⟩ := jx_b_some hZ
        have l_19 : ∀ (nn : Nat) (x3_17 : Int32) (S_18 : St) (H : Heap) (locs : List Loc) (hw : jx_w (g_X11_swap_59 x1 x2) nn (x3_17, S_18) = some r_19) (hP : va_P D vwCl (W_X q k S_18) H) (hD : va_D A (W_X q k S_18)) (hS : va_S A s.heap H locs) (ls : Array Slot) (hl : lv_has ls 5 [(0, .ref (q 0)), (1, .int x1), (2, .int x2), (3, .int x3_17)]), W p l e ({ frames := 6, cells := 0, slots := 0, locals := 148 } : Room) s m ([.ref (q 0), .int x1, .int x2] : List Value).toArray below meth c H locs 0 0 (MQ below (va_Qi (fun r u => (r, u) = Z) (fun u t => va_P D vwCl (W_X q k u) t.heap) A) ([.ref (q 0), .int x1, .int x2] : List Value).toArray s 0 0 A) (F0 m 59 ls []) := by
          intro nn
          induction nn with
          | zero =>
            intro x3_17 S_18 H locs hw hP hD hS ls hl
            exact jx_w_zero hw
          | succ n_19 ih_19 =>
            intro x3_17 S_18 H locs hw hP hD hS ls hl
            obtain ⟨o_19, hZ, hk_19⟩ := jx_w_succ hw
            have hZ : b_X11_swap_59 x1 x2 x3_17 S_18 = some o_19 := hZ
            unfold b_X11_swap_59 at hZ
            refine lv_iload_n hx hb dX11_swap_59 rfl (lv_at hl 3 rfl) ?_
            refine lv_bipush (v := (6 : Int32)) hx hb dX11_swap_60 (by decide) ?_
            refine lv_icmp_gt (tgt := 88) hx hb dX11_swap_62 (by decide) (fun c_32 => ?_) (fun c_32 => ?_)
            · have hZ := jx_i_pos c_32 hZ
              have ho := Option.some.inj hZ
              subst ho
              have hE := hza_19
              rw [← (show .inl S_18 = r_19 from hk_19)] at hE
              have hZ : f_X11_swap_88 S_18 = some Z := hE
              exact j88 S_18 _ _ hZ hP hD hS _ (lv_sub hl [] rfl)
            · have hZ := jx_i_neg c_32 hZ
              refine lv_aload_n hx hb dX11_swap_65 rfl (lv_at hl 0 rfl) ?_
              refine lv_iload_n hx hb dX11_swap_66 rfl (lv_at hl 1 rfl) ?_
              refine lv_iload_n hx hb dX11_swap_67 rfl (lv_at hl 2 rfl) ?_
              refine lv_iload_n hx hb dX11_swap_68 rfl (lv_at hl 3 rfl) ?_
              obtain ⟨r_36, S_34, hc_35, hZ⟩ := jx_b2_some hZ
              refine call_Vi SX_ok sameX ⟨hx, hb, hml, hown, hts⟩ (c_X11_leastSwap l D q k x1 x2 x3_17 S_18 _ (r_36, S_34)  hc_35) (cwV 3 hts gX11_swap_X11_leastSwap rfl rfl rfl hd_X11_leastSwap ⟨Nat.le_of_ble_eq_true rfl, Nat.le_of_ble_eq_true rfl⟩) hK hP hD hS hA hsp (va_recv hK hP (ci := 11) (q0 := 0) rfl wX_0) (As := [.int x1, .int x2, .int x3_17]) rfl hl.1 rfl (Nat.le_of_ble_eq_true rfl) dX11_swap_69 ⟨Nat.zero_le _, Nat.zero_le _⟩ (fun H locs hP hD hS => ?_)
              refine lv_istore (lv' := [(4, .int r_36), (0, .ref (q 0)), (1, .int x1), (2, .int x2), (3, .int x3_17)]) hx hb dX11_swap_72 hl (by decide) rfl (fun ls hl => ?_)
              refine lv_iload hx hb dX11_swap_74 (lv_at hl 0 rfl) ?_
              refine lv_if_lt (tgt := 82) hx hb dX11_swap_76 (by decide) (fun c_37 => ?_) (fun c_37 => ?_)
              · have hZ := jx_i_pos c_37 hZ
                obtain ⟨x3_38, e_x3_38, hZ⟩ := jx_l_some hZ
                refine lv_iinc (v := x3_38) (lv' := [(3, .int x3_38), (4, .int r_36), (0, .ref (q 0)), (1, .int x1), (2, .int x2)]) hx hb dX11_swap_82 hl (k := 4) rfl (by rw [e_x3_38]; rfl) (by decide) rfl (fun ls hl => ?_)
                refine lv_goto (tgt := 59) hx hb dX11_swap_85 (by decide) ?_
                have ho := Option.some.inj hZ
                subst ho
                exact ih_19 x3_38 S_34 _ _ hk_19 hP hD hS _ (lv_sub hl [2, 3, 4, 0] rfl)
              · have hZ := jx_i_neg c_37 hZ
                have ho := Option.some.inj hZ
                subst ho
                have hE := hza_19
                rw [← (show .inr (r_36, S_34) = r_19 from hk_19)] at hE
                have hZ : f_X11_swap_79 r_36 S_34 = some Z := hE
                exact j79 r_36 S_34 _ _ hZ hP hD hS _ (lv_sub hl [0] rfl)
        exact l_19 FU (2 : Int32) S_13 _ _ hw hP hD hS _ (lv_sub hl [1, 2, 3, 0] rfl)
      · have hZ := jx_i_neg c_16 hZ
        refine lv_bipush (v := (-5 : Int32)) hx hb dX11_swap_54 (by decide) ?_
        exact leave_i hx hb hr hlocks hP hS hZ dX11_swap_56
    · have hZ := jx_i_pos c_8 hZ
      refine lv_iconst (v := (-1 : Int32)) hx hb dX11_swap_14 (by decide) ?_
      exact leave_i hx hb hr hlocks hP hS hZ dX11_swap_15
-- X11_yearsWorth
def f_X11_yearsWorth (x1 : Int32) (x2 : Int32) (S : St) : Option (Int32 × St) :=
  jx_a x1 8 (jx_a (3 : Int32) 7 (jx_l (u1 S (40 + 4 * 1 + 3) (Int32.toNatClampNeg (3 : Int32)) (S.1 3 (Int32.toNatClampNeg x1))) (fun S_3 => jx_a x1 8 (jx_a (4 : Int32) 7 (jx_l (u1 S_3 (40 + 4 * 1 + 3) (Int32.toNatClampNeg (4 : Int32)) (S_3.1 2 (Int32.toNatClampNeg x1))) (fun S_6 => jx_a x1 8 (jx_a (5 : Int32) 7 (jx_l (u1 S_6 (40 + 4 * 1 + 3) (Int32.toNatClampNeg (5 : Int32)) (S_6.1 4 (Int32.toNatClampNeg x1))) (fun S_9 => jx_a (6 : Int32) 7 (jx_l (u1 S_9 (40 + 4 * 1 + 3) (Int32.toNatClampNeg (6 : Int32)) x2) (fun S_11 => jx_b2 (f_X8_worked 1 S_11) (fun r_14 S_12 => jx_b2 (f_X11_bounded r_14 (0 : Int32) (9999 : Int32) S_12) (fun r_17 S_15 => some (r_17, S_15))))))))))))))
set_option maxHeartbeats 4000000 in
set_option maxRecDepth 100000 in
theorem c_X11_yearsWorth (l : Launch) (D : va_G) (q : Nat → Nat) (k : CI) (x1 : Int32) (x2 : Int32) (S : St) (sz : Nat) (Z : Int32 × St) (hZ : f_X11_yearsWorth x1 x2 S = some Z) : MetI W_X SX l yX11_yearsWorth wsX11_yearsWorth { frames := 2, cells := 0, slots := 0, locals := 48 } [.ref (q 0), .int x1, .int x2] D q k S sz Z := by
  refine enter (cc := cX11_yearsWorth) (maxL := 3) (ret := some .int) (by decide) rfl (Nat.le_of_ble_eq_true rfl) ?_
  intro p e s m below meth c A ls hx hb hr hts hown hlocks hml hP hK hD hA hS hsp hAe hl
  have hown : s.vm.findClass RX11 = some m.cls := hown
  have hl : lv_has ls 3 [(0, .ref (q 0)), (1, .int x1), (2, .int x2)] := hl
  have in1 : ∀ w ∈ wsX10, w ∈ wsX11_yearsWorth := fun _ h => (List.mem_cons_of_mem _ (List.mem_append_right _ h))
  have in8 : ∀ w ∈ wsX80, w ∈ wsX11_yearsWorth := fun _ h => (List.mem_cons_of_mem _ (List.mem_append_left _ (List.mem_append_right _ h)))
  have in11 : ∀ w ∈ wsX110, w ∈ wsX11_yearsWorth := fun _ h => (List.mem_cons_of_mem _ (List.mem_append_left _ (List.mem_append_left _ (List.mem_append_right _ h))))
  unfold f_X11_yearsWorth at hZ
  refine lv_aload_n hx hb dX11_yearsWorth_0 rfl (lv_at hl 0 rfl) ?_
  refine gf_11_years hx hb hts in11 hown hK hP (hts (.fieldLink RX11 47 "CoinsOfLast" "years" "LCoinsOfLast$Text;") (List.mem_of_getElem? (i := 1) rfl)) dX11_yearsWorth_1 ?_
  refine gn_8_names (show (1 : Nat) < 2 by decide) hx hb hts in8 hown hK hP (hsp.1 _ (List.mem_of_getElem? (i := 34) rfl)) dX11_yearsWorth_4 ?_
  refine lv_iconst (v := (3 : Int32)) hx hb dX11_yearsWorth_7 (by decide) ?_
  refine lv_aload_n hx hb dX11_yearsWorth_8 rfl (lv_at hl 0 rfl) ?_
  refine gf_11_coins hx hb hts in11 hown hK hP (hts (.fieldLink RX11 12 "CoinsOfLast" "coins" "LCoinsOfLast$Coins;") (List.mem_of_getElem? (i := 2) rfl)) dX11_yearsWorth_9 ?_
  refine gn_1_worth hx hb hts in1 hown hK hP (hsp.1 _ (List.mem_of_getElem? (i := 5) rfl)) dX11_yearsWorth_12 ?_
  refine lv_iload_n hx hb dX11_yearsWorth_15 rfl (lv_at hl 1 rfl) ?_
  obtain ⟨c_1, hZ⟩ := jx_a_some hZ
  refine X_iald hx hb hK hP wX_3 c_1 dX11_yearsWorth_16 ?_
  obtain ⟨c_2, hZ⟩ := jx_a_some hZ
  obtain ⟨S_3, e_S_3, hZ⟩ := jx_l_some hZ
  refine X_iast hx hb hK hP hD hS (wX_a8_names (show (1 : Nat) < 2 by decide)) (fun _ => wXs_a8_names (show (1 : Nat) < 2 by decide)) c_2 e_S_3 dX11_yearsWorth_17 (fun H locs hP hD hS => ?_)
  refine lv_aload_n hx hb dX11_yearsWorth_18 rfl (lv_at hl 0 rfl) ?_
  refine gf_11_years hx hb hts in11 hown hK hP (hts (.fieldLink RX11 47 "CoinsOfLast" "years" "LCoinsOfLast$Text;") (List.mem_of_getElem? (i := 1) rfl)) dX11_yearsWorth_19 ?_
  refine gn_8_names (show (1 : Nat) < 2 by decide) hx hb hts in8 hown hK hP (hsp.1 _ (List.mem_of_getElem? (i := 34) rfl)) dX11_yearsWorth_22 ?_
  refine lv_iconst (v := (4 : Int32)) hx hb dX11_yearsWorth_25 (by decide) ?_
  refine lv_aload_n hx hb dX11_yearsWorth_26 rfl (lv_at hl 0 rfl) ?_
  refine gf_11_coins hx hb hts in11 hown hK hP (hts (.fieldLink RX11 12 "CoinsOfLast" "coins" "LCoinsOfLast$Coins;") (List.mem_of_getElem? (i := 2) rfl)) dX11_yearsWorth_27 ?_
  refine gn_1_land hx hb hts in1 hown hK hP (hsp.1 _ (List.mem_of_getElem? (i := 2) rfl)) dX11_yearsWorth_30 ?_
  refine lv_iload_n hx hb dX11_yearsWorth_33 rfl (lv_at hl 1 rfl) ?_
  obtain ⟨c_4, hZ⟩ := jx_a_some hZ
  refine X_iald hx hb hK hP wX_2 c_4 dX11_yearsWorth_34 ?_
  obtain ⟨c_5, hZ⟩ := jx_a_some hZ
  obtain ⟨S_6, e_S_6, hZ⟩ := jx_l_some hZ
  refine X_iast hx hb hK hP hD hS (wX_a8_names (show (1 : Nat) < 2 by decide)) (fun _ => wXs_a8_names (show (1 : Nat) < 2 by decide)) c_5 e_S_6 dX11_yearsWorth_35 (fun H locs hP hD hS => ?_)
  refine lv_aload_n hx hb dX11_yearsWorth_36 rfl (lv_at hl 0 rfl) ?_
  refine gf_11_years hx hb hts in11 hown hK hP (hts (.fieldLink RX11 47 "CoinsOfLast" "years" "LCoinsOfLast$Text;") (List.mem_of_getElem? (i := 1) rfl)) dX11_yearsWorth_37 ?_
  refine gn_8_names (show (1 : Nat) < 2 by decide) hx hb hts in8 hown hK hP (hsp.1 _ (List.mem_of_getElem? (i := 34) rfl)) dX11_yearsWorth_40 ?_
  refine lv_iconst (v := (5 : Int32)) hx hb dX11_yearsWorth_43 (by decide) ?_
  refine lv_aload_n hx hb dX11_yearsWorth_44 rfl (lv_at hl 0 rfl) ?_
  refine gf_11_coins hx hb hts in11 hown hK hP (hts (.fieldLink RX11 12 "CoinsOfLast" "coins" "LCoinsOfLast$Coins;") (List.mem_of_getElem? (i := 2) rfl)) dX11_yearsWorth_45 ?_
  refine gn_1_size hx hb hts in1 hown hK hP (hsp.1 _ (List.mem_of_getElem? (i := 6) rfl)) dX11_yearsWorth_48 ?_
  refine lv_iload_n hx hb dX11_yearsWorth_51 rfl (lv_at hl 1 rfl) ?_
  obtain ⟨c_7, hZ⟩ := jx_a_some hZ
  refine X_iald hx hb hK hP wX_4 c_7 dX11_yearsWorth_52 ?_
  obtain ⟨c_8, hZ⟩ := jx_a_some hZ
  obtain ⟨S_9, e_S_9, hZ⟩ := jx_l_some hZ
  refine X_iast hx hb hK hP hD hS (wX_a8_names (show (1 : Nat) < 2 by decide)) (fun _ => wXs_a8_names (show (1 : Nat) < 2 by decide)) c_8 e_S_9 dX11_yearsWorth_53 (fun H locs hP hD hS => ?_)
  refine lv_aload_n hx hb dX11_yearsWorth_54 rfl (lv_at hl 0 rfl) ?_
  refine gf_11_years hx hb hts in11 hown hK hP (hts (.fieldLink RX11 47 "CoinsOfLast" "years" "LCoinsOfLast$Text;") (List.mem_of_getElem? (i := 1) rfl)) dX11_yearsWorth_55 ?_
  refine gn_8_names (show (1 : Nat) < 2 by decide) hx hb hts in8 hown hK hP (hsp.1 _ (List.mem_of_getElem? (i := 34) rfl)) dX11_yearsWorth_58 ?_
  refine lv_bipush (v := (6 : Int32)) hx hb dX11_yearsWorth_61 (by decide) ?_
  refine lv_iload_n hx hb dX11_yearsWorth_63 rfl (lv_at hl 2 rfl) ?_
  obtain ⟨c_10, hZ⟩ := jx_a_some hZ
  obtain ⟨S_11, e_S_11, hZ⟩ := jx_l_some hZ
  refine X_iast hx hb hK hP hD hS (wX_a8_names (show (1 : Nat) < 2 by decide)) (fun _ => wXs_a8_names (show (1 : Nat) < 2 by decide)) c_10 e_S_11 dX11_yearsWorth_64 (fun H locs hP hD hS => ?_)
  refine lv_aload_n hx hb dX11_yearsWorth_65 rfl (lv_at hl 0 rfl) ?_
  refine gf_11_years hx hb hts in11 hown hK hP (hts (.fieldLink RX11 47 "CoinsOfLast" "years" "LCoinsOfLast$Text;") (List.mem_of_getElem? (i := 1) rfl)) dX11_yearsWorth_66 ?_
  obtain ⟨r_14, S_12, hc_13, hZ⟩ := jx_b2_some hZ
  refine call_Vi SX_ok sameX ⟨hx, hb, hml, hown, hts⟩ (c_X8_worked l D q k 1 S_11 _ (r_14, S_12) (show (1 : Nat) < 2 by decide) hc_13) (cwV 0 hts gX11_yearsWorth_X8_worked rfl rfl rfl hd_X8_worked ⟨Nat.le_of_ble_eq_true rfl, Nat.le_of_ble_eq_true rfl⟩) hK hP hD hS hA hsp (va_recv hK hP (ci := 8) (q0 := (40 + 4 * 1)) rfl (wX_o8 (show (1 : Nat) < 2 by decide))) (As := []) rfl hl.1 rfl (Nat.le_of_ble_eq_true rfl) dX11_yearsWorth_69 ⟨Nat.zero_le _, Nat.zero_le _⟩ (fun H locs hP hD hS => ?_)
  refine lv_iconst (v := (0 : Int32)) hx hb dX11_yearsWorth_72 (by decide) ?_
  refine lv_sipush (v := (9999 : Int32)) hx hb dX11_yearsWorth_73 (by decide) ?_
  obtain ⟨r_17, S_15, hc_16, hZ⟩ := jx_b2_some hZ
  refine call_Si SX_ok sameX ⟨hx, hb, hml, hown, hts⟩ (c_X11_bounded l D q k r_14 (0 : Int32) (9999 : Int32) S_12 _ (r_17, S_15)  hc_16) (va_cwS 3 hts gX11_yearsWorth_X11_bounded rfl rfl rfl hd_X11_bounded ⟨Nat.le_of_ble_eq_true rfl, Nat.le_of_ble_eq_true rfl⟩) hK hP hD hS hA hsp (As := [.int r_14, .int (0 : Int32), .int (9999 : Int32)]) rfl hl.1 rfl (Nat.le_of_ble_eq_true rfl) dX11_yearsWorth_76 ⟨Nat.zero_le _, Nat.zero_le _⟩ (fun H locs hP hD hS => ?_)
  exact leave_i hx hb hr hlocks hP hS hZ dX11_yearsWorth_79
