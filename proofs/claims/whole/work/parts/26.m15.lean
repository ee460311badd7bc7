-- X12_row
def f_X12_row_74 (S_18 : St) : Option (Int32 × St) :=
  some ((1 : Int32), S_18)
def b_X12_row_48 (x1 : Int32) (x4 : Int32) (S : St) : Option ((Int32 × St) ⊕ (St)) :=
  (if (60 : Int32) ≤ x4 then some (.inr S) else jx_a (((60 : Int32) * x1) + x4) 360 (jx_l (u2 S 33 (Int32.toNatClampNeg (((60 : Int32) * x1) + x4)) (0 : Int64)) (fun S_23 => jx_l (x4 + 1) (fun x4_24 => some (.inl (x4_24, S_23))))))
def g_X12_row_48 (x1 : Int32) : (Int32 × St) → Option ((Int32 × St) ⊕ (St)) := fun z => b_X12_row_48 x1 z.1 z.2
def f_X12_row (x1 : Int32) (x2 : Int32) (x3 : Int32) (S : St) : Option (Int32 × St) :=
  jx_b2 (f_X12_isShelf x1 S) (fun r_3 S_1 => (if r_3 = 0 then some ((-1 : Int32), S_1) else jx_b2 (f_X12_in x2 (0 : Int32) (4 : Int32) S_1) (fun r_7 S_5 => (if r_7 = 0 then some ((-1 : Int32), S_5) else (if x3 ≤ (60 : Int32) then (if 0 ≤ x3 then jx_a x1 6 (jx_l (u1 S_5 31 (Int32.toNatClampNeg x1) x2) (fun S_12 => jx_a x1 6 (jx_l (u1 S_12 32 (Int32.toNatClampNeg x1) x3) (fun S_14 => jx_b (jx_w (g_X12_row_48 x1) FU ((0 : Int32), S_14)) (fun z => f_X12_row_74 z))))) else some ((-14 : Int32), S_5)) else some ((-1 : Int32), S_5))))))
set_option maxHeartbeats 4000000 in
set_option maxRecDepth 100000 in
theorem c_X12_row (l : Launch) (D : va_G) (q : Nat → Nat) (k : CI) (x1 : Int32) (x2 : Int32) (x3 : Int32) (S : St) (sz : Nat) (Z : Int32 × St) (hZ : f_X12_row x1 x2 x3 S = some Z) : MetI W_M SM l yX12_row wsX12_row { frames := 2, cells := 0, slots := 0, locals := 42 } [.ref (q 0), .int x1, .int x2, .int x3] D q k S sz Z := by
  refine enter (cc := cX12_row) (maxL := 5) (ret := some .int) (by decide) rfl (Nat.le_of_ble_eq_true rfl) ?_
  intro p e s m below meth c A ls hx hb hr hts hown hlocks hml hP hK hD hA hS hsp hAe hl
  have hown : s.vm.findClass RX12 = some m.cls := hown
  have hl : lv_has ls 5 [(0, .ref (q 0)), (1, .int x1), (2, .int x2), (3, .int x3)] := hl
  have in12 : ∀ w ∈ wsX120, w ∈ wsX12_row := fun _ h => (List.mem_cons_of_mem _ (List.mem_append_right _ h))
  have j74 : ∀ (S_18 : St)  (H : Heap) (locs : List Loc) (hZ : f_X12_row_74 S_18 = some Z) (hP : va_P D vwCl (W_M q k S_18) H) (hD : va_D A (W_M q k S_18)) (hS : va_S A s.heap H locs) (ls : Array Slot) (hl : lv_has ls 5 []), W p l e ({ frames := 2, cells := 0, slots := 0, locals := 42 } : Room) s m ([.ref (q 0), .int x1, .int x2, .int x3] : List Value).toArray below meth c H locs 0 0 (MQ below (va_Qi (fun r u => (r, u) = Z) (fun u t => va_P D vwCl (W_M q k u) t.heap) A) ([.ref (q 0), .int x1, .int x2, .int x3] : List Value).toArray s 0 0 A) (F0 m 74 ls []) := by
    intro S_18   H locs hZ hP hD hS ls hl
    unfold f_X12_row_74 at hZ
    refine lv_iconst (v := (1 : Int32)) hx hb dX12_row_74 (by decide) ?_
    exact leave_i hx hb hr hlocks hP hS hZ dX12_row_75
  unfold f_X12_row at hZ
  refine lv_iload_n hx hb dX12_row_0 rfl (lv_at hl 1 rfl) ?_
  obtain ⟨r_3, S_1, hc_2, hZ⟩ := jx_b2_some hZ
  refine call_Si SM_ok sameM ⟨hx, hb, hml, hown, hts⟩ (c_X12_isShelf l D q k x1 S _ (r_3, S_1)  hc_2) (va_cwS 1 hts gX12_row_X12_isShelf rfl rfl rfl hd_X12_isShelf ⟨Nat.le_of_ble_eq_true rfl, Nat.le_of_ble_eq_true rfl⟩) hK hP hD hS hA hsp (As := [.int x1]) rfl hl.1 rfl (Nat.le_of_ble_eq_true rfl) dX12_row_1 ⟨Nat.zero_le _, Nat.zero_le _⟩ (fun H locs hP hD hS => ?_)
  refine lv_if_eq (tgt := 22) hx hb dX12_row_4 (by decide) (fun c_4 => ?_) (fun c_4 => ?_)
  · have hZ := jx_i_pos c_4 hZ
    refine lv_iconst (v := (-1 : Int32)) hx hb dX12_row_22 (by decide) ?_
    exact leave_i hx hb hr hlocks hP hS hZ dX12_row_23
  · have hZ := jx_i_neg c_4 hZ
    refine lv_iload_n hx hb dX12_row_7 rfl (lv_at hl 2 rfl) ?_
    refine lv_iconst (v := (0 : Int32)) hx hb dX12_row_8 (by decide) ?_
    refine lv_iconst (v := (4 : Int32)) hx hb dX12_row_9 (by decide) ?_
    obtain ⟨r_7, S_5, hc_6, hZ⟩ := jx_b2_some hZ
    refine call_Si SM_ok sameM ⟨hx, hb, hml, hown, hts⟩ (c_X12_in l D q k x2 (0 : Int32) (4 : Int32) S_1 _ (r_7, S_5)  hc_6) (va_cwS 3 hts gX12_row_X12_in rfl rfl rfl hd_X12_in ⟨Nat.le_of_ble_eq_true rfl, Nat.le_of_ble_eq_true rfl⟩) hK hP hD hS hA hsp (As := [.int x2, .int (0 : Int32), .int (4 : Int32)]) rfl hl.1 rfl (Nat.le_of_ble_eq_true rfl) dX12_row_10 ⟨Nat.zero_le _, Nat.zero_le _⟩ (fun H locs hP hD hS => ?_)
    refine lv_if_eq (tgt := 22) hx hb dX12_row_13 (by decide) (fun c_8 => ?_) (fun c_8 => ?_)
    · have hZ := jx_i_pos c_8 hZ
      refine lv_iconst (v := (-1 : Int32)) hx hb dX12_row_22 (by decide) ?_
      exact leave_i hx hb hr hlocks hP hS hZ dX12_row_23
    · have hZ := jx_i_neg c_8 hZ
      refine lv_iload_n hx hb dX12_row_16 rfl (lv_at hl 3 rfl) ?_
      refine lv_bipush (v := (60 : Int32)) hx hb dX12_row_17 (by decide) ?_
      refine lv_icmp_le (tgt := 24) hx hb dX12_row_19 (by decide) (fun c_9 => ?_) (fun c_9 => ?_)
      · have hZ := jx_i_pos c_9 hZ
        refine lv_iload_n hx hb dX12_row_24 rfl (lv_at hl 3 rfl) ?_
        refine lv_if_ge (tgt := 31) hx hb dX12_row_25 (by decide) (fun c_10 => ?_) (fun c_10 => ?_)
        · have hZ := jx_i_pos c_10 hZ
          refine lv_aload_n hx hb dX12_row_31 rfl (lv_at hl 0 rfl) ?_
          refine gf_12_shelfIs hx hb hts in12 hown hK hP (hts (.fieldLink RX12 102 "CoinsOfLastModel" "shelfIs" "[I") (List.mem_of_getElem? (i := 1) rfl)) dX12_row_32 ?_
          refine lv_iload_n hx hb dX12_row_35 rfl (lv_at hl 1 rfl) ?_
          refine lv_iload_n hx hb dX12_row_36 rfl (lv_at hl 2 rfl) ?_
          obtain ⟨c_11, hZ⟩ := jx_a_some hZ
          obtain ⟨S_12, e_S_12, hZ⟩ := jx_l_some hZ
          refine M_iast hx hb hK hP hD hS wM_31 (fun _ => wMs_31) c_11 e_S_12 dX12_row_37 (fun H locs hP hD hS => ?_)
          refine lv_aload_n hx hb dX12_row_38 rfl (lv_at hl 0 rfl) ?_
          refine gf_12_shelfSize hx hb hts in12 hown hK hP (hts (.fieldLink RX12 105 "CoinsOfLastModel" "shelfSize" "[I") (List.mem_of_getElem? (i := 2) rfl)) dX12_row_39 ?_
          refine lv_iload_n hx hb dX12_row_42 rfl (lv_at hl 1 rfl) ?_
          refine lv_iload_n hx hb dX12_row_43 rfl (lv_at hl 3 rfl) ?_
          obtain ⟨c_13, hZ⟩ := jx_a_some hZ
          obtain ⟨S_14, e_S_14, hZ⟩ := jx_l_some hZ
          refine M_iast hx hb hK hP hD hS wM_32 (fun _ => wMs_32) c_13 e_S_14 dX12_row_44 (fun H locs hP hD hS => ?_)
          refine lv_iconst (v := (0 : Int32)) hx hb dX12_row_45 (by decide) ?_
          refine lv_istore (lv' := [(4, .int (0 : Int32)), (0, .ref (q 0)), (1, .int x1), (2, .int x2), (3, .int x3)]) hx hb dX12_row_46 hl (by decide) rfl (fun ls hl => ?_)
          obtain ⟨r_17, hw, hza_17⟩ := jx_b_some hZ
          have l_17 : ∀ (nn : Nat) (x4_15 : Int32) (S_16 : St) (H : Heap) (locs : List Loc) (hw : jx_w (g_X12_row_48 x1) nn (x4_15, S_16) = some r_17) (hP : va_P D vwCl (W_M q k S_16) H) (hD : va_D A (W_M q k S_16)) (hS : va_S A s.heap H locs) (ls : Array Slot) (hl : lv_has ls 5 [(0, .ref (q 0)), (1, .int x1), (4, .int x4_15)]), W p l e ({ frames := 2, cells := 0, slots := 0, locals := 42 } : Room) s m ([.ref (q 0), .int x1, .int x2, .int x3] : List Value).toArray below meth c H locs 0 0 (MQ below (va_Qi (fun r u => (r, u) = Z) (fun u t => va_P D vwCl (W_M q k u) t.heap) A) ([.ref (q 0), .int x1, .int x2, .int x3] : List Value).toArray s 0 0 A) (F0 m 48 ls []) := by
            intro nn
            induction nn with
            | zero =>
              intro x4_15 S_16 H locs hw hP hD hS ls hl
              exact jx_w_zero hw
            | succ n_17 ih_17 =>
              intro x4_15 S_16 H locs hw hP hD hS ls hl
              obtain ⟨o_17, hZ, hk_17⟩ := jx_w_succ hw
              have hZ : b_X12_row_48 x1 x4_15 S_16 = some o_17 := hZ
              unfold b_X12_row_48 at hZ
              refine lv_iload hx hb dX12_row_48 (lv_at hl 2 rfl) ?_
              refine lv_bipush (v := (60 : Int32)) hx hb dX12_row_50 (by decide) ?_
              refine lv_icmp_ge (tgt := 74) hx hb dX12_row_52 (by decide) (fun c_25 => ?_) (fun c_25 => ?_)
              · have hZ := jx_i_pos c_25 hZ
                have ho := Option.some.inj hZ
                subst ho
                have hE := hza_17
                rw [← (show S_16 = r_17 from hk_17)] at hE
                have hZ : f_X12_row_74 S_16 = some Z := hE
                exact j74 S_16 _ _ hZ hP hD hS _ (lv_sub hl [] rfl)
              · have hZ := jx_i_neg c_25 hZ
                refine lv_aload_n hx hb dX12_row_55 rfl (lv_at hl 0 rfl) ?_
                refine gf_12_items hx hb hts in12 hown hK hP (hts (.fieldLink RX12 108 "CoinsOfLastModel" "items" "[J") (List.mem_of_getElem? (i := 3) rfl)) dX12_row_56 ?_
                refine lv_bipush (v := (60 : Int32)) hx hb dX12_row_59 (by decide) ?_
                refine lv_iload_n hx hb dX12_row_61 rfl (lv_at hl 1 rfl) ?_
                refine lv_imul hx hb dX12_row_62 ?_
                refine lv_iload hx hb dX12_row_63 (lv_at hl 2 rfl) ?_
                refine lv_iadd hx hb dX12_row_65 ?_
                refine lv_lconst (v := (0 : Int64)) hx hb dX12_row_66 (by decide) ?_
                obtain ⟨c_27, hZ⟩ := jx_a_some hZ
                obtain ⟨S_28, e_S_28, hZ⟩ := jx_l_some hZ
                refine M_last hx hb hK hP hD hS wM_33 (fun _ => wMs_33) c_27 e_S_28 dX12_row_67 (fun H locs hP hD hS => ?_)
                obtain ⟨x4_29, e_x4_29, hZ⟩ := jx_l_some hZ
                refine lv_iinc (v := x4_29) (lv' := [(4, .int x4_29), (0, .ref (q 0)), (1, .int x1)]) hx hb dX12_row_68 hl (k := 2) rfl (by rw [e_x4_29]; rfl) (by decide) rfl (fun ls hl => ?_)
                refine lv_goto (tgt := 48) hx hb dX12_row_71 (by decide) ?_
                have ho := Option.some.inj hZ
                subst ho
                exact ih_17 x4_29 S_28 _ _ hk_17 hP hD hS _ (lv_sub hl [1, 2, 0] rfl)
          exact l_17 FU (0 : Int32) S_14 _ _ hw hP hD hS _ (lv_sub hl [1, 2, 0] rfl)
        · have hZ := jx_i_neg c_10 hZ
          refine lv_bipush (v := (-14 : Int32)) hx hb dX12_row_28 (by decide) ?_
          exact leave_i hx hb hr hlocks hP hS hZ dX12_row_30
      · have hZ := jx_i_neg c_9 hZ
        refine lv_iconst (v := (-1 : Int32)) hx hb dX12_row_22 (by decide) ?_
        exact leave_i hx hb hr hlocks hP hS hZ dX12_row_23
-- X12_cut
def f_X12_cut (x0 : Int32) (x1 : Int64) (S : St) : Option (Int64 × St) :=
  (if x0 = 0 then some ((Int32.toInt64 ((Int32.toInt8 (Int64.toInt32 x1)).toInt32)), S) else (if x0 = (1 : Int32) then some ((Int32.toInt64 ((Int32.toInt16 (Int64.toInt32 x1)).toInt32)), S) else (if x0 = (2 : Int32) then some ((Int32.toInt64 (Int64.toInt32 x1)), S) else (if x0 = (3 : Int32) then some (x1, S) else (if (lg_cmp x1 (0 : Int64)) = 0 then some ((0 : Int64), S) else some ((1 : Int64), S))))))
set_option maxHeartbeats 4000000 in
set_option maxRecDepth 100000 in
theorem c_X12_cut (l : Launch) (D : va_G) (q : Nat → Nat) (k : CI) (x0 : Int32) (x1 : Int64) (S : St) (sz : Nat) (Z : Int64 × St) (hZ : f_X12_cut x0 x1 S = some Z) : MetL W_M SM l yX12_cut wsX12_cut { frames := 0, cells := 0, slots := 0, locals := 0 } [.int x0, .long x1] D q k S sz Z := by
  refine enter (cc := cX12_cut) (maxL := 3) (ret := some .long) (by decide) rfl (Nat.le_of_ble_eq_true rfl) ?_
  intro p e s m below meth c A ls hx hb hr hts hown hlocks hml hP hK hD hA hS hsp hAe hl
  have hown : s.vm.findClass RX12 = some m.cls := hown
  have hl : lv_has ls 3 [(0, .int x0), (1, .long x1)] := hl
  unfold f_X12_cut at hZ
  refine lv_iload_n hx hb dX12_cut_0 rfl (lv_at hl 0 rfl) ?_
  refine lv_if_ne (tgt := 11) hx hb dX12_cut_1 (by decide) (fun c_1 => ?_) (fun c_1 => ?_)
  · have hZ := jx_i_neg c_1 hZ
    refine lv_iload_n hx hb dX12_cut_11 rfl (lv_at hl 0 rfl) ?_
    refine lv_iconst (v := (1 : Int32)) hx hb dX12_cut_12 (by decide) ?_
    refine lv_icmp_ne (tgt := 23) hx hb dX12_cut_13 (by decide) (fun c_2 => ?_) (fun c_2 => ?_)
    · have hZ := jx_i_neg c_2 hZ
      refine lv_iload_n hx hb dX12_cut_23 rfl (lv_at hl 0 rfl) ?_
      refine lv_iconst (v := (2 : Int32)) hx hb dX12_cut_24 (by decide) ?_
      refine lv_icmp_ne (tgt := 34) hx hb dX12_cut_25 (by decide) (fun c_3 => ?_) (fun c_3 => ?_)
      · have hZ := jx_i_neg c_3 hZ
        refine lv_iload_n hx hb dX12_cut_34 rfl (lv_at hl 0 rfl) ?_
        refine lv_iconst (v := (3 : Int32)) hx hb dX12_cut_35 (by decide) ?_
        refine lv_icmp_ne (tgt := 43) hx hb dX12_cut_36 (by decide) (fun c_4 => ?_) (fun c_4 => ?_)
        · have hZ := jx_i_neg c_4 hZ
          refine lv_lload_n hx hb dX12_cut_43 rfl (lv_at hl 1 rfl) ?_
          refine lv_lconst (v := (0 : Int64)) hx hb dX12_cut_44 (by decide) ?_
          refine W.lcmp hx hb dX12_cut_45 ?_
          refine lv_if_eq (tgt := 53) hx hb dX12_cut_46 (by decide) (fun c_5 => ?_) (fun c_5 => ?_)
          · have hZ := jx_i_pos c_5 hZ
            refine lv_lconst (v := (0 : Int64)) hx hb dX12_cut_53 (by decide) ?_
            exact leave_l hx hb hr hlocks hP hS hZ dX12_cut_54
          · have hZ := jx_i_neg c_5 hZ
            refine lv_lconst (v := (1 : Int64)) hx hb dX12_cut_49 (by decide) ?_
            refine lv_goto (tgt := 54) hx hb dX12_cut_50 (by decide) ?_
            exact leave_l hx hb hr hlocks hP hS hZ dX12_cut_54
        · have hZ := jx_i_pos c_4 hZ
          refine lv_lload_n hx hb dX12_cut_39 rfl (lv_at hl 1 rfl) ?_
          refine lv_goto (tgt := 54) hx hb dX12_cut_40 (by decide) ?_
          exact leave_l hx hb hr hlocks hP hS hZ dX12_cut_54
      · have hZ := jx_i_pos c_3 hZ
        refine lv_lload_n hx hb dX12_cut_28 rfl (lv_at hl 1 rfl) ?_
        refine lv_l2i (v := (Int64.toInt32 x1)) hx hb dX12_cut_29 rfl ?_
        refine lv_i2l (v := (Int32.toInt64 (Int64.toInt32 x1))) hx hb dX12_cut_30 rfl ?_
        refine lv_goto (tgt := 54) hx hb dX12_cut_31 (by decide) ?_
        exact leave_l hx hb hr hlocks hP hS hZ dX12_cut_54
    · have hZ := jx_i_pos c_2 hZ
      refine lv_lload_n hx hb dX12_cut_16 rfl (lv_at hl 1 rfl) ?_
      refine lv_l2i (v := (Int64.toInt32 x1)) hx hb dX12_cut_17 rfl ?_
      refine lv_i2s (v := ((Int32.toInt16 (Int64.toInt32 x1)).toInt32)) hx hb dX12_cut_18 rfl ?_
      refine lv_i2l (v := (Int32.toInt64 ((Int32.toInt16 (Int64.toInt32 x1)).toInt32))) hx hb dX12_cut_19 rfl ?_
      refine lv_goto (tgt := 54) hx hb dX12_cut_20 (by decide) ?_
      exact leave_l hx hb hr hlocks hP hS hZ dX12_cut_54
  · have hZ := jx_i_pos c_1 hZ
    refine lv_lload_n hx hb dX12_cut_4 rfl (lv_at hl 1 rfl) ?_
    refine lv_l2i (v := (Int64.toInt32 x1)) hx hb dX12_cut_5 rfl ?_
    refine lv_i2b (v := ((Int32.toInt8 (Int64.toInt32 x1)).toInt32)) hx hb dX12_cut_6 rfl ?_
    refine lv_i2l (v := (Int32.toInt64 ((Int32.toInt8 (Int64.toInt32 x1)).toInt32))) hx hb dX12_cut_7 rfl ?_
    refine lv_goto (tgt := 54) hx hb dX12_cut_8 (by decide) ?_
    exact leave_l hx hb hr hlocks hP hS hZ dX12_cut_54
-- X12_shelfWrong
def f_X12_shelfWrong (x1 : Int32) (S : St) : Option (Int32 × St) :=
  jx_b2 (f_X12_isShelf x1 S) (fun r_3 S_1 => (if r_3 = 0 then some ((-1 : Int32), S_1) else jx_a x1 6 ((if (S_1.1 31 (Int32.toNatClampNeg x1)) = (-1 : Int32) then some ((-11 : Int32), S_1) else jx_a x1 6 ((if (S_1.1 31 (Int32.toNatClampNeg x1)) = (5 : Int32) then some ((-12 : Int32), S_1) else some ((0 : Int32), S_1)))))))
set_option maxHeartbeats 4000000 in
set_option maxRecDepth 100000 in
theorem c_X12_shelfWrong (l : Launch) (D : va_G) (q : Nat → Nat) (k : CI) (x1 : Int32) (S : St) (sz : Nat) (Z : Int32 × St) (hZ : f_X12_shelfWrong x1 S = some Z) : MetI W_M SM l yX12_shelfWrong wsX12_shelfWrong { frames := 2, cells := 0, slots := 0, locals := 42 } [.ref (q 0), .int x1] D q k S sz Z := by
  refine enter (cc := cX12_shelfWrong) (maxL := 2) (ret := some .int) (by decide) rfl (Nat.le_of_ble_eq_true rfl) ?_
  intro p e s m below meth c A ls hx hb hr hts hown hlocks hml hP hK hD hA hS hsp hAe hl
  have hown : s.vm.findClass RX12 = some m.cls := hown
  have hl : lv_has ls 2 [(0, .ref (q 0)), (1, .int x1)] := hl
  have in12 : ∀ w ∈ wsX120, w ∈ wsX12_shelfWrong := fun _ h => (List.mem_cons_of_mem _ (List.mem_append_right _ h))
  unfold f_X12_shelfWrong at hZ
  refine lv_iload_n hx hb dX12_shelfWrong_0 rfl (lv_at hl 1 rfl) ?_
  obtain ⟨r_3, S_1, hc_2, hZ⟩ := jx_b2_some hZ
  refine call_Si SM_ok sameM ⟨hx, hb, hml, hown, hts⟩ (c_X12_isShelf l D q k x1 S _ (r_3, S_1)  hc_2) (va_cwS 1 hts gX12_shelfWrong_X12_isShelf rfl rfl rfl hd_X12_isShelf ⟨Nat.le_of_ble_eq_true rfl, Nat.le_of_ble_eq_true rfl⟩) hK hP hD hS hA hsp (As := [.int x1]) rfl hl.1 rfl (Nat.le_of_ble_eq_true rfl) dX12_shelfWrong_1 ⟨Nat.zero_le _, Nat.zero_le _⟩ (fun H locs hP hD hS => ?_)
  refine lv_if_ne (tgt := 11) hx hb dX12_shelfWrong_4 (by decide) (fun c_4 => ?_) (fun c_4 => ?_)
  · have hZ := jx_i_neg c_4 hZ
    refine lv_aload_n hx hb dX12_shelfWrong_11 rfl (lv_at hl 0 rfl) ?_
    refine gf_12_shelfIs hx hb hts in12 hown hK hP (hts (.fieldLink RX12 102 "CoinsOfLastModel" "shelfIs" "[I") (List.mem_of_getElem? (i := 1) rfl)) dX12_shelfWrong_12 ?_
    refine lv_iload_n hx hb dX12_shelfWrong_15 rfl (lv_at hl 1 rfl) ?_
    obtain ⟨c_5, hZ⟩ := jx_a_some hZ
    refine M_iald hx hb hK hP wM_31 c_5 dX12_shelfWrong_16 ?_
    refine lv_iconst (v := (-1 : Int32)) hx hb dX12_shelfWrong_17 (by decide) ?_
    refine lv_icmp_ne (tgt := 26) hx hb dX12_shelfWrong_18 (by decide) (fun c_6 => ?_) (fun c_6 => ?_)
    · have hZ := jx_i_neg c_6 hZ
      refine lv_aload_n hx hb dX12_shelfWrong_26 rfl (lv_at hl 0 rfl) ?_
      refine gf_12_shelfIs hx hb hts in12 hown hK hP (hts (.fieldLink RX12 102 "CoinsOfLastModel" "shelfIs" "[I") (List.mem_of_getElem? (i := 1) rfl)) dX12_shelfWrong_27 ?_
      refine lv_iload_n hx hb dX12_shelfWrong_30 rfl (lv_at hl 1 rfl) ?_
      obtain ⟨c_7, hZ⟩ := jx_a_some hZ
      refine M_iald hx hb hK hP wM_31 c_7 dX12_shelfWrong_31 ?_
      refine lv_iconst (v := (5 : Int32)) hx hb dX12_shelfWrong_32 (by decide) ?_
      refine lv_icmp_ne (tgt := 41) hx hb dX12_shelfWrong_33 (by decide) (fun c_8 => ?_) (fun c_8 => ?_)
      · have hZ := jx_i_neg c_8 hZ
        refine lv_iconst (v := (0 : Int32)) hx hb dX12_shelfWrong_41 (by decide) ?_
        exact leave_i hx hb hr hlocks hP hS hZ dX12_shelfWrong_42
      · have hZ := jx_i_pos c_8 hZ
        refine lv_bipush (v := (-12 : Int32)) hx hb dX12_shelfWrong_36 (by decide) ?_
        refine lv_goto (tgt := 42) hx hb dX12_shelfWrong_38 (by decide) ?_
        exact leave_i hx hb hr hlocks hP hS hZ dX12_shelfWrong_42
    · have hZ := jx_i_pos c_6 hZ
      refine lv_bipush (v := (-11 : Int32)) hx hb dX12_shelfWrong_21 (by decide) ?_
      refine lv_goto (tgt := 42) hx hb dX12_shelfWrong_23 (by decide) ?_
      exact leave_i hx hb hr hlocks hP hS hZ dX12_shelfWrong_42
  · have hZ := jx_i_pos c_4 hZ
    refine lv_iconst (v := (-1 : Int32)) hx hb dX12_shelfWrong_7 (by decide) ?_
    refine lv_goto (tgt := 42) hx hb dX12_shelfWrong_8 (by decide) ?_
    exact leave_i hx hb hr hlocks hP hS hZ dX12_shelfWrong_42
theorem hd_X12_cut : yX12_cut.cls ≠ "java/lang/invoke/MethodHandle" ∧ yX12_cut.cls ≠ "java/lang/invoke/VarHandle" ∧ (parseMethodDescriptor yX12_cut.desc).map (fun d => d.parameters.length) = some 2 := by decide +kernel
theorem hd_X12_shelfWrong : yX12_shelfWrong.cls = RX12 ∧ yX12_shelfWrong.cls ≠ "java/lang/invoke/MethodHandle" ∧ yX12_shelfWrong.cls ≠ "java/lang/invoke/VarHandle" ∧ (parseMethodDescriptor yX12_shelfWrong.desc).map (fun d => d.parameters.length) = some 1 := by decide +kernel
-- X12_put
def f_X12_put (x1 : Int32) (x2 : Int32) (x3 : Int64) (S : St) : Option (Int32 × St) :=
  jx_b2 (f_X12_shelfWrong x1 S) (fun r_3 S_1 => (if r_3 = 0 then jx_a x1 6 (jx_b2 (f_X12_in x2 (0 : Int32) ((S_1.1 32 (Int32.toNatClampNeg x1)) - (1 : Int32)) S_1) (fun r_8 S_6 => (if r_8 = 0 then some ((-13 : Int32), S_6) else jx_a x1 6 (jx_b2 (f_X12_cut (S_6.1 31 (Int32.toNatClampNeg x1)) x3 S_6) (fun r_13 S_11 => jx_a (((60 : Int32) * x1) + x2) 360 (jx_l (u2 S_11 33 (Int32.toNatClampNeg (((60 : Int32) * x1) + x2)) r_13) (fun S_15 => some ((1 : Int32), S_15)))))))) else some (r_3, S_1)))
set_option maxHeartbeats 4000000 in
set_option maxRecDepth 100000 in
theorem c_X12_put (l : Launch) (D : va_G) (q : Nat → Nat) (k : CI) (x1 : Int32) (x2 : Int32) (x3 : Int64) (S : St) (sz : Nat) (Z : Int32 × St) (hZ : f_X12_put x1 x2 x3 S = some Z) : MetI W_M SM l yX12_put wsX12_put { frames := 3, cells := 0, slots := 0, locals := 63 } [.ref (q 0), .int x1, .int x2, .long x3] D q k S sz Z := by
  refine enter (cc := cX12_put) (maxL := 6) (ret := some .int) (by decide) rfl (Nat.le_of_ble_eq_true rfl) ?_
  intro p e s m below meth c A ls hx hb hr hts hown hlocks hml hP hK hD hA hS hsp hAe hl
  have hown : s.vm.findClass RX12 = some m.cls := hown
  have hl : lv_has ls 6 [(0, .ref (q 0)), (1, .int x1), (2, .int x2), (3, .long x3)] := hl
  have in12 : ∀ w ∈ wsX120, w ∈ wsX12_put := fun _ h => (List.mem_cons_of_mem _ (List.mem_append_right _ h))
  unfold f_X12_put at hZ
  refine lv_aload_n hx hb dX12_put_0 rfl (lv_at hl 0 rfl) ?_
  refine lv_iload_n hx hb dX12_put_1 rfl (lv_at hl 1 rfl) ?_
  obtain ⟨r_3, S_1, hc_2, hZ⟩ := jx_b2_some hZ
  refine call_Vi SM_ok sameM ⟨hx, hb, hml, hown, hts⟩ (c_X12_shelfWrong l D q k x1 S _ (r_3, S_1)  hc_2) (cwV 1 hts gX12_put_X12_shelfWrong rfl rfl rfl hd_X12_shelfWrong ⟨Nat.le_of_ble_eq_true rfl, Nat.le_of_ble_eq_true rfl⟩) hK hP hD hS hA hsp (va_recv hK hP (ci := 12) (q0 := 0) rfl wM_0) (As := [.int x1]) rfl hl.1 rfl (Nat.le_of_ble_eq_true rfl) dX12_put_2 ⟨Nat.zero_le _, Nat.zero_le _⟩ (fun H locs hP hD hS => ?_)
  refine lv_istore (lv' := [(5, .int r_3), (0, .ref (q 0)), (1, .int x1), (2, .int x2), (3, .long x3)]) hx hb dX12_put_5 hl (by decide) rfl (fun ls hl => ?_)
  refine lv_iload hx hb dX12_put_7 (lv_at hl 0 rfl) ?_
  refine lv_if_eq (tgt := 15) hx hb dX12_put_9 (by decide) (fun c_4 => ?_) (fun c_4 => ?_)
  · have hZ := jx_i_pos c_4 hZ
    refine lv_iload_n hx hb dX12_put_15 rfl (lv_at hl 3 rfl) ?_
    refine lv_iconst (v := (0 : Int32)) hx hb dX12_put_16 (by decide) ?_
    refine lv_aload_n hx hb dX12_put_17 rfl (lv_at hl 1 rfl) ?_
    refine gf_12_shelfSize hx hb hts in12 hown hK hP (hts (.fieldLink RX12 105 "CoinsOfLastModel" "shelfSize" "[I") (List.mem_of_getElem? (i := 1) rfl)) dX12_put_18 ?_
    refine lv_iload_n hx hb dX12_put_21 rfl (lv_at hl 2 rfl) ?_
    obtain ⟨c_5, hZ⟩ := jx_a_some hZ
    refine M_iald hx hb hK hP wM_32 c_5 dX12_put_22 ?_
    refine lv_iconst (v := (1 : Int32)) hx hb dX12_put_23 (by decide) ?_
    refine lv_isub hx hb dX12_put_24 ?_
    obtain ⟨r_8, S_6, hc_7, hZ⟩ := jx_b2_some hZ
    refine call_Si SM_ok sameM ⟨hx, hb, hml, hown, hts⟩ (c_X12_in l D q k x2 (0 : Int32) ((S_1.1 32 (Int32.toNatClampNeg x1)) - (1 : Int32)) S_1 _ (r_8, S_6)  hc_7) (va_cwS 3 hts gX12_put_X12_in rfl rfl rfl hd_X12_in ⟨Nat.le_of_ble_eq_true rfl, Nat.le_of_ble_eq_true rfl⟩) hK hP hD hS hA hsp (As := [.int x2, .int (0 : Int32), .int ((S_1.1 32 (Int32.toNatClampNeg x1)) - (1 : Int32))]) rfl hl.1 rfl (Nat.le_of_ble_eq_true rfl) dX12_put_25 ⟨Nat.zero_le _, Nat.zero_le _⟩ (fun H locs hP hD hS => ?_)
    refine lv_if_ne (tgt := 34) hx hb dX12_put_28 (by decide) (fun c_9 => ?_) (fun c_9 => ?_)
    · have hZ := jx_i_neg c_9 hZ
      refine lv_aload_n hx hb dX12_put_34 rfl (lv_at hl 1 rfl) ?_
      refine gf_12_items hx hb hts in12 hown hK hP (hts (.fieldLink RX12 108 "CoinsOfLastModel" "items" "[J") (List.mem_of_getElem? (i := 2) rfl)) dX12_put_35 ?_
      refine lv_bipush (v := (60 : Int32)) hx hb dX12_put_38 (by decide) ?_
      refine lv_iload_n hx hb dX12_put_40 rfl (lv_at hl 2 rfl) ?_
      refine lv_imul hx hb dX12_put_41 ?_
      refine lv_iload_n hx hb dX12_put_42 rfl (lv_at hl 3 rfl) ?_
      refine lv_iadd hx hb dX12_put_43 ?_
      refine lv_aload_n hx hb dX12_put_44 rfl (lv_at hl 1 rfl) ?_
      refine gf_12_shelfIs hx hb hts in12 hown hK hP (hts (.fieldLink RX12 102 "CoinsOfLastModel" "shelfIs" "[I") (List.mem_of_getElem? (i := 3) rfl)) dX12_put_45 ?_
      refine lv_iload_n hx hb dX12_put_48 rfl (lv_at hl 2 rfl) ?_
      obtain ⟨c_10, hZ⟩ := jx_a_some hZ
      refine M_iald hx hb hK hP wM_31 c_10 dX12_put_49 ?_
      refine lv_lload_n hx hb dX12_put_50 rfl (lv_at hl 4 rfl) ?_
      obtain ⟨r_13, S_11, hc_12, hZ⟩ := jx_b2_some hZ
      refine call_Sl SM_ok sameM ⟨hx, hb, hml, hown, hts⟩ (c_X12_cut l D q k (S_6.1 31 (Int32.toNatClampNeg x1)) x3 S_6 _ (r_13, S_11)  hc_12) (va_cwS 2 hts gX12_put_X12_cut rfl rfl rfl hd_X12_cut ⟨Nat.le_of_ble_eq_true rfl, Nat.le_of_ble_eq_true rfl⟩) hK hP hD hS hA hsp (As := [.int (S_6.1 31 (Int32.toNatClampNeg x1)), .long x3]) rfl hl.1 rfl (Nat.le_of_ble_eq_true rfl) dX12_put_51 ⟨Nat.zero_le _, Nat.zero_le _⟩ (fun H locs hP hD hS => ?_)
      obtain ⟨c_14, hZ⟩ := jx_a_some hZ
      obtain ⟨S_15, e_S_15, hZ⟩ := jx_l_some hZ
      refine M_last hx hb hK hP hD hS wM_33 (fun _ => wMs_33) c_14 e_S_15 dX12_put_54 (fun H locs hP hD hS => ?_)
      refine lv_iconst (v := (1 : Int32)) hx hb dX12_put_55 (by decide) ?_
      exact leave_i hx hb hr hlocks hP hS hZ dX12_put_56
    · have hZ := jx_i_pos c_9 hZ
      refine lv_bipush (v := (-13 : Int32)) hx hb dX12_put_31 (by decide) ?_
      exact leave_i hx hb hr hlocks hP hS hZ dX12_put_33
  · have hZ := jx_i_neg c_4 hZ
    refine lv_iload hx hb dX12_put_12 (lv_at hl 0 rfl) ?_
    exact leave_i hx hb hr hlocks hP hS hZ dX12_put_14
-- X12_element
def f_X12_element_38 (S_5 : St) : Option (Int64 × St) :=
  some ((-9223372036854775808 : Int64), S_5)
def f_X12_element (x1 : Int32) (x2 : Int32) (S : St) : Option (Int64 × St) :=
  jx_b2 (f_X12_shelfWrong x1 S) (fun r_3 S_1 => (if r_3 = 0 then jx_a x1 6 (jx_b2 (f_X12_in x2 (0 : Int32) ((S_1.1 32 (Int32.toNatClampNeg x1)) - (1 : Int32)) S_1) (fun r_10 S_8 => (if r_10 = 0 then f_X12_element_38 S_8 else jx_a (((60 : Int32) * x1) + x2) 360 (some ((S_8.2 33 (Int32.toNatClampNeg (((60 : Int32) * x1) + x2))), S_8))))) else f_X12_element_38 S_1))
set_option maxHeartbeats 4000000 in
set_option maxRecDepth 100000 in
theorem c_X12_element (l : Launch) (D : va_G) (q : Nat → Nat) (k : CI) (x1 : Int32) (x2 : Int32) (S : St) (sz : Nat) (Z : Int64 × St) (hZ : f_X12_element x1 x2 S = some Z) : MetL W_M SM l yX12_element wsX12_element { frames := 3, cells := 0, slots := 0, locals := 63 } [.ref (q 0), .int x1, .int x2] D q k S sz Z := by
  refine enter (cc := cX12_element) (maxL := 3) (ret := some .long) (by decide) rfl (Nat.le_of_ble_eq_true rfl) ?_
  intro p e s m below meth c A ls hx hb hr hts hown hlocks hml hP hK hD hA hS hsp hAe hl
  have hown : s.vm.findClass RX12 = some m.cls := hown
  have hl : lv_has ls 3 [(0, .ref (q 0)), (1, .int x1), (2, .int x2)] := hl
  have in12 : ∀ w ∈ wsX120, w ∈ wsX12_element := fun _ h => (List.mem_cons_of_mem _ (List.mem_append_right _ h))
  have j38 : ∀ (S_5 : St)  (H : Heap) (locs : List Loc) (hZ : f_X12_element_38 S_5 = some Z) (hP : va_P D vwCl (W_M q k S_5) H) (hD : va_D A (W_M q k S_5)) (hS : va_S A s.heap H locs) (ls : Array Slot) (hl : lv_has ls 3 []), W p l e ({ frames := 3, cells := 0, slots := 0, locals := 63 } : Room) s m ([.ref (q 0), .int x1, .int x2] : List Value).toArray below meth c H locs 0 0 (MQ below (va_Ql (fun r u => (r, u) = Z) (fun u t => va_P D vwCl (W_M q k u) t.heap) A) ([.ref (q 0), .int x1, .int x2] : List Value).toArray s 0 0 A) (F0 m 38 ls []) := by
    intro S_5   H locs hZ hP hD hS ls hl
    unfold f_X12_element_38 at hZ
    refine lv_ldc2 (v := (-9223372036854775808 : Int64)) hx hb hown (hts (.constantLong RX12 384 (-9223372036854775808)) (List.mem_of_getElem? (i := 3) rfl)) dX12_element_38 ?_
    exact leave_l hx hb hr hlocks hP hS hZ dX12_element_41
  unfold f_X12_element at hZ
  refine lv_aload_n hx hb dX12_element_0 rfl (lv_at hl 0 rfl) ?_
  refine lv_iload_n hx hb dX12_element_1 rfl (lv_at hl 1 rfl) ?_
  obtain ⟨r_3, S_1, hc_2, hZ⟩ := jx_b2_some hZ
  refine call_Vi SM_ok sameM ⟨hx, hb, hml, hown, hts⟩ (c_X12_shelfWrong l D q k x1 S _ (r_3, S_1)  hc_2) (cwV 1 hts gX12_element_X12_shelfWrong rfl rfl rfl hd_X12_shelfWrong ⟨Nat.le_of_ble_eq_true rfl, Nat.le_of_ble_eq_true rfl⟩) hK hP hD hS hA hsp (va_recv hK hP (ci := 12) (q0 := 0) rfl wM_0) (As := [.int x1]) rfl hl.1 rfl (Nat.le_of_ble_eq_true rfl) dX12_element_2 ⟨Nat.zero_le _, Nat.zero_le _⟩ (fun H locs hP hD hS => ?_)
  refine lv_if_ne (tgt := 38) hx hb dX12_element_5 (by decide) (fun c_4 => ?_) (fun c_4 => ?_)
  · have hZ := jx_i_neg c_4 hZ
    exact j38 S_1 _ _ hZ hP hD hS _ (lv_sub hl [] rfl)
  · have hZ := jx_i_pos c_4 hZ
    refine lv_iload_n hx hb dX12_element_8 rfl (lv_at hl 2 rfl) ?_
    refine lv_iconst (v := (0 : Int32)) hx hb dX12_element_9 (by decide) ?_
    refine lv_aload_n hx hb dX12_element_10 rfl (lv_at hl 0 rfl) ?_
    refine gf_12_shelfSize hx hb hts in12 hown hK hP (hts (.fieldLink RX12 105 "CoinsOfLastModel" "shelfSize" "[I") (List.mem_of_getElem? (i := 1) rfl)) dX12_element_11 ?_
    refine lv_iload_n hx hb dX12_element_14 rfl (lv_at hl 1 rfl) ?_
    obtain ⟨c_7, hZ⟩ := jx_a_some hZ
    refine M_iald hx hb hK hP wM_32 c_7 dX12_element_15 ?_
    refine lv_iconst (v := (1 : Int32)) hx hb dX12_element_16 (by decide) ?_
    refine lv_isub hx hb dX12_element_17 ?_
    obtain ⟨r_10, S_8, hc_9, hZ⟩ := jx_b2_some hZ
    refine call_Si SM_ok sameM ⟨hx, hb, hml, hown, hts⟩ (c_X12_in l D q k x2 (0 : Int32) ((S_1.1 32 (Int32.toNatClampNeg x1)) - (1 : Int32)) S_1 _ (r_10, S_8)  hc_9) (va_cwS 3 hts gX12_element_X12_in rfl rfl rfl hd_X12_in ⟨Nat.le_of_ble_eq_true rfl, Nat.le_of_ble_eq_true rfl⟩) hK hP hD hS hA hsp (As := [.int x2, .int (0 : Int32), .int ((S_1.1 32 (Int32.toNatClampNeg x1)) - (1 : Int32))]) rfl hl.1 rfl (Nat.le_of_ble_eq_true rfl) dX12_element_18 ⟨Nat.zero_le _, Nat.zero_le _⟩ (fun H locs hP hD hS => ?_)
    refine lv_if_eq (tgt := 38) hx hb dX12_element_21 (by decide) (fun c_11 => ?_) (fun c_11 => ?_)
    · have hZ := jx_i_pos c_11 hZ
      exact j38 S_8 _ _ hZ hP hD hS _ (lv_sub hl [] rfl)
    · have hZ := jx_i_neg c_11 hZ
      refine lv_aload_n hx hb dX12_element_24 rfl (lv_at hl 0 rfl) ?_
      refine gf_12_items hx hb hts in12 hown hK hP (hts (.fieldLink RX12 108 "CoinsOfLastModel" "items" "[J") (List.mem_of_getElem? (i := 2) rfl)) dX12_element_25 ?_
      refine lv_bipush (v := (60 : Int32)) hx hb dX12_element_28 (by decide) ?_
      refine lv_iload_n hx hb dX12_element_30 rfl (lv_at hl 1 rfl) ?_
      refine lv_imul hx hb dX12_element_31 ?_
      refine lv_iload_n hx hb dX12_element_32 rfl (lv_at hl 2 rfl) ?_
      refine lv_iadd hx hb dX12_element_33 ?_
      obtain ⟨c_13, hZ⟩ := jx_a_some hZ
      refine M_lald hx hb hK hP wM_33 c_13 dX12_element_34 ?_
      refine lv_goto (tgt := 41) hx hb dX12_element_35 (by decide) ?_
      exact leave_l hx hb hr hlocks hP hS hZ dX12_element_41
-- X12_shift
def f_X12_shift_207 (x5_36 : Int32) (S_36 : St) : Option (Int32 × St) :=
  some (x5_36, S_36)
def b_X12_shift_172 (x3 : Int32) (x4 : Int32) (x5 : Int32) (x6 : Int32) (S : St) : Option ((Int32 × St) ⊕ (St)) :=
  (if x5 ≤ x6 then some (.inr S) else jx_a x6 60 (jx_a ((((60 : Int32) * x3) + x4) + x6) 360 (jx_l (u2 S 33 (Int32.toNatClampNeg ((((60 : Int32) * x3) + x4) + x6)) (S.2 34 (Int32.toNatClampNeg x6))) (fun S_42 => jx_l (x6 + 1) (fun x6_43 => some (.inl (x6_43, S_42)))))))
def g_X12_shift_172 (x3 : Int32) (x4 : Int32) (x5 : Int32) : (Int32 × St) → Option ((Int32 × St) ⊕ (St)) := fun z => b_X12_shift_172 x3 x4 x5 z.1 z.2
def f_X12_shift_169 (x3_32 : Int32) (x4_32 : Int32) (x5_32 : Int32) (S_32 : St) : Option (Int32 × St) :=
  jx_b (jx_w (g_X12_shift_172 x3_32 x4_32 x5_32) FU ((0 : Int32), S_32)) (fun z => f_X12_shift_207 x5_32 z)
def b_X12_shift_135 (x1 : Int32) (x2 : Int32) (x3 : Int32) (x4 : Int32) (x5 : Int32) (x6 : Int32) (S : St) : Option ((Int32 × St) ⊕ (St)) :=
  (if x5 ≤ x6 then some (.inr S) else jx_a ((((60 : Int32) * x1) + x2) + x6) 360 (jx_a x6 60 (jx_l (u2 S 34 (Int32.toNatClampNeg x6) (S.2 33 (Int32.toNatClampNeg ((((60 : Int32) * x1) + x2) + x6)))) (fun S_55 => jx_l (x6 + 1) (fun x6_56 => some (.inl (x6_56, S_55)))))))
def g_X12_shift_135 (x1 : Int32) (x2 : Int32) (x3 : Int32) (x4 : Int32) (x5 : Int32) : (Int32 × St) → Option ((Int32 × St) ⊕ (St)) := fun z => b_X12_shift_135 x1 x2 x3 x4 x5 z.1 z.2
def f_X12_shift (x1 : Int32) (x2 : Int32) (x3 : Int32) (x4 : Int32) (x5 : Int32) (S : St) : Option (Int32 × St) :=
  jx_b2 (f_X12_isShelf x1 S) (fun r_3 S_1 => (if r_3 = 0 then some ((-1 : Int32), S_1) else jx_b2 (f_X12_isShelf x3 S_1) (fun r_7 S_5 => (if r_7 = 0 then some ((-1 : Int32), S_5) else jx_a x1 6 ((if (S_5.1 31 (Int32.toNatClampNeg x1)) = (-1 : Int32) then some ((-11 : Int32), S_5) else jx_a x3 6 ((if (S_5.1 31 (Int32.toNatClampNeg x3)) = (-1 : Int32) then some ((-11 : Int32), S_5) else jx_a x1 6 ((if (S_5.1 31 (Int32.toNatClampNeg x1)) = (5 : Int32) then some ((-12 : Int32), S_5) else jx_a x1 6 (jx_a x3 6 ((if (S_5.1 31 (Int32.toNatClampNeg x1)) = (S_5.1 31 (Int32.toNatClampNeg x3)) then (if x5 < 0 then some ((-13 : Int32), S_5) else (if x2 < 0 then some ((-13 : Int32), S_5) else (if x4 < 0 then some ((-13 : Int32), S_5) else jx_a x1 6 ((if (S_5.1 32 (Int32.toNatClampNeg x1)) < x2 then some ((-13 : Int32), S_5) else jx_a x3 6 ((if (S_5.1 32 (Int32.toNatClampNeg x3)) < x4 then some ((-13 : Int32), S_5) else jx_a x1 6 ((if ((S_5.1 32 (Int32.toNatClampNeg x1)) - x2) < x5 then some ((-13 : Int32), S_5) else jx_a x3 6 ((if x5 ≤ ((S_5.1 32 (Int32.toNatClampNeg x3)) - x4) then jx_b (jx_w (g_X12_shift_135 x1 x2 x3 x4 x5) FU ((0 : Int32), S_5)) (fun z => f_X12_shift_169 x3 x4 x5 z) else some ((-13 : Int32), S_5)))))))))))) else some ((-12 : Int32), S_5))))))))))))))
set_option maxHeartbeats 4000000 in
set_option maxRecDepth 100000 in
theorem c_X12_shift (l : Launch) (D : va_G) (q : Nat → Nat) (k : CI) (x1 : Int32) (x2 : Int32) (x3 : Int32) (x4 : Int32) (x5 : Int32) (S : St) (sz : Nat) (Z : Int32 × St) (hZ : f_X12_shift x1 x2 x3 x4 x5 S = some Z) : MetI W_M SM l yX12_shift wsX12_shift { frames := 2, cells := 0, slots := 0, locals := 42 } [.ref (q 0), .int x1, .int x2, .int x3, .int x4, .int x5] D q k S sz Z := by
  refine enter (cc := cX12_shift) (maxL := 7) (ret := some .int) (by decide) rfl (Nat.le_of_ble_eq_true rfl) ?_
  intro p e s m below meth c A ls hx hb hr hts hown hlocks hml hP hK hD hA hS hsp hAe hl
  have hown : s.vm.findClass RX12 = some m.cls := hown
  have hl : lv_has ls 7 [(0, .ref (q 0)), (1, .int x1), (2, .int x2), (3, .int x3), (4, .int x4), (5, .int x5)] := hl
  have in12 : ∀ w ∈ wsX120, w ∈ wsX12_shift := fun _ h => (List.mem_cons_of_mem _ (List.mem_append_right _ h))
  have j207 : ∀ (x5_36 : Int32) (S_36 : St)  (H : Heap) (locs : List Loc) (hZ : f_X12_shift_207 x5_36 S_36 = some Z) (hP : va_P D vwCl (W_M q k S_36) H) (hD : va_D A (W_M q k S_36)) (hS : va_S A s.heap H locs) (ls : Array Slot) (hl : lv_has ls 7 [(5, .int x5_36)]), W p l e ({ frames := 2, cells := 0, slots := 0, locals := 42 } : Room) s m ([.ref (q 0), .int x1, .int x2, .int x3, .int x4, .int x5] : List Value).toArray below meth c H locs 0 0 (MQ below (va_Qi (fun r u => (r, u) = Z) (fun u t => va_P D vwCl (W_M q k u) t.heap) A) ([.ref (q 0), .int x1, .int x2, .int x3, .int x4, .int x5] : List Value).toArray s 0 0 A) (F0 m 207 ls []) := by
    intro x5_36 S_36   H locs hZ hP hD hS ls hl
    unfold f_X12_shift_207 at hZ
    refine lv_iload hx hb dX12_shift_207 (lv_at hl 0 rfl) ?_
    exact leave_i hx hb hr hlocks hP hS hZ dX12_shift_209
  have j169 : ∀ (x3_32 : Int32) (x4_32 : Int32) (x5_32 : Int32) (S_32 : St)  (H : Heap) (locs : List Loc) (hZ : f_X12_shift_169 x3_32 x4_32 x5_32 S_32 = some Z) (hP : va_P D vwCl (W_M q k S_32) H) (hD : va_D A (W_M q k S_32)) (hS : va_S A s.heap H locs) (ls : Array Slot) (hl : lv_has ls 7 [(0, .ref (q 0)), (3, .int x3_32), (4, .int x4_32), (5, .int x5_32)]), W p l e ({ frames := 2, cells := 0, slots := 0, locals := 42 } : Room) s m ([.ref (q 0), .int x1, .int x2, .int x3, .int x4, .int x5] : List Value).toArray below meth c H locs 0 0 (MQ below (va_Qi (fun r u => (r, u) = Z) (fun u t => va_P D vwCl (W_M q k u) t.heap) A) ([.ref (q 0), .int x1, .int x2, .int x3, .int x4, .int x5] : List Value).toArray s 0 0 A) (F0 m 169 ls []) := by
    intro x3_32 x4_32 x5_32 S_32   H locs hZ hP hD hS ls hl
    unfold f_X12_shift_169 at hZ
    refine lv_iconst (v := (0 : Int32)) hx hb dX12_shift_169 (by decide) ?_
    refine lv_istore (lv' := [(6, .int (0 : Int32)), (0, .ref (q 0)), (3, .int x3_32), (4, .int x4_32), (5, .int x5_32)]) hx hb dX12_shift_170 hl (by decide) rfl (fun ls hl => ?_)
    obtain ⟨r_35, hw, hza_35⟩ := jx_b_some hZ
    have l_35 : ∀ (nn : Nat) (x6_33 : Int32) (S_34 : St) (H : Heap) (locs : List Loc) (hw : jx_w (g_X12_shift_172 x3_32 x4_32 x5_32) nn (x6_33, S_34) = some r_35) (hP : va_P D vwCl (W_M q k S_34) H) (hD : va_D A (W_M q k S_34)) (hS : va_S A s.heap H locs) (ls : Array Slot) (hl : lv_has ls 7 [(0, .ref (q 0)), (3, .int x3_32), (4, .int x4_32), (5, .int x5_32), (6, .int x6_33)]), W p l e ({ frames := 2, cells := 0, slots := 0, locals := 42 } : Room) s m ([.ref (q 0), .int x1, .int x2, .int x3, .int x4, .int x5] : List Value).toArray below meth c H locs 0 0 (MQ below (va_Qi (fun r u => (r, u) = Z) (fun u t => va_P D vwCl (W_M q k u) t.heap) A) ([.ref (q 0), .int x1, .int x2, .int x3, .int x4, .int x5] : List Value).toArray s 0 0 A) (F0 m 172 ls []) := by
      intro nn
      induction nn with
      | zero =>
        intro x6_33 S_34 H locs hw hP hD hS ls hl
        exact jx_w_zero hw
      | succ n_35 ih_35 =>
        intro x6_33 S_34 H locs hw hP hD hS ls hl
        obtain ⟨o_35, hZ, hk_35⟩ := jx_w_succ hw
        have hZ : b_X12_shift_172 x3_32 x4_32 x5_32 x6_33 S_34 = some o_35 := hZ
        unfold b_X12_shift_172 at hZ
        refine lv_iload hx hb dX12_shift_172 (lv_at hl 4 rfl) ?_
        refine lv_iload hx hb dX12_shift_174 (lv_at hl 3 rfl) ?_
        refine lv_icmp_ge (tgt := 207) hx hb dX12_shift_176 (by decide) (fun c_44 => ?_) (fun c_44 => ?_)
        · have hZ := jx_i_pos c_44 hZ
          have ho := Option.some.inj hZ
          subst ho
          have hE := hza_35
          rw [← (show S_34 = r_35 from hk_35)] at hE
          have hZ : f_X12_shift_207 x5_32 S_34 = some Z := hE
          exact j207 x5_32 S_34 _ _ hZ hP hD hS _ (lv_sub hl [3] rfl)
        · have hZ := jx_i_neg c_44 hZ
          refine lv_aload_n hx hb dX12_shift_179 rfl (lv_at hl 0 rfl) ?_
          refine gf_12_items hx hb hts in12 hown hK hP (hts (.fieldLink RX12 108 "CoinsOfLastModel" "items" "[J") (List.mem_of_getElem? (i := 4) rfl)) dX12_shift_180 ?_
          refine lv_bipush (v := (60 : Int32)) hx hb dX12_shift_183 (by decide) ?_
          refine lv_iload_n hx hb dX12_shift_185 rfl (lv_at hl 1 rfl) ?_
          refine lv_imul hx hb dX12_shift_186 ?_
          refine lv_iload hx hb dX12_shift_187 (lv_at hl 2 rfl) ?_
          refine lv_iadd hx hb dX12_shift_189 ?_
          refine lv_iload hx hb dX12_shift_190 (lv_at hl 4 rfl) ?_
          refine lv_iadd hx hb dX12_shift_192 ?_
          refine lv_aload_n hx hb dX12_shift_193 rfl (lv_at hl 0 rfl) ?_
          refine gf_12_shifted hx hb hts in12 hown hK hP (hts (.fieldLink RX12 111 "CoinsOfLastModel" "shifted" "[J") (List.mem_of_getElem? (i := 3) rfl)) dX12_shift_194 ?_
          refine lv_iload hx hb dX12_shift_197 (lv_at hl 4 rfl) ?_
          obtain ⟨c_46, hZ⟩ := jx_a_some hZ
          refine M_lald hx hb hK hP wM_34 c_46 dX12_shift_199 ?_
          obtain ⟨c_47, hZ⟩ := jx_a_some hZ
          obtain ⟨S_48, e_S_48, hZ⟩ := jx_l_some hZ
          refine M_last hx hb hK hP hD hS wM_33 (fun _ => wMs_33) c_47 e_S_48 dX12_shift_200 (fun H locs hP hD hS => ?_)
          obtain ⟨x6_49, e_x6_49, hZ⟩ := jx_l_some hZ
          refine lv_iinc (v := x6_49) (lv' := [(6, .int x6_49), (0, .ref (q 0)), (3, .int x3_32), (4, .int x4_32), (5, .int x5_32)]) hx hb dX12_shift_201 hl (k := 4) rfl (by rw [e_x6_49]; rfl) (by decide) rfl (fun ls hl => ?_)
          refine lv_goto (tgt := 172) hx hb dX12_shift_204 (by decide) ?_
          have ho := Option.some.inj hZ
          subst ho
          exact ih_35 x6_49 S_48 _ _ hk_35 hP hD hS _ (lv_sub hl [1, 2, 3, 4, 0] rfl)
    exact l_35 FU (0 : Int32) S_32 _ _ hw hP hD hS _ (lv_sub hl [1, 2, 3, 4, 0] rfl)
  unfold f_X12_shift at hZ
  refine lv_iload_n hx hb dX12_shift_0 rfl (lv_at hl 1 rfl) ?_
  obtain ⟨r_3, S_1, hc_2, hZ⟩ := jx_b2_some hZ
  refine call_Si SM_ok sameM ⟨hx, hb, hml, hown, hts⟩ (c_X12_isShelf l D q k x1 S _ (r_3, S_1)  hc_2) (va_cwS 1 hts gX12_shift_X12_isShelf rfl rfl rfl hd_X12_isShelf ⟨Nat.le_of_ble_eq_true rfl, Nat.le_of_ble_eq_true rfl⟩) hK hP hD hS hA hsp (As := [.int x1]) rfl hl.1 rfl (Nat.le_of_ble_eq_true rfl) dX12_shift_1 ⟨Nat.zero_le _, Nat.zero_le _⟩ (fun H locs hP hD hS => ?_)
  refine lv_if_eq (tgt := 14) hx hb dX12_shift_4 (by decide) (fun c_4 => ?_) (fun c_4 => ?_)
  · have hZ := jx_i_pos c_4 hZ
    refine lv_iconst (v := (-1 : Int32)) hx hb dX12_shift_14 (by decide) ?_
    exact leave_i hx hb hr hlocks hP hS hZ dX12_shift_15
  · have hZ := jx_i_neg c_4 hZ
    refine lv_iload_n hx hb dX12_shift_7 rfl (lv_at hl 3 rfl) ?_
    obtain ⟨r_7, S_5, hc_6, hZ⟩ := jx_b2_some hZ
    refine call_Si SM_ok sameM ⟨hx, hb, hml, hown, hts⟩ (c_X12_isShelf l D q k x3 S_1 _ (r_7, S_5)  hc_6) (va_cwS 1 hts gX12_shift_X12_isShelf rfl rfl rfl hd_X12_isShelf ⟨Nat.le_of_ble_eq_true rfl, Nat.le_of_ble_eq_true rfl⟩) hK hP hD hS hA hsp (As := [.int x3]) rfl hl.1 rfl (Nat.le_of_ble_eq_true rfl) dX12_shift_8 ⟨Nat.zero_le _, Nat.zero_le _⟩ (fun H locs hP hD hS => ?_)
    refine lv_if_ne (tgt := 16) hx hb dX12_shift_11 (by decide) (fun c_8 => ?_) (fun c_8 => ?_)
    · have hZ := jx_i_neg c_8 hZ
      refine lv_aload_n hx hb dX12_shift_16 rfl (lv_at hl 0 rfl) ?_
      refine gf_12_shelfIs hx hb hts in12 hown hK hP (hts (.fieldLink RX12 102 "CoinsOfLastModel" "shelfIs" "[I") (List.mem_of_getElem? (i := 1) rfl)) dX12_shift_17 ?_
      refine lv_iload_n hx hb dX12_shift_20 rfl (lv_at hl 1 rfl) ?_
      obtain ⟨c_9, hZ⟩ := jx_a_some hZ
      refine M_iald hx hb hK hP wM_31 c_9 dX12_shift_21 ?_
      refine lv_iconst (v := (-1 : Int32)) hx hb dX12_shift_22 (by decide) ?_
      refine lv_icmp_eq (tgt := 36) hx hb dX12_shift_23 (by decide) (fun c_10 => ?_) (fun c_10 => ?_)
      · have hZ := jx_i_pos c_10 hZ
        refine lv_bipush (v := (-11 : Int32)) hx hb dX12_shift_36 (by decide) ?_
        exact leave_i hx hb hr hlocks hP hS hZ dX12_shift_38
      · have hZ := jx_i_neg c_10 hZ
        refine lv_aload_n hx hb dX12_shift_26 rfl (lv_at hl 0 rfl) ?_
        refine gf_12_shelfIs hx hb hts in12 hown hK hP (hts (.fieldLink RX12 102 "CoinsOfLastModel" "shelfIs" "[I") (List.mem_of_getElem? (i := 1) rfl)) dX12_shift_27 ?_
        refine lv_iload_n hx hb dX12_shift_30 rfl (lv_at hl 3 rfl) ?_
        obtain ⟨c_11, hZ⟩ := jx_a_some hZ
        refine M_iald hx hb hK hP wM_31 c_11 dX12_shift_31 ?_
        refine lv_iconst (v := (-1 : Int32)) hx hb dX12_shift_32 (by decide) ?_
        refine lv_icmp_ne (tgt := 39) hx hb dX12_shift_33 (by decide) (fun c_12 => ?_) (fun c_12 => ?_)
        · have hZ := jx_i_neg c_12 hZ
          refine lv_aload_n hx hb dX12_shift_39 rfl (lv_at hl 0 rfl) ?_
          refine gf_12_shelfIs hx hb hts in12 hown hK hP (hts (.fieldLink RX12 102 "CoinsOfLastModel" "shelfIs" "[I") (List.mem_of_getElem? (i := 1) rfl)) dX12_shift_40 ?_
          refine lv_iload_n hx hb dX12_shift_43 rfl (lv_at hl 1 rfl) ?_
          obtain ⟨c_13, hZ⟩ := jx_a_some hZ
          refine M_iald hx hb hK hP wM_31 c_13 dX12_shift_44 ?_
          refine lv_iconst (v := (5 : Int32)) hx hb dX12_shift_45 (by decide) ?_
          refine lv_icmp_eq (tgt := 64) hx hb dX12_shift_46 (by decide) (fun c_14 => ?_) (fun c_14 => ?_)
          · have hZ := jx_i_pos c_14 hZ
            refine lv_bipush (v := (-12 : Int32)) hx hb dX12_shift_64 (by decide) ?_
            exact leave_i hx hb hr hlocks hP hS hZ dX12_shift_66
          · have hZ := jx_i_neg c_14 hZ
            refine lv_aload_n hx hb dX12_shift_49 rfl (lv_at hl 0 rfl) ?_
            refine gf_12_shelfIs hx hb hts in12 hown hK hP (hts (.fieldLink RX12 102 "CoinsOfLastModel" "shelfIs" "[I") (List.mem_of_getElem? (i := 1) rfl)) dX12_shift_50 ?_
            refine lv_iload_n hx hb dX12_shift_53 rfl (lv_at hl 1 rfl) ?_
            obtain ⟨c_15, hZ⟩ := jx_a_some hZ
            refine M_iald hx hb hK hP wM_31 c_15 dX12_shift_54 ?_
            refine lv_aload_n hx hb dX12_shift_55 rfl (lv_at hl 0 rfl) ?_
            refine gf_12_shelfIs hx hb hts in12 hown hK hP (hts (.fieldLink RX12 102 "CoinsOfLastModel" "shelfIs" "[I") (List.mem_of_getElem? (i := 1) rfl)) dX12_shift_56 ?_
            refine lv_iload_n hx hb dX12_shift_59 rfl (lv_at hl 3 rfl) ?_
            obtain ⟨c_16, hZ⟩ := jx_a_some hZ
            refine M_iald hx hb hK hP wM_31 c_16 dX12_shift_60 ?_
            refine lv_icmp_eq (tgt := 67) hx hb dX12_shift_61 (by decide) (fun c_17 => ?_) (fun c_17 => ?_)
            · have hZ := jx_i_pos c_17 hZ
              refine lv_iload hx hb dX12_shift_67 (lv_at hl 5 rfl) ?_
              refine lv_if_lt (tgt := 129) hx hb dX12_shift_69 (by decide) (fun c_18 => ?_) (fun c_18 => ?_)
              · have hZ := jx_i_pos c_18 hZ
                refine lv_bipush (v := (-13 : Int32)) hx hb dX12_shift_129 (by decide) ?_
                exact leave_i hx hb hr hlocks hP hS hZ dX12_shift_131
              · have hZ := jx_i_neg c_18 hZ
                refine lv_iload_n hx hb dX12_shift_72 rfl (lv_at hl 2 rfl) ?_
                refine lv_if_lt (tgt := 129) hx hb dX12_shift_73 (by decide) (fun c_19 => ?_) (fun c_19 => ?_)
                · have hZ := jx_i_pos c_19 hZ
                  refine lv_bipush (v := (-13 : Int32)) hx hb dX12_shift_129 (by decide) ?_
                  exact leave_i hx hb hr hlocks hP hS hZ dX12_shift_131
                · have hZ := jx_i_neg c_19 hZ
                  refine lv_iload hx hb dX12_shift_76 (lv_at hl 4 rfl) ?_
                  refine lv_if_lt (tgt := 129) hx hb dX12_shift_78 (by decide) (fun c_20 => ?_) (fun c_20 => ?_)
                  · have hZ := jx_i_pos c_20 hZ
                    refine lv_bipush (v := (-13 : Int32)) hx hb dX12_shift_129 (by decide) ?_
                    exact leave_i hx hb hr hlocks hP hS hZ dX12_shift_131
                  · have hZ := jx_i_neg c_20 hZ
                    refine lv_iload_n hx hb dX12_shift_81 rfl (lv_at hl 2 rfl) ?_
                    refine lv_aload_n hx hb dX12_shift_82 rfl (lv_at hl 0 rfl) ?_
                    refine gf_12_shelfSize hx hb hts in12 hown hK hP (hts (.fieldLink RX12 105 "CoinsOfLastModel" "shelfSize" "[I") (List.mem_of_getElem? (i := 2) rfl)) dX12_shift_83 ?_
                    refine lv_iload_n hx hb dX12_shift_86 rfl (lv_at hl 1 rfl) ?_
                    obtain ⟨c_21, hZ⟩ := jx_a_some hZ
                    refine M_iald hx hb hK hP wM_32 c_21 dX12_shift_87 ?_
                    refine lv_icmp_gt (tgt := 129) hx hb dX12_shift_88 (by decide) (fun c_22 => ?_) (fun c_22 => ?_)
                    · have hZ := jx_i_pos c_22 hZ
                      refine lv_bipush (v := (-13 : Int32)) hx hb dX12_shift_129 (by decide) ?_
                      exact leave_i hx hb hr hlocks hP hS hZ dX12_shift_131
                    · have hZ := jx_i_neg c_22 hZ
                      refine lv_iload hx hb dX12_shift_91 (lv_at hl 4 rfl) ?_
                      refine lv_aload_n hx hb dX12_shift_93 rfl (lv_at hl 0 rfl) ?_
                      refine gf_12_shelfSize hx hb hts in12 hown hK hP (hts (.fieldLink RX12 105 "CoinsOfLastModel" "shelfSize" "[I") (List.mem_of_getElem? (i := 2) rfl)) dX12_shift_94 ?_
                      refine lv_iload_n hx hb dX12_shift_97 rfl (lv_at hl 3 rfl) ?_
                      obtain ⟨c_23, hZ⟩ := jx_a_some hZ
                      refine M_iald hx hb hK hP wM_32 c_23 dX12_shift_98 ?_
                      refine lv_icmp_gt (tgt := 129) hx hb dX12_shift_99 (by decide) (fun c_24 => ?_) (fun c_24 => ?_)
                      · have hZ := jx_i_pos c_24 hZ
                        refine lv_bipush (v := (-13 : Int32)) hx hb dX12_shift_129 (by decide) ?_
                        exact leave_i hx hb hr hlocks hP hS hZ dX12_shift_131
                      · have hZ := jx_i_neg c_24 hZ
                        refine lv_iload hx hb dX12_shift_102 (lv_at hl 5 rfl) ?_
                        refine lv_aload_n hx hb dX12_shift_104 rfl (lv_at hl 0 rfl) ?_
                        refine gf_12_shelfSize hx hb hts in12 hown hK hP (hts (.fieldLink RX12 105 "CoinsOfLastModel" "shelfSize" "[I") (List.mem_of_getElem? (i := 2) rfl)) dX12_shift_105 ?_
                        refine lv_iload_n hx hb dX12_shift_108 rfl (lv_at hl 1 rfl) ?_
                        obtain ⟨c_25, hZ⟩ := jx_a_some hZ
                        refine M_iald hx hb hK hP wM_32 c_25 dX12_shift_109 ?_
                        refine lv_iload_n hx hb dX12_shift_110 rfl (lv_at hl 2 rfl) ?_
                        refine lv_isub hx hb dX12_shift_111 ?_
                        refine lv_icmp_gt (tgt := 129) hx hb dX12_shift_112 (by decide) (fun c_26 => ?_) (fun c_26 => ?_)
                        · have hZ := jx_i_pos c_26 hZ
                          refine lv_bipush (v := (-13 : Int32)) hx hb dX12_shift_129 (by decide) ?_
                          exact leave_i hx hb hr hlocks hP hS hZ dX12_shift_131
                        · have hZ := jx_i_neg c_26 hZ
                          refine lv_iload hx hb dX12_shift_115 (lv_at hl 5 rfl) ?_
                          refine lv_aload_n hx hb dX12_shift_117 rfl (lv_at hl 0 rfl) ?_
                          refine gf_12_shelfSize hx hb hts in12 hown hK hP (hts (.fieldLink RX12 105 "CoinsOfLastModel" "shelfSize" "[I") (List.mem_of_getElem? (i := 2) rfl)) dX12_shift_118 ?_
                          refine lv_iload_n hx hb dX12_shift_121 rfl (lv_at hl 3 rfl) ?_
                          obtain ⟨c_27, hZ⟩ := jx_a_some hZ
                          refine M_iald hx hb hK hP wM_32 c_27 dX12_shift_122 ?_
                          refine lv_iload hx hb dX12_shift_123 (lv_at hl 4 rfl) ?_
                          refine lv_isub hx hb dX12_shift_125 ?_
                          refine lv_icmp_le (tgt := 132) hx hb dX12_shift_126 (by decide) (fun c_28 => ?_) (fun c_28 => ?_)
                          · have hZ := jx_i_pos c_28 hZ
                            refine lv_iconst (v := (0 : Int32)) hx hb dX12_shift_132 (by decide) ?_
                            refine lv_istore (lv' := [(6, .int (0 : Int32)), (0, .ref (q 0)), (1, .int x1), (2, .int x2), (3, .int x3), (4, .int x4), (5, .int x5)]) hx hb dX12_shift_133 hl (by decide) rfl (fun ls hl => ?_)
                            obtain ⟨r_31, hw, hza_31⟩ := jx_b_some hZ
                            have l_31 : ∀ (nn : Nat) (x6_29 : Int32) (S_30 : St) (H : Heap) (locs : List Loc) (hw : jx_w (g_X12_shift_135 x1 x2 x3 x4 x5) nn (x6_29, S_30) = some r_31) (hP : va_P D vwCl (W_M q k S_30) H) (hD : va_D A (W_M q k S_30)) (hS : va_S A s.heap H locs) (ls : Array Slot) (hl : lv_has ls 7 [(0, .ref (q 0)), (1, .int x1), (2, .int x2), (3, .int x3), (4, .int x4), (5, .int x5), (6, .int x6_29)]), W p l e ({ frames := 2, cells := 0, slots := 0, locals := 42 } : Room) s m ([.ref (q 0), .int x1, .int x2, .int x3, .int x4, .int x5] : List Value).toArray below meth c H locs 0 0 (MQ below (va_Qi (fun r u => (r, u) = Z) (fun u t => va_P D vwCl (W_M q k u) t.heap) A) ([.ref (q 0), .int x1, .int x2, .int x3, .int x4, .int x5] : List Value).toArray s 0 0 A) (F0 m 135 ls []) := by
                              intro nn
                              induction nn with
                              | zero =>
                                intro x6_29 S_30 H locs hw hP hD hS ls hl
                                exact jx_w_zero hw
                              | succ n_31 ih_31 =>
                                intro x6_29 S_30 H locs hw hP hD hS ls hl
                                obtain ⟨o_31, hZ, hk_31⟩ := jx_w_succ hw
                                have hZ : b_X12_shift_135 x1 x2 x3 x4 x5 x6_29 S_30 = some o_31 := hZ
                                unfold b_X12_shift_135 at hZ
                                refine lv_iload hx hb dX12_shift_135 (lv_at hl 6 rfl) ?_
                                refine lv_iload hx hb dX12_shift_137 (lv_at hl 5 rfl) ?_
                                refine lv_icmp_ge (tgt := 169) hx hb dX12_shift_139 (by decide) (fun c_57 => ?_) (fun c_57 => ?_)
                                · have hZ := jx_i_pos c_57 hZ
                                  have ho := Option.some.inj hZ
                                  subst ho
                                  have hE := hza_31
                                  rw [← (show S_30 = r_31 from hk_31)] at hE
                                  have hZ : f_X12_shift_169 x3 x4 x5 S_30 = some Z := hE
                                  exact j169 x3 x4 x5 S_30 _ _ hZ hP hD hS _ (lv_sub hl [0, 3, 4, 5] rfl)
                                · have hZ := jx_i_neg c_57 hZ
                                  refine lv_aload_n hx hb dX12_shift_142 rfl (lv_at hl 0 rfl) ?_
                                  refine gf_12_shifted hx hb hts in12 hown hK hP (hts (.fieldLink RX12 111 "CoinsOfLastModel" "shifted" "[J") (List.mem_of_getElem? (i := 3) rfl)) dX12_shift_143 ?_
                                  refine lv_iload hx hb dX12_shift_146 (lv_at hl 6 rfl) ?_
                                  refine lv_aload_n hx hb dX12_shift_148 rfl (lv_at hl 0 rfl) ?_
                                  refine gf_12_items hx hb hts in12 hown hK hP (hts (.fieldLink RX12 108 "CoinsOfLastModel" "items" "[J") (List.mem_of_getElem? (i := 4) rfl)) dX12_shift_149 ?_
                                  refine lv_bipush (v := (60 : Int32)) hx hb dX12_shift_152 (by decide) ?_
                                  refine lv_iload_n hx hb dX12_shift_154 rfl (lv_at hl 1 rfl) ?_
                                  refine lv_imul hx hb dX12_shift_155 ?_
                                  refine lv_iload_n hx hb dX12_shift_156 rfl (lv_at hl 2 rfl) ?_
                                  refine lv_iadd hx hb dX12_shift_157 ?_
                                  refine lv_iload hx hb dX12_shift_158 (lv_at hl 6 rfl) ?_
                                  refine lv_iadd hx hb dX12_shift_160 ?_
                                  obtain ⟨c_59, hZ⟩ := jx_a_some hZ
                                  refine M_lald hx hb hK hP wM_33 c_59 dX12_shift_161 ?_
                                  obtain ⟨c_60, hZ⟩ := jx_a_some hZ
                                  obtain ⟨S_61, e_S_61, hZ⟩ := jx_l_some hZ
                                  refine M_last hx hb hK hP hD hS wM_34 (fun _ => wMs_34) c_60 e_S_61 dX12_shift_162 (fun H locs hP hD hS => ?_)
                                  obtain ⟨x6_62, e_x6_62, hZ⟩ := jx_l_some hZ
                                  refine lv_iinc (v := x6_62) (lv' := [(6, .int x6_62), (0, .ref (q 0)), (1, .int x1), (2, .int x2), (3, .int x3), (4, .int x4), (5, .int x5)]) hx hb dX12_shift_163 hl (k := 6) rfl (by rw [e_x6_62]; rfl) (by decide) rfl (fun ls hl => ?_)
                                  refine lv_goto (tgt := 135) hx hb dX12_shift_166 (by decide) ?_
                                  have ho := Option.some.inj hZ
                                  subst ho
                                  exact ih_31 x6_62 S_61 _ _ hk_31 hP hD hS _ (lv_sub hl [1, 2, 3, 4, 5, 6, 0] rfl)
                            exact l_31 FU (0 : Int32) S_5 _ _ hw hP hD hS _ (lv_sub hl [1, 2, 3, 4, 5, 6, 0] rfl)
                          · have hZ := jx_i_neg c_28 hZ
                            refine lv_bipush (v := (-13 : Int32)) hx hb dX12_shift_129 (by decide) ?_
                            exact leave_i hx hb hr hlocks hP hS hZ dX12_shift_131
            · have hZ := jx_i_neg c_17 hZ
              refine lv_bipush (v := (-12 : Int32)) hx hb dX12_shift_64 (by decide) ?_
              exact leave_i hx hb hr hlocks hP hS hZ dX12_shift_66
        · have hZ := jx_i_pos c_12 hZ
          refine lv_bipush (v := (-11 : Int32)) hx hb dX12_shift_36 (by decide) ?_
          exact leave_i hx hb hr hlocks hP hS hZ dX12_shift_38
    · have hZ := jx_i_pos c_8 hZ
      refine lv_iconst (v := (-1 : Int32)) hx hb dX12_shift_14 (by decide) ?_
      exact leave_i hx hb hr hlocks hP hS hZ dX12_shift_15
-- X12_taken
def f_X12_taken_77 (x1_17 : Int32) (x3_17 : Int32) (S_17 : St) : Option (Int32 × St) :=
  (if x3_17 = (-1 : Int32) then some ((-12 : Int32), S_17) else jx_a x1_17 6 (jx_a (S_17.1 32 (Int32.toNatClampNeg x1_17)) 50 (some ((S_17.1 29 (Int32.toNatClampNeg (S_17.1 32 (Int32.toNatClampNeg x1_17)))), S_17))))
def b_X12_taken_59 (x1 : Int32) (x2 : Int32) (x3 : Int32) (S : St) : Option ((Int32 × St) ⊕ ((Int32 × St))) :=
  (if x3 = x2 then some (.inr (x3, S)) else (if x3 = (-1 : Int32) then some (.inr (x3, S)) else jx_b2 (f_X12_over x3 S) (fun r_28 S_26 => some (.inl (r_28, S_26)))))
def g_X12_taken_59 (x1 : Int32) (x2 : Int32) : (Int32 × St) → Option ((Int32 × St) ⊕ ((Int32 × St))) := fun z => b_X12_taken_59 x1 x2 z.1 z.2
def f_X12_taken (x1 : Int32) (x2 : Int32) (S : St) : Option (Int32 × St) :=
  jx_b2 (f_X12_isShelf x1 S) (fun r_3 S_1 => (if r_3 = 0 then some ((-1 : Int32), S_1) else jx_b2 (f_X12_in x2 (0 : Int32) (7 : Int32) S_1) (fun r_7 S_5 => (if r_7 = 0 then some ((-1 : Int32), S_5) else jx_a x1 6 ((if (S_5.1 31 (Int32.toNatClampNeg x1)) = (5 : Int32) then jx_a x1 6 (jx_a (S_5.1 32 (Int32.toNatClampNeg x1)) 50 (jx_l (S_5.1 29 (Int32.toNatClampNeg (S_5.1 32 (Int32.toNatClampNeg x1)))) (fun x3_13 => jx_b (jx_w (g_X12_taken_59 x1 x2) FU (x3_13, S_5)) (fun z => f_X12_taken_77 x1 z.1 z.2)))) else jx_a x1 6 ((if (S_5.1 31 (Int32.toNatClampNeg x1)) = (-1 : Int32) then some ((-11 : Int32), S_5) else some ((-12 : Int32), S_5)))))))))
set_option maxHeartbeats 4000000 in
set_option maxRecDepth 100000 in
theorem c_X12_taken (l : Launch) (D : va_G) (q : Nat → Nat) (k : CI) (x1 : Int32) (x2 : Int32) (S : St) (sz : Nat) (Z : Int32 × St) (hZ : f_X12_taken x1 x2 S = some Z) : MetI W_M SM l yX12_taken wsX12_taken { frames := 2, cells := 0, slots := 0, locals := 42 } [.ref (q 0), .int x1, .int x2] D q k S sz Z := by
  refine enter (cc := cX12_taken) (maxL := 4) (ret := some .int) (by decide) rfl (Nat.le_of_ble_eq_true rfl) ?_
  intro p e s m below meth c A ls hx hb hr hts hown hlocks hml hP hK hD hA hS hsp hAe hl
  have hown : s.vm.findClass RX12 = some m.cls := hown
  have hl : lv_has ls 4 [(0, .ref (q 0)), (1, .int x1), (2, .int x2)] := hl
  have in12 : ∀ w ∈ wsX120, w ∈ wsX12_taken := fun _ h => (List.mem_cons_of_mem _ (List.mem_append_right _ h))
  have j77 : ∀ (x1_17 : Int32) (x3_17 : Int32) (S_17 : St)  (H : Heap) (locs : List Loc) (hZ : f_X12_taken_77 x1_17 x3_17 S_17 = some Z) (hP : va_P D vwCl (W_M q k S_17) H) (hD : va_D A (W_M q k S_17)) (hS : va_S A s.heap H locs) (ls : Array Slot) (hl : lv_has ls 4 [(0, .ref (q 0)), (1, .int x1_17), (3, .int x3_17)]), W p l e ({ frames := 2, cells := 0, slots := 0, locals := 42 } : Room) s m ([.ref (q 0), .int x1, .int x2] : List Value).toArray below meth c H locs 0 0 (MQ below (va_Qi (fun r u => (r, u) = Z) (fun u t => va_P D vwCl (W_M q k u) t.heap) A) ([.ref (q 0), .int x1, .int x2] : List Value).toArray s 0 0 A) (F0 m 77 ls []) := by
    intro x1_17 x3_17 S_17   H locs hZ hP hD hS ls hl
    unfold f_X12_taken_77 at hZ
    refine lv_iload_n hx hb dX12_taken_77 rfl (lv_at hl 2 rfl) ?_
    refine lv_iconst (v := (-1 : Int32)) hx hb dX12_taken_78 (by decide) ?_
    refine lv_icmp_ne (tgt := 87) hx hb dX12_taken_79 (by decide) (fun c_18 => ?_) (fun c_18 => ?_)
    · have hZ := jx_i_neg c_18 hZ
      refine lv_aload_n hx hb dX12_taken_87 rfl (lv_at hl 0 rfl) ?_
      refine gf_12_bodyKind hx hb hts in12 hown hK hP (hts (.fieldLink RX12 96 "CoinsOfLastModel" "bodyKind" "[I") (List.mem_of_getElem? (i := 2) rfl)) dX12_taken_88 ?_
      refine lv_aload_n hx hb dX12_taken_91 rfl (lv_at hl 0 rfl) ?_
      refine gf_12_shelfSize hx hb hts in12 hown hK hP (hts (.fieldLink RX12 105 "CoinsOfLastModel" "shelfSize" "[I") (List.mem_of_getElem? (i := 3) rfl)) dX12_taken_92 ?_
      refine lv_iload_n hx hb dX12_taken_95 rfl (lv_at hl 1 rfl) ?_
      obtain ⟨c_19, hZ⟩ := jx_a_some hZ
      refine M_iald hx hb hK hP wM_32 c_19 dX12_taken_96 ?_
      obtain ⟨c_20, hZ⟩ := jx_a_some hZ
      refine M_iald hx hb hK hP wM_29 c_20 dX12_taken_97 ?_
      exact leave_i hx hb hr hlocks hP hS hZ dX12_taken_98
    · have hZ := jx_i_pos c_18 hZ
      refine lv_bipush (v := (-12 : Int32)) hx hb dX12_taken_82 (by decide) ?_
      refine lv_goto (tgt := 98) hx hb dX12_taken_84 (by decide) ?_
      exact leave_i hx hb hr hlocks hP hS hZ dX12_taken_98
  unfold f_X12_taken at hZ
  refine lv_iload_n hx hb dX12_taken_0 rfl (lv_at hl 1 rfl) ?_
  obtain ⟨r_3, S_1, hc_2, hZ⟩ := jx_b2_some hZ
  refine call_Si SM_ok sameM ⟨hx, hb, hml, hown, hts⟩ (c_X12_isShelf l D q k x1 S _ (r_3, S_1)  hc_2) (va_cwS 1 hts gX12_taken_X12_isShelf rfl rfl rfl hd_X12_isShelf ⟨Nat.le_of_ble_eq_true rfl, Nat.le_of_ble_eq_true rfl⟩) hK hP hD hS hA hsp (As := [.int x1]) rfl hl.1 rfl (Nat.le_of_ble_eq_true rfl) dX12_taken_1 ⟨Nat.zero_le _, Nat.zero_le _⟩ (fun H locs hP hD hS => ?_)
  refine lv_if_eq (tgt := 17) hx hb dX12_taken_4 (by decide) (fun c_4 => ?_) (fun c_4 => ?_)
  · have hZ := jx_i_pos c_4 hZ
    refine lv_iconst (v := (-1 : Int32)) hx hb dX12_taken_17 (by decide) ?_
    exact leave_i hx hb hr hlocks hP hS hZ dX12_taken_18
  · have hZ := jx_i_neg c_4 hZ
    refine lv_iload_n hx hb dX12_taken_7 rfl (lv_at hl 2 rfl) ?_
    refine lv_iconst (v := (0 : Int32)) hx hb dX12_taken_8 (by decide) ?_
    refine lv_bipush (v := (7 : Int32)) hx hb dX12_taken_9 (by decide) ?_
    obtain ⟨r_7, S_5, hc_6, hZ⟩ := jx_b2_some hZ
    refine call_Si SM_ok sameM ⟨hx, hb, hml, hown, hts⟩ (c_X12_in l D q k x2 (0 : Int32) (7 : Int32) S_1 _ (r_7, S_5)  hc_6) (va_cwS 3 hts gX12_taken_X12_in rfl rfl rfl hd_X12_in ⟨Nat.le_of_ble_eq_true rfl, Nat.le_of_ble_eq_true rfl⟩) hK hP hD hS hA hsp (As := [.int x2, .int (0 : Int32), .int (7 : Int32)]) rfl hl.1 rfl (Nat.le_of_ble_eq_true rfl) dX12_taken_11 ⟨Nat.zero_le _, Nat.zero_le _⟩ (fun H locs hP hD hS => ?_)
    refine lv_if_ne (tgt := 19) hx hb dX12_taken_14 (by decide) (fun c_8 => ?_) (fun c_8 => ?_)
    · have hZ := jx_i_neg c_8 hZ
      refine lv_aload_n hx hb dX12_taken_19 rfl (lv_at hl 0 rfl) ?_
      refine gf_12_shelfIs hx hb hts in12 hown hK hP (hts (.fieldLink RX12 102 "CoinsOfLastModel" "shelfIs" "[I") (List.mem_of_getElem? (i := 1) rfl)) dX12_taken_20 ?_
      refine lv_iload_n hx hb dX12_taken_23 rfl (lv_at hl 1 rfl) ?_
      obtain ⟨c_9, hZ⟩ := jx_a_some hZ
      refine M_iald hx hb hK hP wM_31 c_9 dX12_taken_24 ?_
      refine lv_iconst (v := (5 : Int32)) hx hb dX12_taken_25 (by decide) ?_
      refine lv_icmp_eq (tgt := 47) hx hb dX12_taken_26 (by decide) (fun c_10 => ?_) (fun c_10 => ?_)
      · have hZ := jx_i_pos c_10 hZ
        refine lv_aload_n hx hb dX12_taken_47 rfl (lv_at hl 0 rfl) ?_
        refine gf_12_bodyKind hx hb hts in12 hown hK hP (hts (.fieldLink RX12 96 "CoinsOfLastModel" "bodyKind" "[I") (List.mem_of_getElem? (i := 2) rfl)) dX12_taken_48 ?_
        refine lv_aload_n hx hb dX12_taken_51 rfl (lv_at hl 0 rfl) ?_
        refine gf_12_shelfSize hx hb hts in12 hown hK hP (hts (.fieldLink RX12 105 "CoinsOfLastModel" "shelfSize" "[I") (List.mem_of_getElem? (i := 3) rfl)) dX12_taken_52 ?_
        refine lv_iload_n hx hb dX12_taken_55 rfl (lv_at hl 1 rfl) ?_
        obtain ⟨c_11, hZ⟩ := jx_a_some hZ
        refine M_iald hx hb hK hP wM_32 c_11 dX12_taken_56 ?_
        obtain ⟨c_12, hZ⟩ := jx_a_some hZ
        refine M_iald hx hb hK hP wM_29 c_12 dX12_taken_57 ?_
        obtain ⟨x3_13, e_x3_13, hZ⟩ := jx_l_some hZ
        refine tx_i e_x3_13 ?_
        refine lv_istore_n (lv' := [(3, .int x3_13), (0, .ref (q 0)), (1, .int x1), (2, .int x2)]) hx hb dX12_taken_58 rfl hl (by decide) rfl (fun ls hl => ?_)
        obtain ⟨r_16, hw, hza_16⟩ := jx_b_some hZ
        have l_16 : ∀ (nn : Nat) (x3_14 : Int32) (S_15 : St) (H : Heap) (locs : List Loc) (hw : jx_w (g_X12_taken_59 x1 x2) nn (x3_14, S_15) = some r_16) (hP : va_P D vwCl (W_M q k S_15) H) (hD : va_D A (W_M q k S_15)) (hS : va_S A s.heap H locs) (ls : Array Slot) (hl : lv_has ls 4 [(0, .ref (q 0)), (1, .int x1), (2, .int x2), (3, .int x3_14)]), W p l e ({ frames := 2, cells := 0, slots := 0, locals := 42 } : Room) s m ([.ref (q 0), .int x1, .int x2] : List Value).toArray below meth c H locs 0 0 (MQ below (va_Qi (fun r u => (r, u) = Z) (fun u t => va_P D vwCl (W_M q k u) t.heap) A) ([.ref (q 0), .int x1, .int x2] : List Value).toArray s 0 0 A) (F0 m 59 ls []) := by
          intro nn
          induction nn with
          | zero =>
            intro x3_14 S_15 H locs hw hP hD hS ls hl
            exact jx_w_zero hw
          | succ n_16 ih_16 =>
            intro x3_14 S_15 H locs hw hP hD hS ls hl
            obtain ⟨o_16, hZ, hk_16⟩ := jx_w_succ hw
            have hZ : b_X12_taken_59 x1 x2 x3_14 S_15 = some o_16 := hZ
            unfold b_X12_taken_59 at hZ
            refine lv_iload_n hx hb dX12_taken_59 rfl (lv_at hl 3 rfl) ?_
            refine lv_iload_n hx hb dX12_taken_60 rfl (lv_at hl 2 rfl) ?_
            refine lv_icmp_eq (tgt := 77) hx hb dX12_taken_61 (by decide) (fun c_29 => ?_) (fun c_29 => ?_)
            · have hZ := jx_i_pos c_29 hZ
              have ho := Option.some.inj hZ
              subst ho
              have hE := hza_16
              rw [← (show (x3_14, S_15) = r_16 from hk_16)] at hE
              have hZ : f_X12_taken_77 x1 x3_14 S_15 = some Z := hE
              exact j77 x1 x3_14 S_15 _ _ hZ hP hD hS _ (lv_sub hl [0, 1, 3] rfl)
            · have hZ := jx_i_neg c_29 hZ
              refine lv_iload_n hx hb dX12_taken_64 rfl (lv_at hl 3 rfl) ?_
              refine lv_iconst (v := (-1 : Int32)) hx hb dX12_taken_65 (by decide) ?_
              refine lv_icmp_eq (tgt := 77) hx hb dX12_taken_66 (by decide) (fun c_31 => ?_) (fun c_31 => ?_)
              · have hZ := jx_i_pos c_31 hZ
                have ho := Option.some.inj hZ
                subst ho
                have hE := hza_16
                rw [← (show (x3_14, S_15) = r_16 from hk_16)] at hE
                have hZ : f_X12_taken_77 x1 x3_14 S_15 = some Z := hE
                exact j77 x1 x3_14 S_15 _ _ hZ hP hD hS _ (lv_sub hl [0, 1, 3] rfl)
              · have hZ := jx_i_neg c_31 hZ
                refine lv_iload_n hx hb dX12_taken_69 rfl (lv_at hl 3 rfl) ?_
                obtain ⟨r_35, S_33, hc_34, hZ⟩ := jx_b2_some hZ
                refine call_Si SM_ok sameM ⟨hx, hb, hml, hown, hts⟩ (c_X12_over l D q k x3_14 S_15 _ (r_35, S_33)  hc_34) (va_cwS 1 hts gX12_taken_X12_over rfl rfl rfl hd_X12_over ⟨Nat.le_of_ble_eq_true rfl, Nat.le_of_ble_eq_true rfl⟩) hK hP hD hS hA hsp (As := [.int x3_14]) rfl hl.1 rfl (Nat.le_of_ble_eq_true rfl) dX12_taken_70 ⟨Nat.zero_le _, Nat.zero_le _⟩ (fun H locs hP hD hS => ?_)
                refine lv_istore_n (lv' := [(3, .int r_35), (0, .ref (q 0)), (1, .int x1), (2, .int x2)]) hx hb dX12_taken_73 rfl hl (by decide) rfl (fun ls hl => ?_)
                refine lv_goto (tgt := 59) hx hb dX12_taken_74 (by decide) ?_
                have ho := Option.some.inj hZ
                subst ho
                exact ih_16 r_35 S_33 _ _ hk_16 hP hD hS _ (lv_sub hl [1, 2, 3, 0] rfl)
        exact l_16 FU x3_13 S_5 _ _ hw hP hD hS _ (lv_sub hl [1, 2, 3, 0] rfl)
      · have hZ := jx_i_neg c_10 hZ
        refine lv_aload_n hx hb dX12_taken_29 rfl (lv_at hl 0 rfl) ?_
        refine gf_12_shelfIs hx hb hts in12 hown hK hP (hts (.fieldLink RX12 102 "CoinsOfLastModel" "shelfIs" "[I") (List.mem_of_getElem? (i := 1) rfl)) dX12_taken_30 ?_
        refine lv_iload_n hx hb dX12_taken_33 rfl (lv_at hl 1 rfl) ?_
        obtain ⟨c_36, hZ⟩ := jx_a_some hZ
        refine M_iald hx hb hK hP wM_31 c_36 dX12_taken_34 ?_
        refine lv_iconst (v := (-1 : Int32)) hx hb dX12_taken_35 (by decide) ?_
        refine lv_icmp_ne (tgt := 44) hx hb dX12_taken_36 (by decide) (fun c_37 => ?_) (fun c_37 => ?_)
        · have hZ := jx_i_neg c_37 hZ
          refine lv_bipush (v := (-12 : Int32)) hx hb dX12_taken_44 (by decide) ?_
          exact leave_i hx hb hr hlocks hP hS hZ dX12_taken_46
        · have hZ := jx_i_pos c_37 hZ
          refine lv_bipush (v := (-11 : Int32)) hx hb dX12_taken_39 (by decide) ?_
          refine lv_goto (tgt := 46) hx hb dX12_taken_41 (by decide) ?_
          exact leave_i hx hb hr hlocks hP hS hZ dX12_taken_46
    · have hZ := jx_i_pos c_8 hZ
      refine lv_iconst (v := (-1 : Int32)) hx hb dX12_taken_17 (by decide) ?_
      exact leave_i hx hb hr hlocks hP hS hZ dX12_taken_18
-- X12_count
def f_X12_count_27 (x1_4 : Int32) (x2_4 : Int32) (S_4 : St) : Option (Int32 × St) :=
  (if x1_4 = (0 : Int32) then some ((S_4.1 0 0), S_4) else if x1_4 = (1 : Int32) then some ((S_4.1 0 6), S_4) else if x1_4 = (2 : Int32) then some (x2_4, S_4) else if x1_4 = (3 : Int32) then some ((S_4.1 0 18), S_4) else if x1_4 = (4 : Int32) then some ((S_4.1 0 20), S_4) else if x1_4 = (5 : Int32) then some ((S_4.1 0 48), S_4) else if x1_4 = (6 : Int32) then some ((S_4.1 0 50), S_4) else some ((-1 : Int32), S_4))
def b_X12_count_4 (x1 : Int32) (x2 : Int32) (x3 : Int32) (S : St) : Option ((Int32 × Int32) ⊕ (Int32)) :=
  (if (S.1 0 0) ≤ x3 then some (.inr x2) else jx_a x3 8 (jx_l (x2 + (S.1 5 (Int32.toNatClampNeg x3))) (fun x2_16 => jx_l (x3 + 1) (fun x3_17 => some (.inl (x2_16, x3_17))))))
def g_X12_count_4 (x1 : Int32) (S : St) : (Int32 × Int32) → Option ((Int32 × Int32) ⊕ (Int32)) := fun z => b_X12_count_4 x1 z.1 z.2 S
def f_X12_count (x1 : Int32) (S : St) : Option (Int32 × St) :=
  jx_b (jx_w (g_X12_count_4 x1 S) FU ((0 : Int32), (0 : Int32))) (fun z => f_X12_count_27 x1 z S)
set_option maxHeartbeats 4000000 in
set_option maxRecDepth 100000 in
theorem c_X12_count (l : Launch) (D : va_G) (q : Nat → Nat) (k : CI) (x1 : Int32) (S : St) (sz : Nat) (Z : Int32 × St) (hZ : f_X12_count x1 S = some Z) : MetI W_M SM l yX12_count wsX12_count { frames := 0, cells := 0, slots := 0, locals := 0 } [.ref (q 0), .int x1] D q k S sz Z := by
  refine enter (cc := cX12_count) (maxL := 4) (ret := some .int) (by decide) rfl (Nat.le_of_ble_eq_true rfl) ?_
  intro p e s m below meth c A ls hx hb hr hts hown hlocks hml hP hK hD hA hS hsp hAe hl
  have hown : s.vm.findClass RX12 = some m.cls := hown
  have hl : lv_has ls 4 [(0, .ref (q 0)), (1, .int x1)] := hl
  have in12 : ∀ w ∈ wsX120, w ∈ wsX12_count := fun _ h => (List.mem_cons_of_mem _ (List.mem_append_right _ h))
  have j27 : ∀ (x1_4 : Int32) (x2_4 : Int32) (S_4 : St)  (H : Heap) (locs : List Loc) (hZ : f_X12_count_27 x1_4 x2_4 S_4 = some Z) (hP : va_P D vwCl (W_M q k S_4) H) (hD : va_D A (W_M q k S_4)) (hS : va_S A s.heap H locs) (ls : Array Slot) (hl : lv_has ls 4 [(0, .ref (q 0)), (1, .int x1_4), (2, .int x2_4)]), W p l e ({ frames := 0, cells := 0, slots := 0, locals := 0 } : Room) s m ([.ref (q 0), .int x1] : List Value).toArray below meth c H locs 0 0 (MQ below (va_Qi (fun r u => (r, u) = Z) (fun u t => va_P D vwCl (W_M q k u) t.heap) A) ([.ref (q 0), .int x1] : List Value).toArray s 0 0 A) (F0 m 27 ls []) := by
    intro x1_4 x2_4 S_4   H locs hZ hP hD hS ls hl
    unfold f_X12_count_27 at hZ
    refine lv_iload_n hx hb dX12_count_27 rfl (lv_at hl 1 rfl) ?_
    by_cases c_5 : x1_4 = (0 : Int32)
    · have hZ := jx_i_pos c_5 hZ
      refine lv_tableIn (tgt := 72) hx hb dX12_count_28 (by rw [c_5]; decide) (by rw [c_5]; decide) (by rw [c_5]; rfl) (by decide) ?_
      refine lv_aload_n hx hb dX12_count_72 rfl (lv_at hl 0 rfl) ?_
      refine gf_12_sorts hx hb hts in12 hown hK hP (hts (.fieldLink RX12 114 "CoinsOfLastModel" "sorts" "I") (List.mem_of_getElem? (i := 1) rfl)) dX12_count_73 ?_
      exact leave_i hx hb hr hlocks hP hS hZ dX12_count_76
    have hZ := jx_i_neg c_5 hZ
    by_cases c_6 : x1_4 = (1 : Int32)
    · have hZ := jx_i_pos c_6 hZ
      refine lv_tableIn (tgt := 77) hx hb dX12_count_28 (by rw [c_6]; decide) (by rw [c_6]; decide) (by rw [c_6]; rfl) (by decide) ?_
      refine lv_aload_n hx hb dX12_count_77 rfl (lv_at hl 0 rfl) ?_
      refine gf_12_things hx hb hts in12 hown hK hP (hts (.fieldLink RX12 122 "CoinsOfLastModel" "things" "I") (List.mem_of_getElem? (i := 3) rfl)) dX12_count_78 ?_
      exact leave_i hx hb hr hlocks hP hS hZ dX12_count_81
    have hZ := jx_i_neg c_6 hZ
    by_cases c_7 : x1_4 = (2 : Int32)
    · have hZ := jx_i_pos c_7 hZ
      refine lv_tableIn (tgt := 82) hx hb dX12_count_28 (by rw [c_7]; decide) (by rw [c_7]; decide) (by rw [c_7]; rfl) (by decide) ?_
      refine lv_iload_n hx hb dX12_count_82 rfl (lv_at hl 2 rfl) ?_
      exact leave_i hx hb hr hlocks hP hS hZ dX12_count_83
    have hZ := jx_i_neg c_7 hZ
    by_cases c_8 : x1_4 = (3 : Int32)
    · have hZ := jx_i_pos c_8 hZ
      refine lv_tableIn (tgt := 84) hx hb dX12_count_28 (by rw [c_8]; decide) (by rw [c_8]; decide) (by rw [c_8]; rfl) (by decide) ?_
      refine lv_aload_n hx hb dX12_count_84 rfl (lv_at hl 0 rfl) ?_
      refine gf_12_taped hx hb hts in12 hown hK hP (hts (.fieldLink RX12 172 "CoinsOfLastModel" "taped" "I") (List.mem_of_getElem? (i := 4) rfl)) dX12_count_85 ?_
      exact leave_i hx hb hr hlocks hP hS hZ dX12_count_88
    have hZ := jx_i_neg c_8 hZ
    by_cases c_9 : x1_4 = (4 : Int32)
    · have hZ := jx_i_pos c_9 hZ
      refine lv_tableIn (tgt := 89) hx hb dX12_count_28 (by rw [c_9]; decide) (by rw [c_9]; decide) (by rw [c_9]; rfl) (by decide) ?_
      refine lv_aload_n hx hb dX12_count_89 rfl (lv_at hl 0 rfl) ?_
      refine gf_12_changed hx hb hts in12 hown hK hP (hts (.fieldLink RX12 158 "CoinsOfLastModel" "changed" "I") (List.mem_of_getElem? (i := 5) rfl)) dX12_count_90 ?_
      exact leave_i hx hb hr hlocks hP hS hZ dX12_count_93
    have hZ := jx_i_neg c_9 hZ
    by_cases c_10 : x1_4 = (5 : Int32)
    · have hZ := jx_i_pos c_10 hZ
      refine lv_tableIn (tgt := 94) hx hb dX12_count_28 (by rw [c_10]; decide) (by rw [c_10]; decide) (by rw [c_10]; rfl) (by decide) ?_
      refine lv_aload_n hx hb dX12_count_94 rfl (lv_at hl 0 rfl) ?_
      refine gf_12_bodies hx hb hts in12 hown hK hP (hts (.fieldLink RX12 372 "CoinsOfLastModel" "bodies" "I") (List.mem_of_getElem? (i := 6) rfl)) dX12_count_95 ?_
      exact leave_i hx hb hr hlocks hP hS hZ dX12_count_98
    have hZ := jx_i_neg c_10 hZ
    by_cases c_11 : x1_4 = (6 : Int32)
    · have hZ := jx_i_pos c_11 hZ
      refine lv_tableIn (tgt := 99) hx hb dX12_count_28 (by rw [c_11]; decide) (by rw [c_11]; decide) (by rw [c_11]; rfl) (by decide) ?_
      refine lv_aload_n hx hb dX12_count_99 rfl (lv_at hl 0 rfl) ?_
      refine gf_12_ran hx hb hts in12 hown hK hP (hts (.fieldLink RX12 348 "CoinsOfLastModel" "ran" "I") (List.mem_of_getElem? (i := 7) rfl)) dX12_count_100 ?_
      exact leave_i hx hb hr hlocks hP hS hZ dX12_count_103
    have hZ := jx_i_neg c_11 hZ
    refine lv_tableD (tgt := 104) hx hb dX12_count_28 ?_ (by decide) ?_
    · have t_0 : ¬ Int32.toInt x1_4 = 0 := lv_neT c_5 rfl
      have t_1 : ¬ Int32.toInt x1_4 = 1 := lv_neT c_6 rfl
      have t_2 : ¬ Int32.toInt x1_4 = 2 := lv_neT c_7 rfl
      have t_3 : ¬ Int32.toInt x1_4 = 3 := lv_neT c_8 rfl
      have t_4 : ¬ Int32.toInt x1_4 = 4 := lv_neT c_9 rfl
      have t_5 : ¬ Int32.toInt x1_4 = 5 := lv_neT c_10 rfl
      have t_6 : ¬ Int32.toInt x1_4 = 6 := lv_neT c_11 rfl
      by_cases a1 : Int32.toInt x1_4 < 0
      · exact Or.inl (Or.inl a1)
      by_cases a2 : 6 < Int32.toInt x1_4
      · exact Or.inl (Or.inr a2)
      exfalso; omega
    · refine lv_iconst (v := (-1 : Int32)) hx hb dX12_count_104 (by decide) ?_
      exact leave_i hx hb hr hlocks hP hS hZ dX12_count_105
  unfold f_X12_count at hZ
  refine lv_iconst (v := (0 : Int32)) hx hb dX12_count_0 (by decide) ?_
  refine lv_istore_n (lv' := [(2, .int (0 : Int32)), (0, .ref (q 0)), (1, .int x1)]) hx hb dX12_count_1 rfl hl (by decide) rfl (fun ls hl => ?_)
  refine lv_iconst (v := (0 : Int32)) hx hb dX12_count_2 (by decide) ?_
  refine lv_istore_n (lv' := [(3, .int (0 : Int32)), (2, .int (0 : Int32)), (0, .ref (q 0)), (1, .int x1)]) hx hb dX12_count_3 rfl hl (by decide) rfl (fun ls hl => ?_)
  obtain ⟨r_3, hw, hza_3⟩ := jx_b_some hZ
  have l_3 : ∀ (nn : Nat) (x2_1 : Int32) (x3_2 : Int32) (H : Heap) (locs : List Loc) (hw : jx_w (g_X12_count_4 x1 S) nn (x2_1, x3_2) = some r_3) (hP : va_P D vwCl (W_M q k S) H) (hD : va_D A (W_M q k S)) (hS : va_S A s.heap H locs) (ls : Array Slot) (hl : lv_has ls 4 [(0, .ref (q 0)), (1, .int x1), (2, .int x2_1), (3, .int x3_2)]), W p l e ({ frames := 0, cells := 0, slots := 0, locals := 0 } : Room) s m ([.ref (q 0), .int x1] : List Value).toArray below meth c H locs 0 0 (MQ below (va_Qi (fun r u => (r, u) = Z) (fun u t => va_P D vwCl (W_M q k u) t.heap) A) ([.ref (q 0), .int x1] : List Value).toArray s 0 0 A) (F0 m 4 ls []) := by
    intro nn
    induction nn with
    | zero =>
      intro x2_1 x3_2 H locs hw hP hD hS ls hl
      exact jx_w_zero hw
    | succ n_3 ih_3 =>
      intro x2_1 x3_2 H locs hw hP hD hS ls hl
      obtain ⟨o_3, hZ, hk_3⟩ := jx_w_succ hw
      have hZ : b_X12_count_4 x1 x2_1 x3_2 S = some o_3 := hZ
      unfold b_X12_count_4 at hZ
      refine lv_iload_n hx hb dX12_count_4 rfl (lv_at hl 3 rfl) ?_
      refine lv_aload_n hx hb dX12_count_5 rfl (lv_at hl 0 rfl) ?_
      refine gf_12_sorts hx hb hts in12 hown hK hP (hts (.fieldLink RX12 114 "CoinsOfLastModel" "sorts" "I") (List.mem_of_getElem? (i := 1) rfl)) dX12_count_6 ?_
      refine lv_icmp_ge (tgt := 27) hx hb dX12_count_9 (by decide) (fun c_18 => ?_) (fun c_18 => ?_)
      · have hZ := jx_i_pos c_18 hZ
        have ho := Option.some.inj hZ
        subst ho
        have hE := hza_3
        rw [← (show x2_1 = r_3 from hk_3)] at hE
        have hZ : f_X12_count_27 x1 x2_1 S = some Z := hE
        exact j27 x1 x2_1 S _ _ hZ hP hD hS _ (lv_sub hl [0, 1, 2] rfl)
      · have hZ := jx_i_neg c_18 hZ
        refine lv_iload_n hx hb dX12_count_12 rfl (lv_at hl 2 rfl) ?_
        refine lv_aload_n hx hb dX12_count_13 rfl (lv_at hl 0 rfl) ?_
        refine gf_12_purse hx hb hts in12 hown hK hP (hts (.fieldLink RX12 22 "CoinsOfLastModel" "purse" "[I") (List.mem_of_getElem? (i := 2) rfl)) dX12_count_14 ?_
        refine lv_iload_n hx hb dX12_count_17 rfl (lv_at hl 3 rfl) ?_
        obtain ⟨c_20, hZ⟩ := jx_a_some hZ
        refine M_iald hx hb hK hP wM_5 c_20 dX12_count_18 ?_
        refine lv_iadd hx hb dX12_count_19 ?_
        obtain ⟨x2_21, e_x2_21, hZ⟩ := jx_l_some hZ
        refine tx_i e_x2_21 ?_
        refine lv_istore_n (lv' := [(2, .int x2_21), (0, .ref (q 0)), (1, .int x1), (3, .int x3_2)]) hx hb dX12_count_20 rfl hl (by decide) rfl (fun ls hl => ?_)
        obtain ⟨x3_22, e_x3_22, hZ⟩ := jx_l_some hZ
        refine lv_iinc (v := x3_22) (lv' := [(3, .int x3_22), (2, .int x2_21), (0, .ref (q 0)), (1, .int x1)]) hx hb dX12_count_21 hl (k := 3) rfl (by rw [e_x3_22]; rfl) (by decide) rfl (fun ls hl => ?_)
        refine lv_goto (tgt := 4) hx hb dX12_count_24 (by decide) ?_
        have ho := Option.some.inj hZ
        subst ho
        exact ih_3 x2_21 x3_22 _ _ hk_3 hP hD hS _ (lv_sub hl [2, 3, 1, 0] rfl)
  exact l_3 FU (0 : Int32) (0 : Int32) _ _ hw hP hD hS _ (lv_sub hl [2, 3, 1, 0] rfl)
