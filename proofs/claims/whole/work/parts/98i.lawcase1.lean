section
variable {p : Program} {l : Launch} {e : Env} {s : State} {m : MethodId} {below : List Frame} {meth : Method} {c : Code} {H : Heap} {locs : List Loc} {Q : State → Prop} {ls : Array Slot} {b L i : Nat} {xs : Nat → Int32} {D : va_G} {q q2 : Nat → Nat} {k : CI} {S T : St}
set_option maxHeartbeats 4000000 in
set_option maxRecDepth 100000 in
theorem law_case_14 (C0 : LC p s m c b L xs D q q2 k) (hi : i + 6 ≤ L) (h : RR RxC S T) (hP : va_P D vwCl (W_X q k S) H) (hV : va_P D vwCl (W_M q2 k T) H) (hS : va_S (AL s) s.heap H locs) (hl : lv_has ls 4 [(3, .int (nI i)), (2, .ref (q2 0)), (1, .ref (q 0)), (0, .ref b)]) (kk : ∀ (S2 T2 : St) (H : Heap) (locs : List Loc), RR RxC S2 T2 → va_P D vwCl (W_X q k S2) H → va_P D vwCl (W_M q2 k T2) H → va_S (AL s) s.heap H locs → W p l e room_1 s m #[Value.ref b] below meth c H locs 95 26919 Q (F0 m 1589 ls [])) : W p l e room_1 s m #[Value.ref b] below meth c H locs 95 26919 Q (F0 m 690 ls []) := by
  obtain ⟨hx, hb, hml, hown, hts, hX, hbl, hK, hDX, hDM, hsp, hL⟩ := C0
  have hA : ∀ a, s.heap.size ≤ a → AL s a := fun _ h => h
  have hbA : ¬ AL s b := Nat.not_le.mpr hbl
  obtain ⟨r, S2, T2, e1, e2, hR⟩ := op_buy (xs (nI (i + 1)).toNatClampNeg) h
  refine lv_aload_n hx hb dL_law_690 rfl (lv_at hl 2 rfl) ?_
  refine lv_aload_n hx hb dL_law_691 rfl (lv_at hl 3 rfl) ?_
  refine lv_iload_n hx hb dL_law_692 rfl (lv_at hl 0 rfl) ?_
  refine lv_iconst (v := (1 : Int32)) hx hb dL_law_693 (by decide) ?_
  refine lv_iadd hx hb dL_law_694 ?_
  refine tx_i (x := nI (i + 1)) (lw_p 1 rfl) ?_
  refine va_sld hx hb hX hbl hbA hS (lw_in 1 hi hL (by decide)) dL_law_695 ?_
  refine law_i (Wd := W_X) (V := (W_M q2 k T)) SX_ok sameX ⟨hx, hb, hml, hown, hts⟩ (c_X11_buy l D q k (xs (nI (i + 1)).toNatClampNeg) S H.size (r, S2) e1) (cwV 1 hts gL_law_X11_buy rfl rfl rfl (by decide +kernel) ⟨Nat.le_of_ble_eq_true rfl, Nat.le_of_ble_eq_true rfl⟩) hK hP hV (hDX S T) hS hA hsp (va_recv hK hP (ci := 11) (q0 := 0) rfl rfl) (As := [.int (xs (nI (i + 1)).toNatClampNeg)]) rfl hl.1 rfl (Nat.le_of_ble_eq_true rfl) dL_law_696 ⟨Nat.le_of_ble_eq_true rfl, Nat.le_of_ble_eq_true rfl⟩ (fun H locs hP hV hS => ?_)
  refine lv_aload_n hx hb dL_law_699 rfl (lv_at hl 1 rfl) ?_
  refine lv_aload_n hx hb dL_law_700 rfl (lv_at hl 3 rfl) ?_
  refine lv_iload_n hx hb dL_law_701 rfl (lv_at hl 0 rfl) ?_
  refine lv_iconst (v := (1 : Int32)) hx hb dL_law_702 (by decide) ?_
  refine lv_iadd hx hb dL_law_703 ?_
  refine tx_i (x := nI (i + 1)) (lw_p 1 rfl) ?_
  refine va_sld hx hb hX hbl hbA hS (lw_in 1 hi hL (by decide)) dL_law_704 ?_
  refine law_i (Wd := W_M) (V := (W_X q k S2)) SM_ok sameM ⟨hx, hb, hml, hown, hts⟩ (c_X12_buy l D q2 k (xs (nI (i + 1)).toNatClampNeg) T H.size (r, T2) e2) (cwV 1 hts gL_law_X12_buy rfl rfl rfl (by decide +kernel) ⟨Nat.le_of_ble_eq_true rfl, Nat.le_of_ble_eq_true rfl⟩) hK hV hP (hDM S2 T) hS hA trivial (va_recv hK hV (ci := 12) (q0 := 0) rfl rfl) (As := [.int (xs (nI (i + 1)).toNatClampNeg)]) rfl hl.1 rfl (Nat.le_of_ble_eq_true rfl) dL_law_705 ⟨Nat.le_of_ble_eq_true rfl, Nat.le_of_ble_eq_true rfl⟩ (fun H locs hV hP hS => ?_)
  exact lv_icmp_eq (tgt := 1589) hx hb dL_law_708 (by decide) (fun _ => kk S2 T2 H locs hR hP hV hS) (fun h9 => absurd rfl h9)
set_option maxHeartbeats 4000000 in
set_option maxRecDepth 100000 in
theorem law_case_15 (C0 : LC p s m c b L xs D q q2 k) (hi : i + 6 ≤ L) (h : RR RxC S T) (hP : va_P D vwCl (W_X q k S) H) (hV : va_P D vwCl (W_M q2 k T) H) (hS : va_S (AL s) s.heap H locs) (hl : lv_has ls 4 [(3, .int (nI i)), (2, .ref (q2 0)), (1, .ref (q 0)), (0, .ref b)]) (kk : ∀ (S2 T2 : St) (H : Heap) (locs : List Loc), RR RxC S2 T2 → va_P D vwCl (W_X q k S2) H → va_P D vwCl (W_M q2 k T2) H → va_S (AL s) s.heap H locs → W p l e room_1 s m #[Value.ref b] below meth c H locs 95 26919 Q (F0 m 1589 ls [])) : W p l e room_1 s m #[Value.ref b] below meth c H locs 95 26919 Q (F0 m 713 ls []) := by
  obtain ⟨hx, hb, hml, hown, hts, hX, hbl, hK, hDX, hDM, hsp, hL⟩ := C0
  have hA : ∀ a, s.heap.size ≤ a → AL s a := fun _ h => h
  have hbA : ¬ AL s b := Nat.not_le.mpr hbl
  obtain ⟨r, S2, T2, e1, e2, hR⟩ := op_like (xs (nI (i + 1)).toNatClampNeg) (xs (nI (i + 2)).toNatClampNeg) h
  refine lv_aload_n hx hb dL_law_713 rfl (lv_at hl 2 rfl) ?_
  refine lv_aload_n hx hb dL_law_714 rfl (lv_at hl 3 rfl) ?_
  refine lv_iload_n hx hb dL_law_715 rfl (lv_at hl 0 rfl) ?_
  refine lv_iconst (v := (1 : Int32)) hx hb dL_law_716 (by decide) ?_
  refine lv_iadd hx hb dL_law_717 ?_
  refine tx_i (x := nI (i + 1)) (lw_p 1 rfl) ?_
  refine va_sld hx hb hX hbl hbA hS (lw_in 1 hi hL (by decide)) dL_law_718 ?_
  refine lv_aload_n hx hb dL_law_719 rfl (lv_at hl 3 rfl) ?_
  refine lv_iload_n hx hb dL_law_720 rfl (lv_at hl 0 rfl) ?_
  refine lv_iconst (v := (2 : Int32)) hx hb dL_law_721 (by decide) ?_
  refine lv_iadd hx hb dL_law_722 ?_
  refine tx_i (x := nI (i + 2)) (lw_p 2 rfl) ?_
  refine va_sld hx hb hX hbl hbA hS (lw_in 2 hi hL (by decide)) dL_law_723 ?_
  refine law_i (Wd := W_X) (V := (W_M q2 k T)) SX_ok sameX ⟨hx, hb, hml, hown, hts⟩ (c_X11_like l D q k (xs (nI (i + 1)).toNatClampNeg) (xs (nI (i + 2)).toNatClampNeg) S H.size (r, S2) e1) (cwV 2 hts gL_law_X11_like rfl rfl rfl (by decide +kernel) ⟨Nat.le_of_ble_eq_true rfl, Nat.le_of_ble_eq_true rfl⟩) hK hP hV (hDX S T) hS hA hsp (va_recv hK hP (ci := 11) (q0 := 0) rfl rfl) (As := [.int (xs (nI (i + 1)).toNatClampNeg), .int (xs (nI (i + 2)).toNatClampNeg)]) rfl hl.1 rfl (Nat.le_of_ble_eq_true rfl) dL_law_724 ⟨Nat.le_of_ble_eq_true rfl, Nat.le_of_ble_eq_true rfl⟩ (fun H locs hP hV hS => ?_)
  refine lv_aload_n hx hb dL_law_727 rfl (lv_at hl 1 rfl) ?_
  refine lv_aload_n hx hb dL_law_728 rfl (lv_at hl 3 rfl) ?_
  refine lv_iload_n hx hb dL_law_729 rfl (lv_at hl 0 rfl) ?_
  refine lv_iconst (v := (1 : Int32)) hx hb dL_law_730 (by decide) ?_
  refine lv_iadd hx hb dL_law_731 ?_
  refine tx_i (x := nI (i + 1)) (lw_p 1 rfl) ?_
  refine va_sld hx hb hX hbl hbA hS (lw_in 1 hi hL (by decide)) dL_law_732 ?_
  refine lv_aload_n hx hb dL_law_733 rfl (lv_at hl 3 rfl) ?_
  refine lv_iload_n hx hb dL_law_734 rfl (lv_at hl 0 rfl) ?_
  refine lv_iconst (v := (2 : Int32)) hx hb dL_law_735 (by decide) ?_
  refine lv_iadd hx hb dL_law_736 ?_
  refine tx_i (x := nI (i + 2)) (lw_p 2 rfl) ?_
  refine va_sld hx hb hX hbl hbA hS (lw_in 2 hi hL (by decide)) dL_law_737 ?_
  refine law_i (Wd := W_M) (V := (W_X q k S2)) SM_ok sameM ⟨hx, hb, hml, hown, hts⟩ (c_X12_like l D q2 k (xs (nI (i + 1)).toNatClampNeg) (xs (nI (i + 2)).toNatClampNeg) T H.size (r, T2) e2) (cwV 2 hts gL_law_X12_like rfl rfl rfl (by decide +kernel) ⟨Nat.le_of_ble_eq_true rfl, Nat.le_of_ble_eq_true rfl⟩) hK hV hP (hDM S2 T) hS hA trivial (va_recv hK hV (ci := 12) (q0 := 0) rfl rfl) (As := [.int (xs (nI (i + 1)).toNatClampNeg), .int (xs (nI (i + 2)).toNatClampNeg)]) rfl hl.1 rfl (Nat.le_of_ble_eq_true rfl) dL_law_738 ⟨Nat.le_of_ble_eq_true rfl, Nat.le_of_ble_eq_true rfl⟩ (fun H locs hV hP hS => ?_)
  exact lv_icmp_eq (tgt := 1589) hx hb dL_law_741 (by decide) (fun _ => kk S2 T2 H locs hR hP hV hS) (fun h9 => absurd rfl h9)
set_option maxHeartbeats 4000000 in
set_option maxRecDepth 100000 in
theorem law_case_16 (C0 : LC p s m c b L xs D q q2 k) (hi : i + 6 ≤ L) (h : RR RxC S T) (hP : va_P D vwCl (W_X q k S) H) (hV : va_P D vwCl (W_M q2 k T) H) (hS : va_S (AL s) s.heap H locs) (hl : lv_has ls 4 [(3, .int (nI i)), (2, .ref (q2 0)), (1, .ref (q 0)), (0, .ref b)]) (kk : ∀ (S2 T2 : St) (H : Heap) (locs : List Loc), RR RxC S2 T2 → va_P D vwCl (W_X q k S2) H → va_P D vwCl (W_M q2 k T2) H → va_S (AL s) s.heap H locs → W p l e room_1 s m #[Value.ref b] below meth c H locs 95 26919 Q (F0 m 1589 ls [])) : W p l e room_1 s m #[Value.ref b] below meth c H locs 95 26919 Q (F0 m 746 ls []) := by
  obtain ⟨hx, hb, hml, hown, hts, hX, hbl, hK, hDX, hDM, hsp, hL⟩ := C0
  have hA : ∀ a, s.heap.size ≤ a → AL s a := fun _ h => h
  have hbA : ¬ AL s b := Nat.not_le.mpr hbl
  obtain ⟨r, S2, T2, e1, e2, hR⟩ := op_standIn (xs (nI (i + 1)).toNatClampNeg) (xs (nI (i + 2)).toNatClampNeg) (xs (nI (i + 3)).toNatClampNeg) (xs (nI (i + 4)).toNatClampNeg) h
  refine lv_aload_n hx hb dL_law_746 rfl (lv_at hl 2 rfl) ?_
  refine lv_aload_n hx hb dL_law_747 rfl (lv_at hl 3 rfl) ?_
  refine lv_iload_n hx hb dL_law_748 rfl (lv_at hl 0 rfl) ?_
  refine lv_iconst (v := (1 : Int32)) hx hb dL_law_749 (by decide) ?_
  refine lv_iadd hx hb dL_law_750 ?_
  refine tx_i (x := nI (i + 1)) (lw_p 1 rfl) ?_
  refine va_sld hx hb hX hbl hbA hS (lw_in 1 hi hL (by decide)) dL_law_751 ?_
  refine lv_aload_n hx hb dL_law_752 rfl (lv_at hl 3 rfl) ?_
  refine lv_iload_n hx hb dL_law_753 rfl (lv_at hl 0 rfl) ?_
  refine lv_iconst (v := (2 : Int32)) hx hb dL_law_754 (by decide) ?_
  refine lv_iadd hx hb dL_law_755 ?_
  refine tx_i (x := nI (i + 2)) (lw_p 2 rfl) ?_
  refine va_sld hx hb hX hbl hbA hS (lw_in 2 hi hL (by decide)) dL_law_756 ?_
  refine lv_aload_n hx hb dL_law_757 rfl (lv_at hl 3 rfl) ?_
  refine lv_iload_n hx hb dL_law_758 rfl (lv_at hl 0 rfl) ?_
  refine lv_iconst (v := (3 : Int32)) hx hb dL_law_759 (by decide) ?_
  refine lv_iadd hx hb dL_law_760 ?_
  refine tx_i (x := nI (i + 3)) (lw_p 3 rfl) ?_
  refine va_sld hx hb hX hbl hbA hS (lw_in 3 hi hL (by decide)) dL_law_761 ?_
  refine lv_aload_n hx hb dL_law_762 rfl (lv_at hl 3 rfl) ?_
  refine lv_iload_n hx hb dL_law_763 rfl (lv_at hl 0 rfl) ?_
  refine lv_iconst (v := (4 : Int32)) hx hb dL_law_764 (by decide) ?_
  refine lv_iadd hx hb dL_law_765 ?_
  refine tx_i (x := nI (i + 4)) (lw_p 4 rfl) ?_
  refine va_sld hx hb hX hbl hbA hS (lw_in 4 hi hL (by decide)) dL_law_766 ?_
  refine law_i (Wd := W_X) (V := (W_M q2 k T)) SX_ok sameX ⟨hx, hb, hml, hown, hts⟩ (c_X11_standIn l D q k (xs (nI (i + 1)).toNatClampNeg) (xs (nI (i + 2)).toNatClampNeg) (xs (nI (i + 3)).toNatClampNeg) (xs (nI (i + 4)).toNatClampNeg) S H.size (r, S2) e1) (cwV 4 hts gL_law_X11_standIn rfl rfl rfl (by decide +kernel) ⟨Nat.le_of_ble_eq_true rfl, Nat.le_of_ble_eq_true rfl⟩) hK hP hV (hDX S T) hS hA hsp (va_recv hK hP (ci := 11) (q0 := 0) rfl rfl) (As := [.int (xs (nI (i + 1)).toNatClampNeg), .int (xs (nI (i + 2)).toNatClampNeg), .int (xs (nI (i + 3)).toNatClampNeg), .int (xs (nI (i + 4)).toNatClampNeg)]) rfl hl.1 rfl (Nat.le_of_ble_eq_true rfl) dL_law_767 ⟨Nat.le_of_ble_eq_true rfl, Nat.le_of_ble_eq_true rfl⟩ (fun H locs hP hV hS => ?_)
  refine lv_aload_n hx hb dL_law_770 rfl (lv_at hl 1 rfl) ?_
  refine lv_aload_n hx hb dL_law_771 rfl (lv_at hl 3 rfl) ?_
  refine lv_iload_n hx hb dL_law_772 rfl (lv_at hl 0 rfl) ?_
  refine lv_iconst (v := (1 : Int32)) hx hb dL_law_773 (by decide) ?_
  refine lv_iadd hx hb dL_law_774 ?_
  refine tx_i (x := nI (i + 1)) (lw_p 1 rfl) ?_
  refine va_sld hx hb hX hbl hbA hS (lw_in 1 hi hL (by decide)) dL_law_775 ?_
  refine lv_aload_n hx hb dL_law_776 rfl (lv_at hl 3 rfl) ?_
  refine lv_iload_n hx hb dL_law_777 rfl (lv_at hl 0 rfl) ?_
  refine lv_iconst (v := (2 : Int32)) hx hb dL_law_778 (by decide) ?_
  refine lv_iadd hx hb dL_law_779 ?_
  refine tx_i (x := nI (i + 2)) (lw_p 2 rfl) ?_
  refine va_sld hx hb hX hbl hbA hS (lw_in 2 hi hL (by decide)) dL_law_780 ?_
  refine lv_aload_n hx hb dL_law_781 rfl (lv_at hl 3 rfl) ?_
  refine lv_iload_n hx hb dL_law_782 rfl (lv_at hl 0 rfl) ?_
  refine lv_iconst (v := (3 : Int32)) hx hb dL_law_783 (by decide) ?_
  refine lv_iadd hx hb dL_law_784 ?_
  refine tx_i (x := nI (i + 3)) (lw_p 3 rfl) ?_
  refine va_sld hx hb hX hbl hbA hS (lw_in 3 hi hL (by decide)) dL_law_785 ?_
  refine lv_aload_n hx hb dL_law_786 rfl (lv_at hl 3 rfl) ?_
  refine lv_iload_n hx hb dL_law_787 rfl (lv_at hl 0 rfl) ?_
  refine lv_iconst (v := (4 : Int32)) hx hb dL_law_788 (by decide) ?_
  refine lv_iadd hx hb dL_law_789 ?_
  refine tx_i (x := nI (i + 4)) (lw_p 4 rfl) ?_
  refine va_sld hx hb hX hbl hbA hS (lw_in 4 hi hL (by decide)) dL_law_790 ?_
  refine law_i (Wd := W_M) (V := (W_X q k S2)) SM_ok sameM ⟨hx, hb, hml, hown, hts⟩ (c_X12_standIn l D q2 k (xs (nI (i + 1)).toNatClampNeg) (xs (nI (i + 2)).toNatClampNeg) (xs (nI (i + 3)).toNatClampNeg) (xs (nI (i + 4)).toNatClampNeg) T H.size (r, T2) e2) (cwV 4 hts gL_law_X12_standIn rfl rfl rfl (by decide +kernel) ⟨Nat.le_of_ble_eq_true rfl, Nat.le_of_ble_eq_true rfl⟩) hK hV hP (hDM S2 T) hS hA trivial (va_recv hK hV (ci := 12) (q0 := 0) rfl rfl) (As := [.int (xs (nI (i + 1)).toNatClampNeg), .int (xs (nI (i + 2)).toNatClampNeg), .int (xs (nI (i + 3)).toNatClampNeg), .int (xs (nI (i + 4)).toNatClampNeg)]) rfl hl.1 rfl (Nat.le_of_ble_eq_true rfl) dL_law_791 ⟨Nat.le_of_ble_eq_true rfl, Nat.le_of_ble_eq_true rfl⟩ (fun H locs hV hP hS => ?_)
  exact lv_icmp_eq (tgt := 1589) hx hb dL_law_794 (by decide) (fun _ => kk S2 T2 H locs hR hP hV hS) (fun h9 => absurd rfl h9)
set_option maxHeartbeats 4000000 in
set_option maxRecDepth 100000 in
theorem law_case_17 (C0 : LC p s m c b L xs D q q2 k) (hi : i + 6 ≤ L) (h : RR RxC S T) (hP : va_P D vwCl (W_X q k S) H) (hV : va_P D vwCl (W_M q2 k T) H) (hS : va_S (AL s) s.heap H locs) (hl : lv_has ls 4 [(3, .int (nI i)), (2, .ref (q2 0)), (1, .ref (q 0)), (0, .ref b)]) (kk : ∀ (S2 T2 : St) (H : Heap) (locs : List Loc), RR RxC S2 T2 → va_P D vwCl (W_X q k S2) H → va_P D vwCl (W_M q2 k T2) H → va_S (AL s) s.heap H locs → W p l e room_1 s m #[Value.ref b] below meth c H locs 95 26919 Q (F0 m 1589 ls [])) : W p l e room_1 s m #[Value.ref b] below meth c H locs 95 26919 Q (F0 m 799 ls []) := by
  obtain ⟨hx, hb, hml, hown, hts, hX, hbl, hK, hDX, hDM, hsp, hL⟩ := C0
  have hA : ∀ a, s.heap.size ≤ a → AL s a := fun _ h => h
  have hbA : ¬ AL s b := Nat.not_le.mpr hbl
  obtain ⟨r, S2, T2, e1, e2, hR⟩ := op_change (xs (nI (i + 1)).toNatClampNeg) (xs (nI (i + 2)).toNatClampNeg) (xs (nI (i + 3)).toNatClampNeg) h
  refine lv_aload_n hx hb dL_law_799 rfl (lv_at hl 2 rfl) ?_
  refine lv_aload_n hx hb dL_law_800 rfl (lv_at hl 3 rfl) ?_
  refine lv_iload_n hx hb dL_law_801 rfl (lv_at hl 0 rfl) ?_
  refine lv_iconst (v := (1 : Int32)) hx hb dL_law_802 (by decide) ?_
  refine lv_iadd hx hb dL_law_803 ?_
  refine tx_i (x := nI (i + 1)) (lw_p 1 rfl) ?_
  refine va_sld hx hb hX hbl hbA hS (lw_in 1 hi hL (by decide)) dL_law_804 ?_
  refine lv_aload_n hx hb dL_law_805 rfl (lv_at hl 3 rfl) ?_
  refine lv_iload_n hx hb dL_law_806 rfl (lv_at hl 0 rfl) ?_
  refine lv_iconst (v := (2 : Int32)) hx hb dL_law_807 (by decide) ?_
  refine lv_iadd hx hb dL_law_808 ?_
  refine tx_i (x := nI (i + 2)) (lw_p 2 rfl) ?_
  refine va_sld hx hb hX hbl hbA hS (lw_in 2 hi hL (by decide)) dL_law_809 ?_
  refine lv_aload_n hx hb dL_law_810 rfl (lv_at hl 3 rfl) ?_
  refine lv_iload_n hx hb dL_law_811 rfl (lv_at hl 0 rfl) ?_
  refine lv_iconst (v := (3 : Int32)) hx hb dL_law_812 (by decide) ?_
  refine lv_iadd hx hb dL_law_813 ?_
  refine tx_i (x := nI (i + 3)) (lw_p 3 rfl) ?_
  refine va_sld hx hb hX hbl hbA hS (lw_in 3 hi hL (by decide)) dL_law_814 ?_
  refine law_i (Wd := W_X) (V := (W_M q2 k T)) SX_ok sameX ⟨hx, hb, hml, hown, hts⟩ (c_X11_change l D q k (xs (nI (i + 1)).toNatClampNeg) (xs (nI (i + 2)).toNatClampNeg) (xs (nI (i + 3)).toNatClampNeg) S H.size (r, S2) e1) (cwV 3 hts gL_law_X11_change rfl rfl rfl (by decide +kernel) ⟨Nat.le_of_ble_eq_true rfl, Nat.le_of_ble_eq_true rfl⟩) hK hP hV (hDX S T) hS hA hsp (va_recv hK hP (ci := 11) (q0 := 0) rfl rfl) (As := [.int (xs (nI (i + 1)).toNatClampNeg), .int (xs (nI (i + 2)).toNatClampNeg), .int (xs (nI (i + 3)).toNatClampNeg)]) rfl hl.1 rfl (Nat.le_of_ble_eq_true rfl) dL_law_815 ⟨Nat.le_of_ble_eq_true rfl, Nat.le_of_ble_eq_true rfl⟩ (fun H locs hP hV hS => ?_)
  refine lv_aload_n hx hb dL_law_818 rfl (lv_at hl 1 rfl) ?_
  refine lv_aload_n hx hb dL_law_819 rfl (lv_at hl 3 rfl) ?_
  refine lv_iload_n hx hb dL_law_820 rfl (lv_at hl 0 rfl) ?_
  refine lv_iconst (v := (1 : Int32)) hx hb dL_law_821 (by decide) ?_
  refine lv_iadd hx hb dL_law_822 ?_
  refine tx_i (x := nI (i + 1)) (lw_p 1 rfl) ?_
  refine va_sld hx hb hX hbl hbA hS (lw_in 1 hi hL (by decide)) dL_law_823 ?_
  refine lv_aload_n hx hb dL_law_824 rfl (lv_at hl 3 rfl) ?_
  refine lv_iload_n hx hb dL_law_825 rfl (lv_at hl 0 rfl) ?_
  refine lv_iconst (v := (2 : Int32)) hx hb dL_law_826 (by decide) ?_
  refine lv_iadd hx hb dL_law_827 ?_
  refine tx_i (x := nI (i + 2)) (lw_p 2 rfl) ?_
  refine va_sld hx hb hX hbl hbA hS (lw_in 2 hi hL (by decide)) dL_law_828 ?_
  refine lv_aload_n hx hb dL_law_829 rfl (lv_at hl 3 rfl) ?_
  refine lv_iload_n hx hb dL_law_830 rfl (lv_at hl 0 rfl) ?_
  refine lv_iconst (v := (3 : Int32)) hx hb dL_law_831 (by decide) ?_
  refine lv_iadd hx hb dL_law_832 ?_
  refine tx_i (x := nI (i + 3)) (lw_p 3 rfl) ?_
  refine va_sld hx hb hX hbl hbA hS (lw_in 3 hi hL (by decide)) dL_law_833 ?_
  refine law_i (Wd := W_M) (V := (W_X q k S2)) SM_ok sameM ⟨hx, hb, hml, hown, hts⟩ (c_X12_change l D q2 k (xs (nI (i + 1)).toNatClampNeg) (xs (nI (i + 2)).toNatClampNeg) (xs (nI (i + 3)).toNatClampNeg) T H.size (r, T2) e2) (cwV 3 hts gL_law_X12_change rfl rfl rfl (by decide +kernel) ⟨Nat.le_of_ble_eq_true rfl, Nat.le_of_ble_eq_true rfl⟩) hK hV hP (hDM S2 T) hS hA trivial (va_recv hK hV (ci := 12) (q0 := 0) rfl rfl) (As := [.int (xs (nI (i + 1)).toNatClampNeg), .int (xs (nI (i + 2)).toNatClampNeg), .int (xs (nI (i + 3)).toNatClampNeg)]) rfl hl.1 rfl (Nat.le_of_ble_eq_true rfl) dL_law_834 ⟨Nat.le_of_ble_eq_true rfl, Nat.le_of_ble_eq_true rfl⟩ (fun H locs hV hP hS => ?_)
  exact lv_icmp_eq (tgt := 1589) hx hb dL_law_837 (by decide) (fun _ => kk S2 T2 H locs hR hP hV hS) (fun h9 => absurd rfl h9)
set_option maxHeartbeats 4000000 in
set_option maxRecDepth 100000 in
theorem law_case_18 (C0 : LC p s m c b L xs D q q2 k) (hi : i + 6 ≤ L) (h : RR RxC S T) (hP : va_P D vwCl (W_X q k S) H) (hV : va_P D vwCl (W_M q2 k T) H) (hS : va_S (AL s) s.heap H locs) (hl : lv_has ls 4 [(3, .int (nI i)), (2, .ref (q2 0)), (1, .ref (q 0)), (0, .ref b)]) (kk : ∀ (S2 T2 : St) (H : Heap) (locs : List Loc), RR RxC S2 T2 → va_P D vwCl (W_X q k S2) H → va_P D vwCl (W_M q2 k T2) H → va_S (AL s) s.heap H locs → W p l e room_1 s m #[Value.ref b] below meth c H locs 95 26919 Q (F0 m 1589 ls [])) : W p l e room_1 s m #[Value.ref b] below meth c H locs 95 26919 Q (F0 m 842 ls []) := by
  obtain ⟨hx, hb, hml, hown, hts, hX, hbl, hK, hDX, hDM, hsp, hL⟩ := C0
  have hA : ∀ a, s.heap.size ≤ a → AL s a := fun _ h => h
  have hbA : ¬ AL s b := Nat.not_le.mpr hbl
  obtain ⟨r, S2, T2, e1, e2, hR⟩ := op_way (xs (nI (i + 1)).toNatClampNeg) (xs (nI (i + 2)).toNatClampNeg) (xs (nI (i + 3)).toNatClampNeg) (xs (nI (i + 4)).toNatClampNeg) h
  refine lv_aload_n hx hb dL_law_842 rfl (lv_at hl 2 rfl) ?_
  refine lv_aload_n hx hb dL_law_843 rfl (lv_at hl 3 rfl) ?_
  refine lv_iload_n hx hb dL_law_844 rfl (lv_at hl 0 rfl) ?_
  refine lv_iconst (v := (1 : Int32)) hx hb dL_law_845 (by decide) ?_
  refine lv_iadd hx hb dL_law_846 ?_
  refine tx_i (x := nI (i + 1)) (lw_p 1 rfl) ?_
  refine va_sld hx hb hX hbl hbA hS (lw_in 1 hi hL (by decide)) dL_law_847 ?_
  refine lv_aload_n hx hb dL_law_848 rfl (lv_at hl 3 rfl) ?_
  refine lv_iload_n hx hb dL_law_849 rfl (lv_at hl 0 rfl) ?_
  refine lv_iconst (v := (2 : Int32)) hx hb dL_law_850 (by decide) ?_
  refine lv_iadd hx hb dL_law_851 ?_
  refine tx_i (x := nI (i + 2)) (lw_p 2 rfl) ?_
  refine va_sld hx hb hX hbl hbA hS (lw_in 2 hi hL (by decide)) dL_law_852 ?_
  refine lv_aload_n hx hb dL_law_853 rfl (lv_at hl 3 rfl) ?_
  refine lv_iload_n hx hb dL_law_854 rfl (lv_at hl 0 rfl) ?_
  refine lv_iconst (v := (3 : Int32)) hx hb dL_law_855 (by decide) ?_
  refine lv_iadd hx hb dL_law_856 ?_
  refine tx_i (x := nI (i + 3)) (lw_p 3 rfl) ?_
  refine va_sld hx hb hX hbl hbA hS (lw_in 3 hi hL (by decide)) dL_law_857 ?_
  refine lv_aload_n hx hb dL_law_858 rfl (lv_at hl 3 rfl) ?_
  refine lv_iload_n hx hb dL_law_859 rfl (lv_at hl 0 rfl) ?_
  refine lv_iconst (v := (4 : Int32)) hx hb dL_law_860 (by decide) ?_
  refine lv_iadd hx hb dL_law_861 ?_
  refine tx_i (x := nI (i + 4)) (lw_p 4 rfl) ?_
  refine va_sld hx hb hX hbl hbA hS (lw_in 4 hi hL (by decide)) dL_law_862 ?_
  refine law_i (Wd := W_X) (V := (W_M q2 k T)) SX_ok sameX ⟨hx, hb, hml, hown, hts⟩ (c_X11_way l D q k (xs (nI (i + 1)).toNatClampNeg) (xs (nI (i + 2)).toNatClampNeg) (xs (nI (i + 3)).toNatClampNeg) (xs (nI (i + 4)).toNatClampNeg) S H.size (r, S2) e1) (cwV 4 hts gL_law_X11_way rfl rfl rfl (by decide +kernel) ⟨Nat.le_of_ble_eq_true rfl, Nat.le_of_ble_eq_true rfl⟩) hK hP hV (hDX S T) hS hA hsp (va_recv hK hP (ci := 11) (q0 := 0) rfl rfl) (As := [.int (xs (nI (i + 1)).toNatClampNeg), .int (xs (nI (i + 2)).toNatClampNeg), .int (xs (nI (i + 3)).toNatClampNeg), .int (xs (nI (i + 4)).toNatClampNeg)]) rfl hl.1 rfl (Nat.le_of_ble_eq_true rfl) dL_law_863 ⟨Nat.le_of_ble_eq_true rfl, Nat.le_of_ble_eq_true rfl⟩ (fun H locs hP hV hS => ?_)
  refine lv_aload_n hx hb dL_law_866 rfl (lv_at hl 1 rfl) ?_
  refine lv_aload_n hx hb dL_law_867 rfl (lv_at hl 3 rfl) ?_
  refine lv_iload_n hx hb dL_law_868 rfl (lv_at hl 0 rfl) ?_
  refine lv_iconst (v := (1 : Int32)) hx hb dL_law_869 (by decide) ?_
  refine lv_iadd hx hb dL_law_870 ?_
  refine tx_i (x := nI (i + 1)) (lw_p 1 rfl) ?_
  refine va_sld hx hb hX hbl hbA hS (lw_in 1 hi hL (by decide)) dL_law_871 ?_
  refine lv_aload_n hx hb dL_law_872 rfl (lv_at hl 3 rfl) ?_
  refine lv_iload_n hx hb dL_law_873 rfl (lv_at hl 0 rfl) ?_
  refine lv_iconst (v := (2 : Int32)) hx hb dL_law_874 (by decide) ?_
  refine lv_iadd hx hb dL_law_875 ?_
  refine tx_i (x := nI (i + 2)) (lw_p 2 rfl) ?_
  refine va_sld hx hb hX hbl hbA hS (lw_in 2 hi hL (by decide)) dL_law_876 ?_
  refine lv_aload_n hx hb dL_law_877 rfl (lv_at hl 3 rfl) ?_
  refine lv_iload_n hx hb dL_law_878 rfl (lv_at hl 0 rfl) ?_
  refine lv_iconst (v := (3 : Int32)) hx hb dL_law_879 (by decide) ?_
  refine lv_iadd hx hb dL_law_880 ?_
  refine tx_i (x := nI (i + 3)) (lw_p 3 rfl) ?_
  refine va_sld hx hb hX hbl hbA hS (lw_in 3 hi hL (by decide)) dL_law_881 ?_
  refine lv_aload_n hx hb dL_law_882 rfl (lv_at hl 3 rfl) ?_
  refine lv_iload_n hx hb dL_law_883 rfl (lv_at hl 0 rfl) ?_
  refine lv_iconst (v := (4 : Int32)) hx hb dL_law_884 (by decide) ?_
  refine lv_iadd hx hb dL_law_885 ?_
  refine tx_i (x := nI (i + 4)) (lw_p 4 rfl) ?_
  refine va_sld hx hb hX hbl hbA hS (lw_in 4 hi hL (by decide)) dL_law_886 ?_
  refine law_i (Wd := W_M) (V := (W_X q k S2)) SM_ok sameM ⟨hx, hb, hml, hown, hts⟩ (c_X12_way l D q2 k (xs (nI (i + 1)).toNatClampNeg) (xs (nI (i + 2)).toNatClampNeg) (xs (nI (i + 3)).toNatClampNeg) (xs (nI (i + 4)).toNatClampNeg) T H.size (r, T2) e2) (cwV 4 hts gL_law_X12_way rfl rfl rfl (by decide +kernel) ⟨Nat.le_of_ble_eq_true rfl, Nat.le_of_ble_eq_true rfl⟩) hK hV hP (hDM S2 T) hS hA trivial (va_recv hK hV (ci := 12) (q0 := 0) rfl rfl) (As := [.int (xs (nI (i + 1)).toNatClampNeg), .int (xs (nI (i + 2)).toNatClampNeg), .int (xs (nI (i + 3)).toNatClampNeg), .int (xs (nI (i + 4)).toNatClampNeg)]) rfl hl.1 rfl (Nat.le_of_ble_eq_true rfl) dL_law_887 ⟨Nat.le_of_ble_eq_true rfl, Nat.le_of_ble_eq_true rfl⟩ (fun H locs hV hP hS => ?_)
  exact lv_icmp_eq (tgt := 1589) hx hb dL_law_890 (by decide) (fun _ => kk S2 T2 H locs hR hP hV hS) (fun h9 => absurd rfl h9)
set_option maxHeartbeats 4000000 in
set_option maxRecDepth 100000 in
theorem law_case_19 (C0 : LC p s m c b L xs D q q2 k) (hi : i + 6 ≤ L) (h : RR RxC S T) (hP : va_P D vwCl (W_X q k S) H) (hV : va_P D vwCl (W_M q2 k T) H) (hS : va_S (AL s) s.heap H locs) (hl : lv_has ls 4 [(3, .int (nI i)), (2, .ref (q2 0)), (1, .ref (q 0)), (0, .ref b)]) (kk : ∀ (S2 T2 : St) (H : Heap) (locs : List Loc), RR RxC S2 T2 → va_P D vwCl (W_X q k S2) H → va_P D vwCl (W_M q2 k T2) H → va_S (AL s) s.heap H locs → W p l e room_1 s m #[Value.ref b] below meth c H locs 95 26919 Q (F0 m 1589 ls [])) : W p l e room_1 s m #[Value.ref b] below meth c H locs 95 26919 Q (F0 m 895 ls []) := by
  obtain ⟨hx, hb, hml, hown, hts, hX, hbl, hK, hDX, hDM, hsp, hL⟩ := C0
  have hA : ∀ a, s.heap.size ≤ a → AL s a := fun _ h => h
  have hbA : ¬ AL s b := Nat.not_le.mpr hbl
  obtain ⟨r, S2, T2, e1, e2, hR⟩ := op_round (xs (nI (i + 1)).toNatClampNeg) (xs (nI (i + 2)).toNatClampNeg) (xs (nI (i + 3)).toNatClampNeg) (xs (nI (i + 4)).toNatClampNeg) h
  refine lv_aload_n hx hb dL_law_895 rfl (lv_at hl 2 rfl) ?_
  refine lv_aload_n hx hb dL_law_896 rfl (lv_at hl 3 rfl) ?_
  refine lv_iload_n hx hb dL_law_897 rfl (lv_at hl 0 rfl) ?_
  refine lv_iconst (v := (1 : Int32)) hx hb dL_law_898 (by decide) ?_
  refine lv_iadd hx hb dL_law_899 ?_
  refine tx_i (x := nI (i + 1)) (lw_p 1 rfl) ?_
  refine va_sld hx hb hX hbl hbA hS (lw_in 1 hi hL (by decide)) dL_law_900 ?_
  refine lv_aload_n hx hb dL_law_901 rfl (lv_at hl 3 rfl) ?_
  refine lv_iload_n hx hb dL_law_902 rfl (lv_at hl 0 rfl) ?_
  refine lv_iconst (v := (2 : Int32)) hx hb dL_law_903 (by decide) ?_
  refine lv_iadd hx hb dL_law_904 ?_
  refine tx_i (x := nI (i + 2)) (lw_p 2 rfl) ?_
  refine va_sld hx hb hX hbl hbA hS (lw_in 2 hi hL (by decide)) dL_law_905 ?_
  refine lv_aload_n hx hb dL_law_906 rfl (lv_at hl 3 rfl) ?_
  refine lv_iload_n hx hb dL_law_907 rfl (lv_at hl 0 rfl) ?_
  refine lv_iconst (v := (3 : Int32)) hx hb dL_law_908 (by decide) ?_
  refine lv_iadd hx hb dL_law_909 ?_
  refine tx_i (x := nI (i + 3)) (lw_p 3 rfl) ?_
  refine va_sld hx hb hX hbl hbA hS (lw_in 3 hi hL (by decide)) dL_law_910 ?_
  refine lv_aload_n hx hb dL_law_911 rfl (lv_at hl 3 rfl) ?_
  refine lv_iload_n hx hb dL_law_912 rfl (lv_at hl 0 rfl) ?_
  refine lv_iconst (v := (4 : Int32)) hx hb dL_law_913 (by decide) ?_
  refine lv_iadd hx hb dL_law_914 ?_
  refine tx_i (x := nI (i + 4)) (lw_p 4 rfl) ?_
  refine va_sld hx hb hX hbl hbA hS (lw_in 4 hi hL (by decide)) dL_law_915 ?_
  refine law_i (Wd := W_X) (V := (W_M q2 k T)) SX_ok sameX ⟨hx, hb, hml, hown, hts⟩ (c_X11_round l D q k (xs (nI (i + 1)).toNatClampNeg) (xs (nI (i + 2)).toNatClampNeg) (xs (nI (i + 3)).toNatClampNeg) (xs (nI (i + 4)).toNatClampNeg) S H.size (r, S2) e1) (cwV 4 hts gL_law_X11_round rfl rfl rfl (by decide +kernel) ⟨Nat.le_of_ble_eq_true rfl, Nat.le_of_ble_eq_true rfl⟩) hK hP hV (hDX S T) hS hA hsp (va_recv hK hP (ci := 11) (q0 := 0) rfl rfl) (As := [.int (xs (nI (i + 1)).toNatClampNeg), .int (xs (nI (i + 2)).toNatClampNeg), .int (xs (nI (i + 3)).toNatClampNeg), .int (xs (nI (i + 4)).toNatClampNeg)]) rfl hl.1 rfl (Nat.le_of_ble_eq_true rfl) dL_law_916 ⟨Nat.le_of_ble_eq_true rfl, Nat.le_of_ble_eq_true rfl⟩ (fun H locs hP hV hS => ?_)
  refine lv_aload_n hx hb dL_law_919 rfl (lv_at hl 1 rfl) ?_
  refine lv_aload_n hx hb dL_law_920 rfl (lv_at hl 3 rfl) ?_
  refine lv_iload_n hx hb dL_law_921 rfl (lv_at hl 0 rfl) ?_
  refine lv_iconst (v := (1 : Int32)) hx hb dL_law_922 (by decide) ?_
  refine lv_iadd hx hb dL_law_923 ?_
  refine tx_i (x := nI (i + 1)) (lw_p 1 rfl) ?_
  refine va_sld hx hb hX hbl hbA hS (lw_in 1 hi hL (by decide)) dL_law_924 ?_
  refine lv_aload_n hx hb dL_law_925 rfl (lv_at hl 3 rfl) ?_
  refine lv_iload_n hx hb dL_law_926 rfl (lv_at hl 0 rfl) ?_
  refine lv_iconst (v := (2 : Int32)) hx hb dL_law_927 (by decide) ?_
  refine lv_iadd hx hb dL_law_928 ?_
  refine tx_i (x := nI (i + 2)) (lw_p 2 rfl) ?_
  refine va_sld hx hb hX hbl hbA hS (lw_in 2 hi hL (by decide)) dL_law_929 ?_
  refine lv_aload_n hx hb dL_law_930 rfl (lv_at hl 3 rfl) ?_
  refine lv_iload_n hx hb dL_law_931 rfl (lv_at hl 0 rfl) ?_
  refine lv_iconst (v := (3 : Int32)) hx hb dL_law_932 (by decide) ?_
  refine lv_iadd hx hb dL_law_933 ?_
  refine tx_i (x := nI (i + 3)) (lw_p 3 rfl) ?_
  refine va_sld hx hb hX hbl hbA hS (lw_in 3 hi hL (by decide)) dL_law_934 ?_
  refine lv_aload_n hx hb dL_law_935 rfl (lv_at hl 3 rfl) ?_
  refine lv_iload_n hx hb dL_law_936 rfl (lv_at hl 0 rfl) ?_
  refine lv_iconst (v := (4 : Int32)) hx hb dL_law_937 (by decide) ?_
  refine lv_iadd hx hb dL_law_938 ?_
  refine tx_i (x := nI (i + 4)) (lw_p 4 rfl) ?_
  refine va_sld hx hb hX hbl hbA hS (lw_in 4 hi hL (by decide)) dL_law_939 ?_
  refine law_i (Wd := W_M) (V := (W_X q k S2)) SM_ok sameM ⟨hx, hb, hml, hown, hts⟩ (c_X12_round l D q2 k (xs (nI (i + 1)).toNatClampNeg) (xs (nI (i + 2)).toNatClampNeg) (xs (nI (i + 3)).toNatClampNeg) (xs (nI (i + 4)).toNatClampNeg) T H.size (r, T2) e2) (cwV 4 hts gL_law_X12_round rfl rfl rfl (by decide +kernel) ⟨Nat.le_of_ble_eq_true rfl, Nat.le_of_ble_eq_true rfl⟩) hK hV hP (hDM S2 T) hS hA trivial (va_recv hK hV (ci := 12) (q0 := 0) rfl rfl) (As := [.int (xs (nI (i + 1)).toNatClampNeg), .int (xs (nI (i + 2)).toNatClampNeg), .int (xs (nI (i + 3)).toNatClampNeg), .int (xs (nI (i + 4)).toNatClampNeg)]) rfl hl.1 rfl (Nat.le_of_ble_eq_true rfl) dL_law_940 ⟨Nat.le_of_ble_eq_true rfl, Nat.le_of_ble_eq_true rfl⟩ (fun H locs hV hP hS => ?_)
  exact lv_icmp_eq (tgt := 1589) hx hb dL_law_943 (by decide) (fun _ => kk S2 T2 H locs hR hP hV hS) (fun h9 => absurd rfl h9)
set_option maxHeartbeats 4000000 in
set_option maxRecDepth 100000 in
theorem law_case_20 (C0 : LC p s m c b L xs D q q2 k) (hi : i + 6 ≤ L) (h : RR RxC S T) (hP : va_P D vwCl (W_X q k S) H) (hV : va_P D vwCl (W_M q2 k T) H) (hS : va_S (AL s) s.heap H locs) (hl : lv_has ls 4 [(3, .int (nI i)), (2, .ref (q2 0)), (1, .ref (q 0)), (0, .ref b)]) (kk : ∀ (S2 T2 : St) (H : Heap) (locs : List Loc), RR RxC S2 T2 → va_P D vwCl (W_X q k S2) H → va_P D vwCl (W_M q2 k T2) H → va_S (AL s) s.heap H locs → W p l e room_1 s m #[Value.ref b] below meth c H locs 95 26919 Q (F0 m 1589 ls [])) : W p l e room_1 s m #[Value.ref b] below meth c H locs 95 26919 Q (F0 m 948 ls []) := by
  obtain ⟨hx, hb, hml, hown, hts, hX, hbl, hK, hDX, hDM, hsp, hL⟩ := C0
  have hA : ∀ a, s.heap.size ≤ a → AL s a := fun _ h => h
  have hbA : ¬ AL s b := Nat.not_le.mpr hbl
  obtain ⟨r, S2, T2, e1, e2, hR⟩ := op_waits (xs (nI (i + 1)).toNatClampNeg) (xs (nI (i + 2)).toNatClampNeg) (xs (nI (i + 3)).toNatClampNeg) (xs (nI (i + 4)).toNatClampNeg) h
  refine lv_aload_n hx hb dL_law_948 rfl (lv_at hl 2 rfl) ?_
  refine lv_aload_n hx hb dL_law_949 rfl (lv_at hl 3 rfl) ?_
  refine lv_iload_n hx hb dL_law_950 rfl (lv_at hl 0 rfl) ?_
  refine lv_iconst (v := (1 : Int32)) hx hb dL_law_951 (by decide) ?_
  refine lv_iadd hx hb dL_law_952 ?_
  refine tx_i (x := nI (i + 1)) (lw_p 1 rfl) ?_
  refine va_sld hx hb hX hbl hbA hS (lw_in 1 hi hL (by decide)) dL_law_953 ?_
  refine lv_aload_n hx hb dL_law_954 rfl (lv_at hl 3 rfl) ?_
  refine lv_iload_n hx hb dL_law_955 rfl (lv_at hl 0 rfl) ?_
  refine lv_iconst (v := (2 : Int32)) hx hb dL_law_956 (by decide) ?_
  refine lv_iadd hx hb dL_law_957 ?_
  refine tx_i (x := nI (i + 2)) (lw_p 2 rfl) ?_
  refine va_sld hx hb hX hbl hbA hS (lw_in 2 hi hL (by decide)) dL_law_958 ?_
  refine lv_aload_n hx hb dL_law_959 rfl (lv_at hl 3 rfl) ?_
  refine lv_iload_n hx hb dL_law_960 rfl (lv_at hl 0 rfl) ?_
  refine lv_iconst (v := (3 : Int32)) hx hb dL_law_961 (by decide) ?_
  refine lv_iadd hx hb dL_law_962 ?_
  refine tx_i (x := nI (i + 3)) (lw_p 3 rfl) ?_
  refine va_sld hx hb hX hbl hbA hS (lw_in 3 hi hL (by decide)) dL_law_963 ?_
  refine lv_aload_n hx hb dL_law_964 rfl (lv_at hl 3 rfl) ?_
  refine lv_iload_n hx hb dL_law_965 rfl (lv_at hl 0 rfl) ?_
  refine lv_iconst (v := (4 : Int32)) hx hb dL_law_966 (by decide) ?_
  refine lv_iadd hx hb dL_law_967 ?_
  refine tx_i (x := nI (i + 4)) (lw_p 4 rfl) ?_
  refine va_sld hx hb hX hbl hbA hS (lw_in 4 hi hL (by decide)) dL_law_968 ?_
  refine law_i (Wd := W_X) (V := (W_M q2 k T)) SX_ok sameX ⟨hx, hb, hml, hown, hts⟩ (c_X11_waits l D q k (xs (nI (i + 1)).toNatClampNeg) (xs (nI (i + 2)).toNatClampNeg) (xs (nI (i + 3)).toNatClampNeg) (xs (nI (i + 4)).toNatClampNeg) S H.size (r, S2) e1) (cwV 4 hts gL_law_X11_waits rfl rfl rfl (by decide +kernel) ⟨Nat.le_of_ble_eq_true rfl, Nat.le_of_ble_eq_true rfl⟩) hK hP hV (hDX S T) hS hA hsp (va_recv hK hP (ci := 11) (q0 := 0) rfl rfl) (As := [.int (xs (nI (i + 1)).toNatClampNeg), .int (xs (nI (i + 2)).toNatClampNeg), .int (xs (nI (i + 3)).toNatClampNeg), .int (xs (nI (i + 4)).toNatClampNeg)]) rfl hl.1 rfl (Nat.le_of_ble_eq_true rfl) dL_law_969 ⟨Nat.le_of_ble_eq_true rfl, Nat.le_of_ble_eq_true rfl⟩ (fun H locs hP hV hS => ?_)
  refine lv_aload_n hx hb dL_law_972 rfl (lv_at hl 1 rfl) ?_
  refine lv_aload_n hx hb dL_law_973 rfl (lv_at hl 3 rfl) ?_
  refine lv_iload_n hx hb dL_law_974 rfl (lv_at hl 0 rfl) ?_
  refine lv_iconst (v := (1 : Int32)) hx hb dL_law_975 (by decide) ?_
  refine lv_iadd hx hb dL_law_976 ?_
  refine tx_i (x := nI (i + 1)) (lw_p 1 rfl) ?_
  refine va_sld hx hb hX hbl hbA hS (lw_in 1 hi hL (by decide)) dL_law_977 ?_
  refine lv_aload_n hx hb dL_law_978 rfl (lv_at hl 3 rfl) ?_
  refine lv_iload_n hx hb dL_law_979 rfl (lv_at hl 0 rfl) ?_
  refine lv_iconst (v := (2 : Int32)) hx hb dL_law_980 (by decide) ?_
  refine lv_iadd hx hb dL_law_981 ?_
  refine tx_i (x := nI (i + 2)) (lw_p 2 rfl) ?_
  refine va_sld hx hb hX hbl hbA hS (lw_in 2 hi hL (by decide)) dL_law_982 ?_
  refine lv_aload_n hx hb dL_law_983 rfl (lv_at hl 3 rfl) ?_
  refine lv_iload_n hx hb dL_law_984 rfl (lv_at hl 0 rfl) ?_
  refine lv_iconst (v := (3 : Int32)) hx hb dL_law_985 (by decide) ?_
  refine lv_iadd hx hb dL_law_986 ?_
  refine tx_i (x := nI (i + 3)) (lw_p 3 rfl) ?_
  refine va_sld hx hb hX hbl hbA hS (lw_in 3 hi hL (by decide)) dL_law_987 ?_
  refine lv_aload_n hx hb dL_law_988 rfl (lv_at hl 3 rfl) ?_
  refine lv_iload_n hx hb dL_law_989 rfl (lv_at hl 0 rfl) ?_
  refine lv_iconst (v := (4 : Int32)) hx hb dL_law_990 (by decide) ?_
  refine lv_iadd hx hb dL_law_991 ?_
  refine tx_i (x := nI (i + 4)) (lw_p 4 rfl) ?_
  refine va_sld hx hb hX hbl hbA hS (lw_in 4 hi hL (by decide)) dL_law_992 ?_
  refine law_i (Wd := W_M) (V := (W_X q k S2)) SM_ok sameM ⟨hx, hb, hml, hown, hts⟩ (c_X12_waits l D q2 k (xs (nI (i + 1)).toNatClampNeg) (xs (nI (i + 2)).toNatClampNeg) (xs (nI (i + 3)).toNatClampNeg) (xs (nI (i + 4)).toNatClampNeg) T H.size (r, T2) e2) (cwV 4 hts gL_law_X12_waits rfl rfl rfl (by decide +kernel) ⟨Nat.le_of_ble_eq_true rfl, Nat.le_of_ble_eq_true rfl⟩) hK hV hP (hDM S2 T) hS hA trivial (va_recv hK hV (ci := 12) (q0 := 0) rfl rfl) (As := [.int (xs (nI (i + 1)).toNatClampNeg), .int (xs (nI (i + 2)).toNatClampNeg), .int (xs (nI (i + 3)).toNatClampNeg), .int (xs (nI (i + 4)).toNatClampNeg)]) rfl hl.1 rfl (Nat.le_of_ble_eq_true rfl) dL_law_993 ⟨Nat.le_of_ble_eq_true rfl, Nat.le_of_ble_eq_true rfl⟩ (fun H locs hV hP hS => ?_)
  exact lv_icmp_eq (tgt := 1589) hx hb dL_law_996 (by decide) (fun _ => kk S2 T2 H locs hR hP hV hS) (fun h9 => absurd rfl h9)
set_option maxHeartbeats 4000000 in
set_option maxRecDepth 100000 in
theorem law_case_21 (C0 : LC p s m c b L xs D q q2 k) (hi : i + 6 ≤ L) (h : RR RxC S T) (hP : va_P D vwCl (W_X q k S) H) (hV : va_P D vwCl (W_M q2 k T) H) (hS : va_S (AL s) s.heap H locs) (hl : lv_has ls 4 [(3, .int (nI i)), (2, .ref (q2 0)), (1, .ref (q 0)), (0, .ref b)]) (kk : ∀ (S2 T2 : St) (H : Heap) (locs : List Loc), RR RxC S2 T2 → va_P D vwCl (W_X q k S2) H → va_P D vwCl (W_M q2 k T2) H → va_S (AL s) s.heap H locs → W p l e room_1 s m #[Value.ref b] below meth c H locs 95 26919 Q (F0 m 1589 ls [])) : W p l e room_1 s m #[Value.ref b] below meth c H locs 95 26919 Q (F0 m 1001 ls []) := by
  obtain ⟨hx, hb, hml, hown, hts, hX, hbl, hK, hDX, hDM, hsp, hL⟩ := C0
  have hA : ∀ a, s.heap.size ≤ a → AL s a := fun _ h => h
  have hbA : ¬ AL s b := Nat.not_le.mpr hbl
  obtain ⟨r, S2, T2, e1, e2, hR⟩ := op_swap (xs (nI (i + 1)).toNatClampNeg) (xs (nI (i + 2)).toNatClampNeg) h
  refine lv_aload_n hx hb dL_law_1001 rfl (lv_at hl 2 rfl) ?_
  refine lv_aload_n hx hb dL_law_1002 rfl (lv_at hl 3 rfl) ?_
  refine lv_iload_n hx hb dL_law_1003 rfl (lv_at hl 0 rfl) ?_
  refine lv_iconst (v := (1 : Int32)) hx hb dL_law_1004 (by decide) ?_
  refine lv_iadd hx hb dL_law_1005 ?_
  refine tx_i (x := nI (i + 1)) (lw_p 1 rfl) ?_
  refine va_sld hx hb hX hbl hbA hS (lw_in 1 hi hL (by decide)) dL_law_1006 ?_
  refine lv_aload_n hx hb dL_law_1007 rfl (lv_at hl 3 rfl) ?_
  refine lv_iload_n hx hb dL_law_1008 rfl (lv_at hl 0 rfl) ?_
  refine lv_iconst (v := (2 : Int32)) hx hb dL_law_1009 (by decide) ?_
  refine lv_iadd hx hb dL_law_1010 ?_
  refine tx_i (x := nI (i + 2)) (lw_p 2 rfl) ?_
  refine va_sld hx hb hX hbl hbA hS (lw_in 2 hi hL (by decide)) dL_law_1011 ?_
  refine law_i (Wd := W_X) (V := (W_M q2 k T)) SX_ok sameX ⟨hx, hb, hml, hown, hts⟩ (c_X11_swap l D q k (xs (nI (i + 1)).toNatClampNeg) (xs (nI (i + 2)).toNatClampNeg) S H.size (r, S2) e1) (cwV 2 hts gL_law_X11_swap rfl rfl rfl (by decide +kernel) ⟨Nat.le_of_ble_eq_true rfl, Nat.le_of_ble_eq_true rfl⟩) hK hP hV (hDX S T) hS hA hsp (va_recv hK hP (ci := 11) (q0 := 0) rfl rfl) (As := [.int (xs (nI (i + 1)).toNatClampNeg), .int (xs (nI (i + 2)).toNatClampNeg)]) rfl hl.1 rfl (Nat.le_of_ble_eq_true rfl) dL_law_1012 ⟨Nat.le_of_ble_eq_true rfl, Nat.le_of_ble_eq_true rfl⟩ (fun H locs hP hV hS => ?_)
  refine lv_aload_n hx hb dL_law_1015 rfl (lv_at hl 1 rfl) ?_
  refine lv_aload_n hx hb dL_law_1016 rfl (lv_at hl 3 rfl) ?_
  refine lv_iload_n hx hb dL_law_1017 rfl (lv_at hl 0 rfl) ?_
  refine lv_iconst (v := (1 : Int32)) hx hb dL_law_1018 (by decide) ?_
  refine lv_iadd hx hb dL_law_1019 ?_
  refine tx_i (x := nI (i + 1)) (lw_p 1 rfl) ?_
  refine va_sld hx hb hX hbl hbA hS (lw_in 1 hi hL (by decide)) dL_law_1020 ?_
  refine lv_aload_n hx hb dL_law_1021 rfl (lv_at hl 3 rfl) ?_
  refine lv_iload_n hx hb dL_law_1022 rfl (lv_at hl 0 rfl) ?_
  refine lv_iconst (v := (2 : Int32)) hx hb dL_law_1023 (by decide) ?_
  refine lv_iadd hx hb dL_law_1024 ?_
  refine tx_i (x := nI (i + 2)) (lw_p 2 rfl) ?_
  refine va_sld hx hb hX hbl hbA hS (lw_in 2 hi hL (by decide)) dL_law_1025 ?_
  refine law_i (Wd := W_M) (V := (W_X q k S2)) SM_ok sameM ⟨hx, hb, hml, hown, hts⟩ (c_X12_swap l D q2 k (xs (nI (i + 1)).toNatClampNeg) (xs (nI (i + 2)).toNatClampNeg) T H.size (r, T2) e2) (cwV 2 hts gL_law_X12_swap rfl rfl rfl (by decide +kernel) ⟨Nat.le_of_ble_eq_true rfl, Nat.le_of_ble_eq_true rfl⟩) hK hV hP (hDM S2 T) hS hA trivial (va_recv hK hV (ci := 12) (q0 := 0) rfl rfl) (As := [.int (xs (nI (i + 1)).toNatClampNeg), .int (xs (nI (i + 2)).toNatClampNeg)]) rfl hl.1 rfl (Nat.le_of_ble_eq_true rfl) dL_law_1026 ⟨Nat.le_of_ble_eq_true rfl, Nat.le_of_ble_eq_true rfl⟩ (fun H locs hV hP hS => ?_)
  exact lv_icmp_eq (tgt := 1589) hx hb dL_law_1029 (by decide) (fun _ => kk S2 T2 H locs hR hP hV hS) (fun h9 => absurd rfl h9)
set_option maxHeartbeats 4000000 in
set_option maxRecDepth 100000 in
theorem law_case_22 (C0 : LC p s m c b L xs D q q2 k) (hi : i + 6 ≤ L) (h : RR RxC S T) (hP : va_P D vwCl (W_X q k S) H) (hV : va_P D vwCl (W_M q2 k T) H) (hS : va_S (AL s) s.heap H locs) (hl : lv_has ls 4 [(3, .int (nI i)), (2, .ref (q2 0)), (1, .ref (q 0)), (0, .ref b)]) (kk : ∀ (S2 T2 : St) (H : Heap) (locs : List Loc), RR RxC S2 T2 → va_P D vwCl (W_X q k S2) H → va_P D vwCl (W_M q2 k T2) H → va_S (AL s) s.heap H locs → W p l e room_1 s m #[Value.ref b] below meth c H locs 95 26919 Q (F0 m 1589 ls [])) : W p l e room_1 s m #[Value.ref b] below meth c H locs 95 26919 Q (F0 m 1034 ls []) := by
  obtain ⟨hx, hb, hml, hown, hts, hX, hbl, hK, hDX, hDM, hsp, hL⟩ := C0
  have hA : ∀ a, s.heap.size ≤ a → AL s a := fun _ h => h
  have hbA : ¬ AL s b := Nat.not_le.mpr hbl
  obtain ⟨r, S2, T2, e1, e2, hR⟩ := op_kept (xs (nI (i + 1)).toNatClampNeg) h
  refine lv_aload_n hx hb dL_law_1034 rfl (lv_at hl 2 rfl) ?_
  refine lv_aload_n hx hb dL_law_1035 rfl (lv_at hl 3 rfl) ?_
  refine lv_iload_n hx hb dL_law_1036 rfl (lv_at hl 0 rfl) ?_
  refine lv_iconst (v := (1 : Int32)) hx hb dL_law_1037 (by decide) ?_
  refine lv_iadd hx hb dL_law_1038 ?_
  refine tx_i (x := nI (i + 1)) (lw_p 1 rfl) ?_
  refine va_sld hx hb hX hbl hbA hS (lw_in 1 hi hL (by decide)) dL_law_1039 ?_
  refine law_i (Wd := W_X) (V := (W_M q2 k T)) SX_ok sameX ⟨hx, hb, hml, hown, hts⟩ (c_X11_kept l D q k (xs (nI (i + 1)).toNatClampNeg) S H.size (r, S2) e1) (cwV 1 hts gL_law_X11_kept rfl rfl rfl (by decide +kernel) ⟨Nat.le_of_ble_eq_true rfl, Nat.le_of_ble_eq_true rfl⟩) hK hP hV (hDX S T) hS hA hsp (va_recv hK hP (ci := 11) (q0 := 0) rfl rfl) (As := [.int (xs (nI (i + 1)).toNatClampNeg)]) rfl hl.1 rfl (Nat.le_of_ble_eq_true rfl) dL_law_1040 ⟨Nat.le_of_ble_eq_true rfl, Nat.le_of_ble_eq_true rfl⟩ (fun H locs hP hV hS => ?_)
  refine lv_aload_n hx hb dL_law_1043 rfl (lv_at hl 1 rfl) ?_
  refine lv_aload_n hx hb dL_law_1044 rfl (lv_at hl 3 rfl) ?_
  refine lv_iload_n hx hb dL_law_1045 rfl (lv_at hl 0 rfl) ?_
  refine lv_iconst (v := (1 : Int32)) hx hb dL_law_1046 (by decide) ?_
  refine lv_iadd hx hb dL_law_1047 ?_
  refine tx_i (x := nI (i + 1)) (lw_p 1 rfl) ?_
  refine va_sld hx hb hX hbl hbA hS (lw_in 1 hi hL (by decide)) dL_law_1048 ?_
  refine law_i (Wd := W_M) (V := (W_X q k S2)) SM_ok sameM ⟨hx, hb, hml, hown, hts⟩ (c_X12_kept l D q2 k (xs (nI (i + 1)).toNatClampNeg) T H.size (r, T2) e2) (cwV 1 hts gL_law_X12_kept rfl rfl rfl (by decide +kernel) ⟨Nat.le_of_ble_eq_true rfl, Nat.le_of_ble_eq_true rfl⟩) hK hV hP (hDM S2 T) hS hA trivial (va_recv hK hV (ci := 12) (q0 := 0) rfl rfl) (As := [.int (xs (nI (i + 1)).toNatClampNeg)]) rfl hl.1 rfl (Nat.le_of_ble_eq_true rfl) dL_law_1049 ⟨Nat.le_of_ble_eq_true rfl, Nat.le_of_ble_eq_true rfl⟩ (fun H locs hV hP hS => ?_)
  exact lv_icmp_eq (tgt := 1589) hx hb dL_law_1052 (by decide) (fun _ => kk S2 T2 H locs hR hP hV hS) (fun h9 => absurd rfl h9)
set_option maxHeartbeats 4000000 in
set_option maxRecDepth 100000 in
theorem law_case_23 (C0 : LC p s m c b L xs D q q2 k) (hi : i + 6 ≤ L) (h : RR RxC S T) (hP : va_P D vwCl (W_X q k S) H) (hV : va_P D vwCl (W_M q2 k T) H) (hS : va_S (AL s) s.heap H locs) (hl : lv_has ls 4 [(3, .int (nI i)), (2, .ref (q2 0)), (1, .ref (q 0)), (0, .ref b)]) (kk : ∀ (S2 T2 : St) (H : Heap) (locs : List Loc), RR RxC S2 T2 → va_P D vwCl (W_X q k S2) H → va_P D vwCl (W_M q2 k T2) H → va_S (AL s) s.heap H locs → W p l e room_1 s m #[Value.ref b] below meth c H locs 95 26919 Q (F0 m 1589 ls [])) : W p l e room_1 s m #[Value.ref b] below meth c H locs 95 26919 Q (F0 m 1057 ls []) := by
  obtain ⟨hx, hb, hml, hown, hts, hX, hbl, hK, hDX, hDM, hsp, hL⟩ := C0
  have hA : ∀ a, s.heap.size ≤ a → AL s a := fun _ h => h
  have hbA : ¬ AL s b := Nat.not_le.mpr hbl
  obtain ⟨r, S2, T2, e1, e2, hR⟩ := op_heap (xs (nI (i + 1)).toNatClampNeg) (xs (nI (i + 2)).toNatClampNeg) (xs (nI (i + 3)).toNatClampNeg) h
  refine lv_aload_n hx hb dL_law_1057 rfl (lv_at hl 2 rfl) ?_
  refine lv_aload_n hx hb dL_law_1058 rfl (lv_at hl 3 rfl) ?_
  refine lv_iload_n hx hb dL_law_1059 rfl (lv_at hl 0 rfl) ?_
  refine lv_iconst (v := (1 : Int32)) hx hb dL_law_1060 (by decide) ?_
  refine lv_iadd hx hb dL_law_1061 ?_
  refine tx_i (x := nI (i + 1)) (lw_p 1 rfl) ?_
  refine va_sld hx hb hX hbl hbA hS (lw_in 1 hi hL (by decide)) dL_law_1062 ?_
  refine lv_aload_n hx hb dL_law_1063 rfl (lv_at hl 3 rfl) ?_
  refine lv_iload_n hx hb dL_law_1064 rfl (lv_at hl 0 rfl) ?_
  refine lv_iconst (v := (2 : Int32)) hx hb dL_law_1065 (by decide) ?_
  refine lv_iadd hx hb dL_law_1066 ?_
  refine tx_i (x := nI (i + 2)) (lw_p 2 rfl) ?_
  refine va_sld hx hb hX hbl hbA hS (lw_in 2 hi hL (by decide)) dL_law_1067 ?_
  refine lv_aload_n hx hb dL_law_1068 rfl (lv_at hl 3 rfl) ?_
  refine lv_iload_n hx hb dL_law_1069 rfl (lv_at hl 0 rfl) ?_
  refine lv_iconst (v := (3 : Int32)) hx hb dL_law_1070 (by decide) ?_
  refine lv_iadd hx hb dL_law_1071 ?_
  refine tx_i (x := nI (i + 3)) (lw_p 3 rfl) ?_
  refine va_sld hx hb hX hbl hbA hS (lw_in 3 hi hL (by decide)) dL_law_1072 ?_
  refine law_i (Wd := W_X) (V := (W_M q2 k T)) SX_ok sameX ⟨hx, hb, hml, hown, hts⟩ (c_X11_heap l D q k (xs (nI (i + 1)).toNatClampNeg) (xs (nI (i + 2)).toNatClampNeg) (xs (nI (i + 3)).toNatClampNeg) S H.size (r, S2) e1) (cwV 3 hts gL_law_X11_heap rfl rfl rfl (by decide +kernel) ⟨Nat.le_of_ble_eq_true rfl, Nat.le_of_ble_eq_true rfl⟩) hK hP hV (hDX S T) hS hA hsp (va_recv hK hP (ci := 11) (q0 := 0) rfl rfl) (As := [.int (xs (nI (i + 1)).toNatClampNeg), .int (xs (nI (i + 2)).toNatClampNeg), .int (xs (nI (i + 3)).toNatClampNeg)]) rfl hl.1 rfl (Nat.le_of_ble_eq_true rfl) dL_law_1073 ⟨Nat.le_of_ble_eq_true rfl, Nat.le_of_ble_eq_true rfl⟩ (fun H locs hP hV hS => ?_)
  refine lv_aload_n hx hb dL_law_1076 rfl (lv_at hl 1 rfl) ?_
  refine lv_aload_n hx hb dL_law_1077 rfl (lv_at hl 3 rfl) ?_
  refine lv_iload_n hx hb dL_law_1078 rfl (lv_at hl 0 rfl) ?_
  refine lv_iconst (v := (1 : Int32)) hx hb dL_law_1079 (by decide) ?_
  refine lv_iadd hx hb dL_law_1080 ?_
  refine tx_i (x := nI (i + 1)) (lw_p 1 rfl) ?_
  refine va_sld hx hb hX hbl hbA hS (lw_in 1 hi hL (by decide)) dL_law_1081 ?_
  refine lv_aload_n hx hb dL_law_1082 rfl (lv_at hl 3 rfl) ?_
  refine lv_iload_n hx hb dL_law_1083 rfl (lv_at hl 0 rfl) ?_
  refine lv_iconst (v := (2 : Int32)) hx hb dL_law_1084 (by decide) ?_
  refine lv_iadd hx hb dL_law_1085 ?_
  refine tx_i (x := nI (i + 2)) (lw_p 2 rfl) ?_
  refine va_sld hx hb hX hbl hbA hS (lw_in 2 hi hL (by decide)) dL_law_1086 ?_
  refine lv_aload_n hx hb dL_law_1087 rfl (lv_at hl 3 rfl) ?_
  refine lv_iload_n hx hb dL_law_1088 rfl (lv_at hl 0 rfl) ?_
  refine lv_iconst (v := (3 : Int32)) hx hb dL_law_1089 (by decide) ?_
  refine lv_iadd hx hb dL_law_1090 ?_
  refine tx_i (x := nI (i + 3)) (lw_p 3 rfl) ?_
  refine va_sld hx hb hX hbl hbA hS (lw_in 3 hi hL (by decide)) dL_law_1091 ?_
  refine law_i (Wd := W_M) (V := (W_X q k S2)) SM_ok sameM ⟨hx, hb, hml, hown, hts⟩ (c_X12_heap l D q2 k (xs (nI (i + 1)).toNatClampNeg) (xs (nI (i + 2)).toNatClampNeg) (xs (nI (i + 3)).toNatClampNeg) T H.size (r, T2) e2) (cwV 3 hts gL_law_X12_heap rfl rfl rfl (by decide +kernel) ⟨Nat.le_of_ble_eq_true rfl, Nat.le_of_ble_eq_true rfl⟩) hK hV hP (hDM S2 T) hS hA trivial (va_recv hK hV (ci := 12) (q0 := 0) rfl rfl) (As := [.int (xs (nI (i + 1)).toNatClampNeg), .int (xs (nI (i + 2)).toNatClampNeg), .int (xs (nI (i + 3)).toNatClampNeg)]) rfl hl.1 rfl (Nat.le_of_ble_eq_true rfl) dL_law_1092 ⟨Nat.le_of_ble_eq_true rfl, Nat.le_of_ble_eq_true rfl⟩ (fun H locs hV hP hS => ?_)
  exact lv_icmp_eq (tgt := 1589) hx hb dL_law_1095 (by decide) (fun _ => kk S2 T2 H locs hR hP hV hS) (fun h9 => absurd rfl h9)
set_option maxHeartbeats 4000000 in
set_option maxRecDepth 100000 in
theorem law_case_24 (C0 : LC p s m c b L xs D q q2 k) (hi : i + 6 ≤ L) (h : RR RxC S T) (hP : va_P D vwCl (W_X q k S) H) (hV : va_P D vwCl (W_M q2 k T) H) (hS : va_S (AL s) s.heap H locs) (hl : lv_has ls 4 [(3, .int (nI i)), (2, .ref (q2 0)), (1, .ref (q 0)), (0, .ref b)]) (kk : ∀ (S2 T2 : St) (H : Heap) (locs : List Loc), RR RxC S2 T2 → va_P D vwCl (W_X q k S2) H → va_P D vwCl (W_M q2 k T2) H → va_S (AL s) s.heap H locs → W p l e room_1 s m #[Value.ref b] below meth c H locs 95 26919 Q (F0 m 1589 ls [])) : W p l e room_1 s m #[Value.ref b] below meth c H locs 95 26919 Q (F0 m 1100 ls []) := by
  obtain ⟨hx, hb, hml, hown, hts, hX, hbl, hK, hDX, hDM, hsp, hL⟩ := C0
  have hA : ∀ a, s.heap.size ≤ a → AL s a := fun _ h => h
  have hbA : ¬ AL s b := Nat.not_le.mpr hbl
  obtain ⟨r, S2, T2, e1, e2, hR⟩ := op_give (xs (nI (i + 1)).toNatClampNeg) h
  refine lv_aload_n hx hb dL_law_1100 rfl (lv_at hl 2 rfl) ?_
  refine lv_aload_n hx hb dL_law_1101 rfl (lv_at hl 3 rfl) ?_
  refine lv_iload_n hx hb dL_law_1102 rfl (lv_at hl 0 rfl) ?_
  refine lv_iconst (v := (1 : Int32)) hx hb dL_law_1103 (by decide) ?_
  refine lv_iadd hx hb dL_law_1104 ?_
  refine tx_i (x := nI (i + 1)) (lw_p 1 rfl) ?_
  refine va_sld hx hb hX hbl hbA hS (lw_in 1 hi hL (by decide)) dL_law_1105 ?_
  refine law_i (Wd := W_X) (V := (W_M q2 k T)) SX_ok sameX ⟨hx, hb, hml, hown, hts⟩ (c_X11_give l D q k (xs (nI (i + 1)).toNatClampNeg) S H.size (r, S2) e1) (cwV 1 hts gL_law_X11_give rfl rfl rfl (by decide +kernel) ⟨Nat.le_of_ble_eq_true rfl, Nat.le_of_ble_eq_true rfl⟩) hK hP hV (hDX S T) hS hA hsp (va_recv hK hP (ci := 11) (q0 := 0) rfl rfl) (As := [.int (xs (nI (i + 1)).toNatClampNeg)]) rfl hl.1 rfl (Nat.le_of_ble_eq_true rfl) dL_law_1106 ⟨Nat.le_of_ble_eq_true rfl, Nat.le_of_ble_eq_true rfl⟩ (fun H locs hP hV hS => ?_)
  refine lv_aload_n hx hb dL_law_1109 rfl (lv_at hl 1 rfl) ?_
  refine lv_aload_n hx hb dL_law_1110 rfl (lv_at hl 3 rfl) ?_
  refine lv_iload_n hx hb dL_law_1111 rfl (lv_at hl 0 rfl) ?_
  refine lv_iconst (v := (1 : Int32)) hx hb dL_law_1112 (by decide) ?_
  refine lv_iadd hx hb dL_law_1113 ?_
  refine tx_i (x := nI (i + 1)) (lw_p 1 rfl) ?_
  refine va_sld hx hb hX hbl hbA hS (lw_in 1 hi hL (by decide)) dL_law_1114 ?_
  refine law_i (Wd := W_M) (V := (W_X q k S2)) SM_ok sameM ⟨hx, hb, hml, hown, hts⟩ (c_X12_give l D q2 k (xs (nI (i + 1)).toNatClampNeg) T H.size (r, T2) e2) (cwV 1 hts gL_law_X12_give rfl rfl rfl (by decide +kernel) ⟨Nat.le_of_ble_eq_true rfl, Nat.le_of_ble_eq_true rfl⟩) hK hV hP (hDM S2 T) hS hA trivial (va_recv hK hV (ci := 12) (q0 := 0) rfl rfl) (As := [.int (xs (nI (i + 1)).toNatClampNeg)]) rfl hl.1 rfl (Nat.le_of_ble_eq_true rfl) dL_law_1115 ⟨Nat.le_of_ble_eq_true rfl, Nat.le_of_ble_eq_true rfl⟩ (fun H locs hV hP hS => ?_)
  exact lv_icmp_eq (tgt := 1589) hx hb dL_law_1118 (by decide) (fun _ => kk S2 T2 H locs hR hP hV hS) (fun h9 => absurd rfl h9)
set_option maxHeartbeats 4000000 in
set_option maxRecDepth 100000 in
theorem law_case_25 (C0 : LC p s m c b L xs D q q2 k) (hi : i + 6 ≤ L) (h : RR RxC S T) (hP : va_P D vwCl (W_X q k S) H) (hV : va_P D vwCl (W_M q2 k T) H) (hS : va_S (AL s) s.heap H locs) (hl : lv_has ls 4 [(3, .int (nI i)), (2, .ref (q2 0)), (1, .ref (q 0)), (0, .ref b)]) (kk : ∀ (S2 T2 : St) (H : Heap) (locs : List Loc), RR RxC S2 T2 → va_P D vwCl (W_X q k S2) H → va_P D vwCl (W_M q2 k T2) H → va_S (AL s) s.heap H locs → W p l e room_1 s m #[Value.ref b] below meth c H locs 95 26919 Q (F0 m 1589 ls [])) : W p l e room_1 s m #[Value.ref b] below meth c H locs 95 26919 Q (F0 m 1123 ls []) := by
  obtain ⟨hx, hb, hml, hown, hts, hX, hbl, hK, hDX, hDM, hsp, hL⟩ := C0
  have hA : ∀ a, s.heap.size ≤ a → AL s a := fun _ h => h
  have hbA : ¬ AL s b := Nat.not_le.mpr hbl
  obtain ⟨r, S2, T2, e1, e2, hR⟩ := op_led (xs (nI (i + 1)).toNatClampNeg) h
  refine lv_aload_n hx hb dL_law_1123 rfl (lv_at hl 2 rfl) ?_
  refine lv_aload_n hx hb dL_law_1124 rfl (lv_at hl 3 rfl) ?_
  refine lv_iload_n hx hb dL_law_1125 rfl (lv_at hl 0 rfl) ?_
  refine lv_iconst (v := (1 : Int32)) hx hb dL_law_1126 (by decide) ?_
  refine lv_iadd hx hb dL_law_1127 ?_
  refine tx_i (x := nI (i + 1)) (lw_p 1 rfl) ?_
  refine va_sld hx hb hX hbl hbA hS (lw_in 1 hi hL (by decide)) dL_law_1128 ?_
  refine law_i (Wd := W_X) (V := (W_M q2 k T)) SX_ok sameX ⟨hx, hb, hml, hown, hts⟩ (c_X11_led l D q k (xs (nI (i + 1)).toNatClampNeg) S H.size (r, S2) e1) (cwV 1 hts gL_law_X11_led rfl rfl rfl (by decide +kernel) ⟨Nat.le_of_ble_eq_true rfl, Nat.le_of_ble_eq_true rfl⟩) hK hP hV (hDX S T) hS hA hsp (va_recv hK hP (ci := 11) (q0 := 0) rfl rfl) (As := [.int (xs (nI (i + 1)).toNatClampNeg)]) rfl hl.1 rfl (Nat.le_of_ble_eq_true rfl) dL_law_1129 ⟨Nat.le_of_ble_eq_true rfl, Nat.le_of_ble_eq_true rfl⟩ (fun H locs hP hV hS => ?_)
  refine lv_aload_n hx hb dL_law_1132 rfl (lv_at hl 1 rfl) ?_
  refine lv_aload_n hx hb dL_law_1133 rfl (lv_at hl 3 rfl) ?_
  refine lv_iload_n hx hb dL_law_1134 rfl (lv_at hl 0 rfl) ?_
  refine lv_iconst (v := (1 : Int32)) hx hb dL_law_1135 (by decide) ?_
  refine lv_iadd hx hb dL_law_1136 ?_
  refine tx_i (x := nI (i + 1)) (lw_p 1 rfl) ?_
  refine va_sld hx hb hX hbl hbA hS (lw_in 1 hi hL (by decide)) dL_law_1137 ?_
  refine law_i (Wd := W_M) (V := (W_X q k S2)) SM_ok sameM ⟨hx, hb, hml, hown, hts⟩ (c_X12_led l D q2 k (xs (nI (i + 1)).toNatClampNeg) T H.size (r, T2) e2) (cwV 1 hts gL_law_X12_led rfl rfl rfl (by decide +kernel) ⟨Nat.le_of_ble_eq_true rfl, Nat.le_of_ble_eq_true rfl⟩) hK hV hP (hDM S2 T) hS hA trivial (va_recv hK hV (ci := 12) (q0 := 0) rfl rfl) (As := [.int (xs (nI (i + 1)).toNatClampNeg)]) rfl hl.1 rfl (Nat.le_of_ble_eq_true rfl) dL_law_1138 ⟨Nat.le_of_ble_eq_true rfl, Nat.le_of_ble_eq_true rfl⟩ (fun H locs hV hP hS => ?_)
  exact lv_icmp_eq (tgt := 1589) hx hb dL_law_1141 (by decide) (fun _ => kk S2 T2 H locs hR hP hV hS) (fun h9 => absurd rfl h9)
set_option maxHeartbeats 4000000 in
set_option maxRecDepth 100000 in
theorem law_case_26 (C0 : LC p s m c b L xs D q q2 k) (hi : i + 6 ≤ L) (h : RR RxC S T) (hP : va_P D vwCl (W_X q k S) H) (hV : va_P D vwCl (W_M q2 k T) H) (hS : va_S (AL s) s.heap H locs) (hl : lv_has ls 4 [(3, .int (nI i)), (2, .ref (q2 0)), (1, .ref (q 0)), (0, .ref b)]) (kk : ∀ (S2 T2 : St) (H : Heap) (locs : List Loc), RR RxC S2 T2 → va_P D vwCl (W_X q k S2) H → va_P D vwCl (W_M q2 k T2) H → va_S (AL s) s.heap H locs → W p l e room_1 s m #[Value.ref b] below meth c H locs 95 26919 Q (F0 m 1589 ls [])) : W p l e room_1 s m #[Value.ref b] below meth c H locs 95 26919 Q (F0 m 1146 ls []) := by
  obtain ⟨hx, hb, hml, hown, hts, hX, hbl, hK, hDX, hDM, hsp, hL⟩ := C0
  have hA : ∀ a, s.heap.size ≤ a → AL s a := fun _ h => h
  have hbA : ¬ AL s b := Nat.not_le.mpr hbl
  obtain ⟨r, S2, T2, e1, e2, hR⟩ := op_image FxC h
  refine lv_aload_n hx hb dL_law_1146 rfl (lv_at hl 2 rfl) ?_
  refine law_i (Wd := W_X) (V := (W_M q2 k T)) SX_ok sameX ⟨hx, hb, hml, hown, hts⟩ (c_X11_image l D q k S H.size (r, S2) e1) (cwV 0 hts gL_law_X11_image rfl rfl rfl (by decide +kernel) ⟨Nat.le_of_ble_eq_true rfl, Nat.le_of_ble_eq_true rfl⟩) hK hP hV (hDX S T) hS hA hsp (va_recv hK hP (ci := 11) (q0 := 0) rfl rfl) (As := []) rfl hl.1 rfl (Nat.le_of_ble_eq_true rfl) dL_law_1147 ⟨Nat.le_of_ble_eq_true rfl, Nat.le_of_ble_eq_true rfl⟩ (fun H locs hP hV hS => ?_)
  refine lv_aload_n hx hb dL_law_1150 rfl (lv_at hl 1 rfl) ?_
  refine law_i (Wd := W_M) (V := (W_X q k S2)) SM_ok sameM ⟨hx, hb, hml, hown, hts⟩ (c_X12_image l D q2 k T H.size (r, T2) e2) (cwV 0 hts gL_law_X12_image rfl rfl rfl (by decide +kernel) ⟨Nat.le_of_ble_eq_true rfl, Nat.le_of_ble_eq_true rfl⟩) hK hV hP (hDM S2 T) hS hA trivial (va_recv hK hV (ci := 12) (q0 := 0) rfl rfl) (As := []) rfl hl.1 rfl (Nat.le_of_ble_eq_true rfl) dL_law_1151 ⟨Nat.le_of_ble_eq_true rfl, Nat.le_of_ble_eq_true rfl⟩ (fun H locs hV hP hS => ?_)
  exact lv_icmp_eq (tgt := 1589) hx hb dL_law_1154 (by decide) (fun _ => kk S2 T2 H locs hR hP hV hS) (fun h9 => absurd rfl h9)
end
