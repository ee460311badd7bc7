section
variable {p : Program} {l : Launch} {e : Env} {s : State} {m : MethodId} {below : List Frame} {meth : Method} {c : Code} {H : Heap} {locs : List Loc} {Q : State → Prop} {ls : Array Slot} {b L i : Nat} {xs : Nat → Int32} {D : va_G} {q q2 : Nat → Nat} {k : CI} {S T : St}
set_option maxHeartbeats 4000000 in
set_option maxRecDepth 100000 in
theorem law_case_27 (C0 : LC p s m c b L xs D q q2 k) (hi : i + 6 ≤ L) (h : RR RxC S T) (hP : va_P D vwCl (W_X q k S) H) (hV : va_P D vwCl (W_M q2 k T) H) (hS : va_S (AL s) s.heap H locs) (hl : lv_has ls 4 [(3, .int (nI i)), (2, .ref (q2 0)), (1, .ref (q 0)), (0, .ref b)]) (kk : ∀ (S2 T2 : St) (H : Heap) (locs : List Loc), RR RxC S2 T2 → va_P D vwCl (W_X q k S2) H → va_P D vwCl (W_M q2 k T2) H → va_S (AL s) s.heap H locs → W p l e room_1 s m #[Value.ref b] below meth c H locs 95 26919 Q (F0 m 1589 ls [])) : W p l e room_1 s m #[Value.ref b] below meth c H locs 95 26919 Q (F0 m 1159 ls []) := by
  obtain ⟨hx, hb, hml, hown, hts, hX, hbl, hK, hDX, hDM, hsp, hL⟩ := C0
  have hA : ∀ a, s.heap.size ≤ a → AL s a := fun _ h => h
  have hbA : ¬ AL s b := Nat.not_le.mpr hbl
  obtain ⟨r, S2, T2, e1, e2, hR⟩ := op_back FxC h
  refine lv_aload_n hx hb dL_law_1159 rfl (lv_at hl 2 rfl) ?_
  refine law_i (Wd := W_X) (V := (W_M q2 k T)) SX_ok sameX ⟨hx, hb, hml, hown, hts⟩ (c_X11_back l D q k S H.size (r, S2) e1) (cwV 0 hts gL_law_X11_back rfl rfl rfl (by decide +kernel) ⟨Nat.le_of_ble_eq_true rfl, Nat.le_of_ble_eq_true rfl⟩) hK hP hV (hDX S T) hS hA hsp (va_recv hK hP (ci := 11) (q0 := 0) rfl rfl) (As := []) rfl hl.1 rfl (Nat.le_of_ble_eq_true rfl) dL_law_1160 ⟨Nat.le_of_ble_eq_true rfl, Nat.le_of_ble_eq_true rfl⟩ (fun H locs hP hV hS => ?_)
  refine lv_aload_n hx hb dL_law_1163 rfl (lv_at hl 1 rfl) ?_
  refine law_i (Wd := W_M) (V := (W_X q k S2)) SM_ok sameM ⟨hx, hb, hml, hown, hts⟩ (c_X12_back l D q2 k T H.size (r, T2) e2) (cwV 0 hts gL_law_X12_back rfl rfl rfl (by decide +kernel) ⟨Nat.le_of_ble_eq_true rfl, Nat.le_of_ble_eq_true rfl⟩) hK hV hP (hDM S2 T) hS hA trivial (va_recv hK hV (ci := 12) (q0 := 0) rfl rfl) (As := []) rfl hl.1 rfl (Nat.le_of_ble_eq_true rfl) dL_law_1164 ⟨Nat.le_of_ble_eq_true rfl, Nat.le_of_ble_eq_true rfl⟩ (fun H locs hV hP hS => ?_)
  exact lv_icmp_eq (tgt := 1589) hx hb dL_law_1167 (by decide) (fun _ => kk S2 T2 H locs hR hP hV hS) (fun h9 => absurd rfl h9)
set_option maxHeartbeats 4000000 in
set_option maxRecDepth 100000 in
theorem law_case_28 (C0 : LC p s m c b L xs D q q2 k) (hi : i + 6 ≤ L) (h : RR RxC S T) (hP : va_P D vwCl (W_X q k S) H) (hV : va_P D vwCl (W_M q2 k T) H) (hS : va_S (AL s) s.heap H locs) (hl : lv_has ls 4 [(3, .int (nI i)), (2, .ref (q2 0)), (1, .ref (q 0)), (0, .ref b)]) (kk : ∀ (S2 T2 : St) (H : Heap) (locs : List Loc), RR RxC S2 T2 → va_P D vwCl (W_X q k S2) H → va_P D vwCl (W_M q2 k T2) H → va_S (AL s) s.heap H locs → W p l e room_1 s m #[Value.ref b] below meth c H locs 95 26919 Q (F0 m 1589 ls [])) : W p l e room_1 s m #[Value.ref b] below meth c H locs 95 26919 Q (F0 m 1172 ls []) := by
  obtain ⟨hx, hb, hml, hown, hts, hX, hbl, hK, hDX, hDM, hsp, hL⟩ := C0
  have hA : ∀ a, s.heap.size ≤ a → AL s a := fun _ h => h
  have hbA : ¬ AL s b := Nat.not_le.mpr hbl
  obtain ⟨r, S2, T2, e1, e2, hR⟩ := op_undo FxC h
  refine lv_aload_n hx hb dL_law_1172 rfl (lv_at hl 2 rfl) ?_
  refine law_i (Wd := W_X) (V := (W_M q2 k T)) SX_ok sameX ⟨hx, hb, hml, hown, hts⟩ (c_X11_undo l D q k S H.size (r, S2) e1) (cwV 0 hts gL_law_X11_undo rfl rfl rfl (by decide +kernel) ⟨Nat.le_of_ble_eq_true rfl, Nat.le_of_ble_eq_true rfl⟩) hK hP hV (hDX S T) hS hA hsp (va_recv hK hP (ci := 11) (q0 := 0) rfl rfl) (As := []) rfl hl.1 rfl (Nat.le_of_ble_eq_true rfl) dL_law_1173 ⟨Nat.le_of_ble_eq_true rfl, Nat.le_of_ble_eq_true rfl⟩ (fun H locs hP hV hS => ?_)
  refine lv_aload_n hx hb dL_law_1176 rfl (lv_at hl 1 rfl) ?_
  refine law_i (Wd := W_M) (V := (W_X q k S2)) SM_ok sameM ⟨hx, hb, hml, hown, hts⟩ (c_X12_undo l D q2 k T H.size (r, T2) e2) (cwV 0 hts gL_law_X12_undo rfl rfl rfl (by decide +kernel) ⟨Nat.le_of_ble_eq_true rfl, Nat.le_of_ble_eq_true rfl⟩) hK hV hP (hDM S2 T) hS hA trivial (va_recv hK hV (ci := 12) (q0 := 0) rfl rfl) (As := []) rfl hl.1 rfl (Nat.le_of_ble_eq_true rfl) dL_law_1177 ⟨Nat.le_of_ble_eq_true rfl, Nat.le_of_ble_eq_true rfl⟩ (fun H locs hV hP hS => ?_)
  exact lv_icmp_eq (tgt := 1589) hx hb dL_law_1180 (by decide) (fun _ => kk S2 T2 H locs hR hP hV hS) (fun h9 => absurd rfl h9)
set_option maxHeartbeats 4000000 in
set_option maxRecDepth 100000 in
theorem law_case_29 (C0 : LC p s m c b L xs D q q2 k) (hi : i + 6 ≤ L) (h : RR RxC S T) (hP : va_P D vwCl (W_X q k S) H) (hV : va_P D vwCl (W_M q2 k T) H) (hS : va_S (AL s) s.heap H locs) (hl : lv_has ls 4 [(3, .int (nI i)), (2, .ref (q2 0)), (1, .ref (q 0)), (0, .ref b)]) (kk : ∀ (S2 T2 : St) (H : Heap) (locs : List Loc), RR RxC S2 T2 → va_P D vwCl (W_X q k S2) H → va_P D vwCl (W_M q2 k T2) H → va_S (AL s) s.heap H locs → W p l e room_1 s m #[Value.ref b] below meth c H locs 95 26919 Q (F0 m 1589 ls [])) : W p l e room_1 s m #[Value.ref b] below meth c H locs 95 26919 Q (F0 m 1185 ls []) := by
  obtain ⟨hx, hb, hml, hown, hts, hX, hbl, hK, hDX, hDM, hsp, hL⟩ := C0
  have hA : ∀ a, s.heap.size ≤ a → AL s a := fun _ h => h
  have hbA : ¬ AL s b := Nat.not_le.mpr hbl
  obtain ⟨r, S2, T2, e1, e2, hR⟩ := op_redo FxC h
  refine lv_aload_n hx hb dL_law_1185 rfl (lv_at hl 2 rfl) ?_
  refine law_i (Wd := W_X) (V := (W_M q2 k T)) SX_ok sameX ⟨hx, hb, hml, hown, hts⟩ (c_X11_redo l D q k S H.size (r, S2) e1) (cwV 0 hts gL_law_X11_redo rfl rfl rfl (by decide +kernel) ⟨Nat.le_of_ble_eq_true rfl, Nat.le_of_ble_eq_true rfl⟩) hK hP hV (hDX S T) hS hA hsp (va_recv hK hP (ci := 11) (q0 := 0) rfl rfl) (As := []) rfl hl.1 rfl (Nat.le_of_ble_eq_true rfl) dL_law_1186 ⟨Nat.le_of_ble_eq_true rfl, Nat.le_of_ble_eq_true rfl⟩ (fun H locs hP hV hS => ?_)
  refine lv_aload_n hx hb dL_law_1189 rfl (lv_at hl 1 rfl) ?_
  refine law_i (Wd := W_M) (V := (W_X q k S2)) SM_ok sameM ⟨hx, hb, hml, hown, hts⟩ (c_X12_redo l D q2 k T H.size (r, T2) e2) (cwV 0 hts gL_law_X12_redo rfl rfl rfl (by decide +kernel) ⟨Nat.le_of_ble_eq_true rfl, Nat.le_of_ble_eq_true rfl⟩) hK hV hP (hDM S2 T) hS hA trivial (va_recv hK hV (ci := 12) (q0 := 0) rfl rfl) (As := []) rfl hl.1 rfl (Nat.le_of_ble_eq_true rfl) dL_law_1190 ⟨Nat.le_of_ble_eq_true rfl, Nat.le_of_ble_eq_true rfl⟩ (fun H locs hV hP hS => ?_)
  exact lv_icmp_eq (tgt := 1589) hx hb dL_law_1193 (by decide) (fun _ => kk S2 T2 H locs hR hP hV hS) (fun h9 => absurd rfl h9)
set_option maxHeartbeats 4000000 in
set_option maxRecDepth 100000 in
theorem law_case_30 (C0 : LC p s m c b L xs D q q2 k) (hi : i + 6 ≤ L) (h : RR RxC S T) (hP : va_P D vwCl (W_X q k S) H) (hV : va_P D vwCl (W_M q2 k T) H) (hS : va_S (AL s) s.heap H locs) (hl : lv_has ls 4 [(3, .int (nI i)), (2, .ref (q2 0)), (1, .ref (q 0)), (0, .ref b)]) (kk : ∀ (S2 T2 : St) (H : Heap) (locs : List Loc), RR RxC S2 T2 → va_P D vwCl (W_X q k S2) H → va_P D vwCl (W_M q2 k T2) H → va_S (AL s) s.heap H locs → W p l e room_1 s m #[Value.ref b] below meth c H locs 95 26919 Q (F0 m 1589 ls [])) : W p l e room_1 s m #[Value.ref b] below meth c H locs 95 26919 Q (F0 m 1198 ls []) := by
  obtain ⟨hx, hb, hml, hown, hts, hX, hbl, hK, hDX, hDM, hsp, hL⟩ := C0
  have hA : ∀ a, s.heap.size ≤ a → AL s a := fun _ h => h
  have hbA : ¬ AL s b := Nat.not_le.mpr hbl
  obtain ⟨r, S2, T2, e1, e2, hR⟩ := op_body FxC (xs (nI (i + 1)).toNatClampNeg) h
  refine lv_aload_n hx hb dL_law_1198 rfl (lv_at hl 2 rfl) ?_
  refine lv_aload_n hx hb dL_law_1199 rfl (lv_at hl 3 rfl) ?_
  refine lv_iload_n hx hb dL_law_1200 rfl (lv_at hl 0 rfl) ?_
  refine lv_iconst (v := (1 : Int32)) hx hb dL_law_1201 (by decide) ?_
  refine lv_iadd hx hb dL_law_1202 ?_
  refine tx_i (x := nI (i + 1)) (lw_p 1 rfl) ?_
  refine va_sld hx hb hX hbl hbA hS (lw_in 1 hi hL (by decide)) dL_law_1203 ?_
  refine law_i (Wd := W_X) (V := (W_M q2 k T)) SX_ok sameX ⟨hx, hb, hml, hown, hts⟩ (c_X11_body l D q k (xs (nI (i + 1)).toNatClampNeg) S H.size (r, S2) e1) (cwV 1 hts gL_law_X11_body rfl rfl rfl (by decide +kernel) ⟨Nat.le_of_ble_eq_true rfl, Nat.le_of_ble_eq_true rfl⟩) hK hP hV (hDX S T) hS hA hsp (va_recv hK hP (ci := 11) (q0 := 0) rfl rfl) (As := [.int (xs (nI (i + 1)).toNatClampNeg)]) rfl hl.1 rfl (Nat.le_of_ble_eq_true rfl) dL_law_1204 ⟨Nat.le_of_ble_eq_true rfl, Nat.le_of_ble_eq_true rfl⟩ (fun H locs hP hV hS => ?_)
  refine lv_aload_n hx hb dL_law_1207 rfl (lv_at hl 1 rfl) ?_
  refine lv_aload_n hx hb dL_law_1208 rfl (lv_at hl 3 rfl) ?_
  refine lv_iload_n hx hb dL_law_1209 rfl (lv_at hl 0 rfl) ?_
  refine lv_iconst (v := (1 : Int32)) hx hb dL_law_1210 (by decide) ?_
  refine lv_iadd hx hb dL_law_1211 ?_
  refine tx_i (x := nI (i + 1)) (lw_p 1 rfl) ?_
  refine va_sld hx hb hX hbl hbA hS (lw_in 1 hi hL (by decide)) dL_law_1212 ?_
  refine law_i (Wd := W_M) (V := (W_X q k S2)) SM_ok sameM ⟨hx, hb, hml, hown, hts⟩ (c_X12_body l D q2 k (xs (nI (i + 1)).toNatClampNeg) T H.size (r, T2) e2) (cwV 1 hts gL_law_X12_body rfl rfl rfl (by decide +kernel) ⟨Nat.le_of_ble_eq_true rfl, Nat.le_of_ble_eq_true rfl⟩) hK hV hP (hDM S2 T) hS hA trivial (va_recv hK hV (ci := 12) (q0 := 0) rfl rfl) (As := [.int (xs (nI (i + 1)).toNatClampNeg)]) rfl hl.1 rfl (Nat.le_of_ble_eq_true rfl) dL_law_1213 ⟨Nat.le_of_ble_eq_true rfl, Nat.le_of_ble_eq_true rfl⟩ (fun H locs hV hP hS => ?_)
  exact lv_icmp_eq (tgt := 1589) hx hb dL_law_1216 (by decide) (fun _ => kk S2 T2 H locs hR hP hV hS) (fun h9 => absurd rfl h9)
set_option maxHeartbeats 4000000 in
set_option maxRecDepth 100000 in
theorem law_case_31 (C0 : LC p s m c b L xs D q q2 k) (hi : i + 6 ≤ L) (h : RR RxC S T) (hP : va_P D vwCl (W_X q k S) H) (hV : va_P D vwCl (W_M q2 k T) H) (hS : va_S (AL s) s.heap H locs) (hl : lv_has ls 4 [(3, .int (nI i)), (2, .ref (q2 0)), (1, .ref (q 0)), (0, .ref b)]) (kk : ∀ (S2 T2 : St) (H : Heap) (locs : List Loc), RR RxC S2 T2 → va_P D vwCl (W_X q k S2) H → va_P D vwCl (W_M q2 k T2) H → va_S (AL s) s.heap H locs → W p l e room_1 s m #[Value.ref b] below meth c H locs 95 26919 Q (F0 m 1589 ls [])) : W p l e room_1 s m #[Value.ref b] below meth c H locs 95 26919 Q (F0 m 1221 ls []) := by
  obtain ⟨hx, hb, hml, hown, hts, hX, hbl, hK, hDX, hDM, hsp, hL⟩ := C0
  have hA : ∀ a, s.heap.size ≤ a → AL s a := fun _ h => h
  have hbA : ¬ AL s b := Nat.not_le.mpr hbl
  obtain ⟨r, S2, T2, e1, e2, hR⟩ := op_act (xs (nI (i + 1)).toNatClampNeg) (xs (nI (i + 2)).toNatClampNeg) (xs (nI (i + 3)).toNatClampNeg) h
  refine lv_aload_n hx hb dL_law_1221 rfl (lv_at hl 2 rfl) ?_
  refine lv_aload_n hx hb dL_law_1222 rfl (lv_at hl 3 rfl) ?_
  refine lv_iload_n hx hb dL_law_1223 rfl (lv_at hl 0 rfl) ?_
  refine lv_iconst (v := (1 : Int32)) hx hb dL_law_1224 (by decide) ?_
  refine lv_iadd hx hb dL_law_1225 ?_
  refine tx_i (x := nI (i + 1)) (lw_p 1 rfl) ?_
  refine va_sld hx hb hX hbl hbA hS (lw_in 1 hi hL (by decide)) dL_law_1226 ?_
  refine lv_aload_n hx hb dL_law_1227 rfl (lv_at hl 3 rfl) ?_
  refine lv_iload_n hx hb dL_law_1228 rfl (lv_at hl 0 rfl) ?_
  refine lv_iconst (v := (2 : Int32)) hx hb dL_law_1229 (by decide) ?_
  refine lv_iadd hx hb dL_law_1230 ?_
  refine tx_i (x := nI (i + 2)) (lw_p 2 rfl) ?_
  refine va_sld hx hb hX hbl hbA hS (lw_in 2 hi hL (by decide)) dL_law_1231 ?_
  refine lv_aload_n hx hb dL_law_1232 rfl (lv_at hl 3 rfl) ?_
  refine lv_iload_n hx hb dL_law_1233 rfl (lv_at hl 0 rfl) ?_
  refine lv_iconst (v := (3 : Int32)) hx hb dL_law_1234 (by decide) ?_
  refine lv_iadd hx hb dL_law_1235 ?_
  refine tx_i (x := nI (i + 3)) (lw_p 3 rfl) ?_
  refine va_sld hx hb hX hbl hbA hS (lw_in 3 hi hL (by decide)) dL_law_1236 ?_
  refine law_i (Wd := W_X) (V := (W_M q2 k T)) SX_ok sameX ⟨hx, hb, hml, hown, hts⟩ (c_X11_act l D q k (xs (nI (i + 1)).toNatClampNeg) (xs (nI (i + 2)).toNatClampNeg) (xs (nI (i + 3)).toNatClampNeg) S H.size (r, S2) e1) (cwV 3 hts gL_law_X11_act rfl rfl rfl (by decide +kernel) ⟨Nat.le_of_ble_eq_true rfl, Nat.le_of_ble_eq_true rfl⟩) hK hP hV (hDX S T) hS hA hsp (va_recv hK hP (ci := 11) (q0 := 0) rfl rfl) (As := [.int (xs (nI (i + 1)).toNatClampNeg), .int (xs (nI (i + 2)).toNatClampNeg), .int (xs (nI (i + 3)).toNatClampNeg)]) rfl hl.1 rfl (Nat.le_of_ble_eq_true rfl) dL_law_1237 ⟨Nat.le_of_ble_eq_true rfl, Nat.le_of_ble_eq_true rfl⟩ (fun H locs hP hV hS => ?_)
  refine lv_aload_n hx hb dL_law_1240 rfl (lv_at hl 1 rfl) ?_
  refine lv_aload_n hx hb dL_law_1241 rfl (lv_at hl 3 rfl) ?_
  refine lv_iload_n hx hb dL_law_1242 rfl (lv_at hl 0 rfl) ?_
  refine lv_iconst (v := (1 : Int32)) hx hb dL_law_1243 (by decide) ?_
  refine lv_iadd hx hb dL_law_1244 ?_
  refine tx_i (x := nI (i + 1)) (lw_p 1 rfl) ?_
  refine va_sld hx hb hX hbl hbA hS (lw_in 1 hi hL (by decide)) dL_law_1245 ?_
  refine lv_aload_n hx hb dL_law_1246 rfl (lv_at hl 3 rfl) ?_
  refine lv_iload_n hx hb dL_law_1247 rfl (lv_at hl 0 rfl) ?_
  refine lv_iconst (v := (2 : Int32)) hx hb dL_law_1248 (by decide) ?_
  refine lv_iadd hx hb dL_law_1249 ?_
  refine tx_i (x := nI (i + 2)) (lw_p 2 rfl) ?_
  refine va_sld hx hb hX hbl hbA hS (lw_in 2 hi hL (by decide)) dL_law_1250 ?_
  refine lv_aload_n hx hb dL_law_1251 rfl (lv_at hl 3 rfl) ?_
  refine lv_iload_n hx hb dL_law_1252 rfl (lv_at hl 0 rfl) ?_
  refine lv_iconst (v := (3 : Int32)) hx hb dL_law_1253 (by decide) ?_
  refine lv_iadd hx hb dL_law_1254 ?_
  refine tx_i (x := nI (i + 3)) (lw_p 3 rfl) ?_
  refine va_sld hx hb hX hbl hbA hS (lw_in 3 hi hL (by decide)) dL_law_1255 ?_
  refine law_i (Wd := W_M) (V := (W_X q k S2)) SM_ok sameM ⟨hx, hb, hml, hown, hts⟩ (c_X12_act l D q2 k (xs (nI (i + 1)).toNatClampNeg) (xs (nI (i + 2)).toNatClampNeg) (xs (nI (i + 3)).toNatClampNeg) T H.size (r, T2) e2) (cwV 3 hts gL_law_X12_act rfl rfl rfl (by decide +kernel) ⟨Nat.le_of_ble_eq_true rfl, Nat.le_of_ble_eq_true rfl⟩) hK hV hP (hDM S2 T) hS hA trivial (va_recv hK hV (ci := 12) (q0 := 0) rfl rfl) (As := [.int (xs (nI (i + 1)).toNatClampNeg), .int (xs (nI (i + 2)).toNatClampNeg), .int (xs (nI (i + 3)).toNatClampNeg)]) rfl hl.1 rfl (Nat.le_of_ble_eq_true rfl) dL_law_1256 ⟨Nat.le_of_ble_eq_true rfl, Nat.le_of_ble_eq_true rfl⟩ (fun H locs hV hP hS => ?_)
  exact lv_icmp_eq (tgt := 1589) hx hb dL_law_1259 (by decide) (fun _ => kk S2 T2 H locs hR hP hV hS) (fun h9 => absurd rfl h9)
set_option maxHeartbeats 4000000 in
set_option maxRecDepth 100000 in
theorem law_case_32 (C0 : LC p s m c b L xs D q q2 k) (hi : i + 6 ≤ L) (h : RR RxC S T) (hP : va_P D vwCl (W_X q k S) H) (hV : va_P D vwCl (W_M q2 k T) H) (hS : va_S (AL s) s.heap H locs) (hl : lv_has ls 4 [(3, .int (nI i)), (2, .ref (q2 0)), (1, .ref (q 0)), (0, .ref b)]) (kk : ∀ (S2 T2 : St) (H : Heap) (locs : List Loc), RR RxC S2 T2 → va_P D vwCl (W_X q k S2) H → va_P D vwCl (W_M q2 k T2) H → va_S (AL s) s.heap H locs → W p l e room_1 s m #[Value.ref b] below meth c H locs 95 26919 Q (F0 m 1589 ls [])) : W p l e room_1 s m #[Value.ref b] below meth c H locs 95 26919 Q (F0 m 1264 ls []) := by
  obtain ⟨hx, hb, hml, hown, hts, hX, hbl, hK, hDX, hDM, hsp, hL⟩ := C0
  have hA : ∀ a, s.heap.size ≤ a → AL s a := fun _ h => h
  have hbA : ¬ AL s b := Nat.not_le.mpr hbl
  obtain ⟨r, S2, T2, e1, e2, hR⟩ := op_trace (xs (nI (i + 1)).toNatClampNeg) h
  refine lv_aload_n hx hb dL_law_1264 rfl (lv_at hl 2 rfl) ?_
  refine lv_aload_n hx hb dL_law_1265 rfl (lv_at hl 3 rfl) ?_
  refine lv_iload_n hx hb dL_law_1266 rfl (lv_at hl 0 rfl) ?_
  refine lv_iconst (v := (1 : Int32)) hx hb dL_law_1267 (by decide) ?_
  refine lv_iadd hx hb dL_law_1268 ?_
  refine tx_i (x := nI (i + 1)) (lw_p 1 rfl) ?_
  refine va_sld hx hb hX hbl hbA hS (lw_in 1 hi hL (by decide)) dL_law_1269 ?_
  refine law_i (Wd := W_X) (V := (W_M q2 k T)) SX_ok sameX ⟨hx, hb, hml, hown, hts⟩ (c_X11_trace l D q k (xs (nI (i + 1)).toNatClampNeg) S H.size (r, S2) e1) (cwV 1 hts gL_law_X11_trace rfl rfl rfl (by decide +kernel) ⟨Nat.le_of_ble_eq_true rfl, Nat.le_of_ble_eq_true rfl⟩) hK hP hV (hDX S T) hS hA hsp (va_recv hK hP (ci := 11) (q0 := 0) rfl rfl) (As := [.int (xs (nI (i + 1)).toNatClampNeg)]) rfl hl.1 rfl (Nat.le_of_ble_eq_true rfl) dL_law_1270 ⟨Nat.le_of_ble_eq_true rfl, Nat.le_of_ble_eq_true rfl⟩ (fun H locs hP hV hS => ?_)
  refine lv_aload_n hx hb dL_law_1273 rfl (lv_at hl 1 rfl) ?_
  refine lv_aload_n hx hb dL_law_1274 rfl (lv_at hl 3 rfl) ?_
  refine lv_iload_n hx hb dL_law_1275 rfl (lv_at hl 0 rfl) ?_
  refine lv_iconst (v := (1 : Int32)) hx hb dL_law_1276 (by decide) ?_
  refine lv_iadd hx hb dL_law_1277 ?_
  refine tx_i (x := nI (i + 1)) (lw_p 1 rfl) ?_
  refine va_sld hx hb hX hbl hbA hS (lw_in 1 hi hL (by decide)) dL_law_1278 ?_
  refine law_i (Wd := W_M) (V := (W_X q k S2)) SM_ok sameM ⟨hx, hb, hml, hown, hts⟩ (c_X12_trace l D q2 k (xs (nI (i + 1)).toNatClampNeg) T H.size (r, T2) e2) (cwV 1 hts gL_law_X12_trace rfl rfl rfl (by decide +kernel) ⟨Nat.le_of_ble_eq_true rfl, Nat.le_of_ble_eq_true rfl⟩) hK hV hP (hDM S2 T) hS hA trivial (va_recv hK hV (ci := 12) (q0 := 0) rfl rfl) (As := [.int (xs (nI (i + 1)).toNatClampNeg)]) rfl hl.1 rfl (Nat.le_of_ble_eq_true rfl) dL_law_1279 ⟨Nat.le_of_ble_eq_true rfl, Nat.le_of_ble_eq_true rfl⟩ (fun H locs hV hP hS => ?_)
  exact lv_icmp_eq (tgt := 1589) hx hb dL_law_1282 (by decide) (fun _ => kk S2 T2 H locs hR hP hV hS) (fun h9 => absurd rfl h9)
set_option maxHeartbeats 4000000 in
set_option maxRecDepth 100000 in
theorem law_case_33 (C0 : LC p s m c b L xs D q q2 k) (hi : i + 6 ≤ L) (h : RR RxC S T) (hP : va_P D vwCl (W_X q k S) H) (hV : va_P D vwCl (W_M q2 k T) H) (hS : va_S (AL s) s.heap H locs) (hl : lv_has ls 4 [(3, .int (nI i)), (2, .ref (q2 0)), (1, .ref (q 0)), (0, .ref b)]) (kk : ∀ (S2 T2 : St) (H : Heap) (locs : List Loc), RR RxC S2 T2 → va_P D vwCl (W_X q k S2) H → va_P D vwCl (W_M q2 k T2) H → va_S (AL s) s.heap H locs → W p l e room_1 s m #[Value.ref b] below meth c H locs 95 26919 Q (F0 m 1589 ls [])) : W p l e room_1 s m #[Value.ref b] below meth c H locs 95 26919 Q (F0 m 1287 ls []) := by
  obtain ⟨hx, hb, hml, hown, hts, hX, hbl, hK, hDX, hDM, hsp, hL⟩ := C0
  have hA : ∀ a, s.heap.size ≤ a → AL s a := fun _ h => h
  have hbA : ¬ AL s b := Nat.not_le.mpr hbl
  obtain ⟨r, S2, T2, e1, e2, hR⟩ := op_keep FxC (xs (nI (i + 1)).toNatClampNeg) (xs (nI (i + 2)).toNatClampNeg) h
  refine lv_aload_n hx hb dL_law_1287 rfl (lv_at hl 2 rfl) ?_
  refine lv_aload_n hx hb dL_law_1288 rfl (lv_at hl 3 rfl) ?_
  refine lv_iload_n hx hb dL_law_1289 rfl (lv_at hl 0 rfl) ?_
  refine lv_iconst (v := (1 : Int32)) hx hb dL_law_1290 (by decide) ?_
  refine lv_iadd hx hb dL_law_1291 ?_
  refine tx_i (x := nI (i + 1)) (lw_p 1 rfl) ?_
  refine va_sld hx hb hX hbl hbA hS (lw_in 1 hi hL (by decide)) dL_law_1292 ?_
  refine lv_aload_n hx hb dL_law_1293 rfl (lv_at hl 3 rfl) ?_
  refine lv_iload_n hx hb dL_law_1294 rfl (lv_at hl 0 rfl) ?_
  refine lv_iconst (v := (2 : Int32)) hx hb dL_law_1295 (by decide) ?_
  refine lv_iadd hx hb dL_law_1296 ?_
  refine tx_i (x := nI (i + 2)) (lw_p 2 rfl) ?_
  refine va_sld hx hb hX hbl hbA hS (lw_in 2 hi hL (by decide)) dL_law_1297 ?_
  refine law_i (Wd := W_X) (V := (W_M q2 k T)) SX_ok sameX ⟨hx, hb, hml, hown, hts⟩ (c_X11_keep l D q k (xs (nI (i + 1)).toNatClampNeg) (xs (nI (i + 2)).toNatClampNeg) S H.size (r, S2) e1) (cwV 2 hts gL_law_X11_keep rfl rfl rfl (by decide +kernel) ⟨Nat.le_of_ble_eq_true rfl, Nat.le_of_ble_eq_true rfl⟩) hK hP hV (hDX S T) hS hA hsp (va_recv hK hP (ci := 11) (q0 := 0) rfl rfl) (As := [.int (xs (nI (i + 1)).toNatClampNeg), .int (xs (nI (i + 2)).toNatClampNeg)]) rfl hl.1 rfl (Nat.le_of_ble_eq_true rfl) dL_law_1298 ⟨Nat.le_of_ble_eq_true rfl, Nat.le_of_ble_eq_true rfl⟩ (fun H locs hP hV hS => ?_)
  refine lv_aload_n hx hb dL_law_1301 rfl (lv_at hl 1 rfl) ?_
  refine lv_aload_n hx hb dL_law_1302 rfl (lv_at hl 3 rfl) ?_
  refine lv_iload_n hx hb dL_law_1303 rfl (lv_at hl 0 rfl) ?_
  refine lv_iconst (v := (1 : Int32)) hx hb dL_law_1304 (by decide) ?_
  refine lv_iadd hx hb dL_law_1305 ?_
  refine tx_i (x := nI (i + 1)) (lw_p 1 rfl) ?_
  refine va_sld hx hb hX hbl hbA hS (lw_in 1 hi hL (by decide)) dL_law_1306 ?_
  refine lv_aload_n hx hb dL_law_1307 rfl (lv_at hl 3 rfl) ?_
  refine lv_iload_n hx hb dL_law_1308 rfl (lv_at hl 0 rfl) ?_
  refine lv_iconst (v := (2 : Int32)) hx hb dL_law_1309 (by decide) ?_
  refine lv_iadd hx hb dL_law_1310 ?_
  refine tx_i (x := nI (i + 2)) (lw_p 2 rfl) ?_
  refine va_sld hx hb hX hbl hbA hS (lw_in 2 hi hL (by decide)) dL_law_1311 ?_
  refine law_i (Wd := W_M) (V := (W_X q k S2)) SM_ok sameM ⟨hx, hb, hml, hown, hts⟩ (c_X12_keep l D q2 k (xs (nI (i + 1)).toNatClampNeg) (xs (nI (i + 2)).toNatClampNeg) T H.size (r, T2) e2) (cwV 2 hts gL_law_X12_keep rfl rfl rfl (by decide +kernel) ⟨Nat.le_of_ble_eq_true rfl, Nat.le_of_ble_eq_true rfl⟩) hK hV hP (hDM S2 T) hS hA trivial (va_recv hK hV (ci := 12) (q0 := 0) rfl rfl) (As := [.int (xs (nI (i + 1)).toNatClampNeg), .int (xs (nI (i + 2)).toNatClampNeg)]) rfl hl.1 rfl (Nat.le_of_ble_eq_true rfl) dL_law_1312 ⟨Nat.le_of_ble_eq_true rfl, Nat.le_of_ble_eq_true rfl⟩ (fun H locs hV hP hS => ?_)
  exact lv_icmp_eq (tgt := 1589) hx hb dL_law_1315 (by decide) (fun _ => kk S2 T2 H locs hR hP hV hS) (fun h9 => absurd rfl h9)
set_option maxHeartbeats 4000000 in
set_option maxRecDepth 100000 in
theorem law_case_34 (C0 : LC p s m c b L xs D q q2 k) (hi : i + 6 ≤ L) (h : RR RxC S T) (hP : va_P D vwCl (W_X q k S) H) (hV : va_P D vwCl (W_M q2 k T) H) (hS : va_S (AL s) s.heap H locs) (hl : lv_has ls 4 [(3, .int (nI i)), (2, .ref (q2 0)), (1, .ref (q 0)), (0, .ref b)]) (kk : ∀ (S2 T2 : St) (H : Heap) (locs : List Loc), RR RxC S2 T2 → va_P D vwCl (W_X q k S2) H → va_P D vwCl (W_M q2 k T2) H → va_S (AL s) s.heap H locs → W p l e room_1 s m #[Value.ref b] below meth c H locs 95 26919 Q (F0 m 1589 ls [])) : W p l e room_1 s m #[Value.ref b] below meth c H locs 95 26919 Q (F0 m 1320 ls []) := by
  obtain ⟨hx, hb, hml, hown, hts, hX, hbl, hK, hDX, hDM, hsp, hL⟩ := C0
  have hA : ∀ a, s.heap.size ≤ a → AL s a := fun _ h => h
  have hbA : ¬ AL s b := Nat.not_le.mpr hbl
  obtain ⟨r, S2, T2, e1, e2, hR⟩ := op_row FxC (xs (nI (i + 1)).toNatClampNeg) (xs (nI (i + 2)).toNatClampNeg) (xs (nI (i + 3)).toNatClampNeg) h
  refine lv_aload_n hx hb dL_law_1320 rfl (lv_at hl 2 rfl) ?_
  refine lv_aload_n hx hb dL_law_1321 rfl (lv_at hl 3 rfl) ?_
  refine lv_iload_n hx hb dL_law_1322 rfl (lv_at hl 0 rfl) ?_
  refine lv_iconst (v := (1 : Int32)) hx hb dL_law_1323 (by decide) ?_
  refine lv_iadd hx hb dL_law_1324 ?_
  refine tx_i (x := nI (i + 1)) (lw_p 1 rfl) ?_
  refine va_sld hx hb hX hbl hbA hS (lw_in 1 hi hL (by decide)) dL_law_1325 ?_
  refine lv_aload_n hx hb dL_law_1326 rfl (lv_at hl 3 rfl) ?_
  refine lv_iload_n hx hb dL_law_1327 rfl (lv_at hl 0 rfl) ?_
  refine lv_iconst (v := (2 : Int32)) hx hb dL_law_1328 (by decide) ?_
  refine lv_iadd hx hb dL_law_1329 ?_
  refine tx_i (x := nI (i + 2)) (lw_p 2 rfl) ?_
  refine va_sld hx hb hX hbl hbA hS (lw_in 2 hi hL (by decide)) dL_law_1330 ?_
  refine lv_aload_n hx hb dL_law_1331 rfl (lv_at hl 3 rfl) ?_
  refine lv_iload_n hx hb dL_law_1332 rfl (lv_at hl 0 rfl) ?_
  refine lv_iconst (v := (3 : Int32)) hx hb dL_law_1333 (by decide) ?_
  refine lv_iadd hx hb dL_law_1334 ?_
  refine tx_i (x := nI (i + 3)) (lw_p 3 rfl) ?_
  refine va_sld hx hb hX hbl hbA hS (lw_in 3 hi hL (by decide)) dL_law_1335 ?_
  refine law_i (Wd := W_X) (V := (W_M q2 k T)) SX_ok sameX ⟨hx, hb, hml, hown, hts⟩ (c_X11_row l D q k (xs (nI (i + 1)).toNatClampNeg) (xs (nI (i + 2)).toNatClampNeg) (xs (nI (i + 3)).toNatClampNeg) S H.size (r, S2) e1) (cwV 3 hts gL_law_X11_row rfl rfl rfl (by decide +kernel) ⟨Nat.le_of_ble_eq_true rfl, Nat.le_of_ble_eq_true rfl⟩) hK hP hV (hDX S T) hS hA hsp (va_recv hK hP (ci := 11) (q0 := 0) rfl rfl) (As := [.int (xs (nI (i + 1)).toNatClampNeg), .int (xs (nI (i + 2)).toNatClampNeg), .int (xs (nI (i + 3)).toNatClampNeg)]) rfl hl.1 rfl (Nat.le_of_ble_eq_true rfl) dL_law_1336 ⟨Nat.le_of_ble_eq_true rfl, Nat.le_of_ble_eq_true rfl⟩ (fun H locs hP hV hS => ?_)
  refine lv_aload_n hx hb dL_law_1339 rfl (lv_at hl 1 rfl) ?_
  refine lv_aload_n hx hb dL_law_1340 rfl (lv_at hl 3 rfl) ?_
  refine lv_iload_n hx hb dL_law_1341 rfl (lv_at hl 0 rfl) ?_
  refine lv_iconst (v := (1 : Int32)) hx hb dL_law_1342 (by decide) ?_
  refine lv_iadd hx hb dL_law_1343 ?_
  refine tx_i (x := nI (i + 1)) (lw_p 1 rfl) ?_
  refine va_sld hx hb hX hbl hbA hS (lw_in 1 hi hL (by decide)) dL_law_1344 ?_
  refine lv_aload_n hx hb dL_law_1345 rfl (lv_at hl 3 rfl) ?_
  refine lv_iload_n hx hb dL_law_1346 rfl (lv_at hl 0 rfl) ?_
  refine lv_iconst (v := (2 : Int32)) hx hb dL_law_1347 (by decide) ?_
  refine lv_iadd hx hb dL_law_1348 ?_
  refine tx_i (x := nI (i + 2)) (lw_p 2 rfl) ?_
  refine va_sld hx hb hX hbl hbA hS (lw_in 2 hi hL (by decide)) dL_law_1349 ?_
  refine lv_aload_n hx hb dL_law_1350 rfl (lv_at hl 3 rfl) ?_
  refine lv_iload_n hx hb dL_law_1351 rfl (lv_at hl 0 rfl) ?_
  refine lv_iconst (v := (3 : Int32)) hx hb dL_law_1352 (by decide) ?_
  refine lv_iadd hx hb dL_law_1353 ?_
  refine tx_i (x := nI (i + 3)) (lw_p 3 rfl) ?_
  refine va_sld hx hb hX hbl hbA hS (lw_in 3 hi hL (by decide)) dL_law_1354 ?_
  refine law_i (Wd := W_M) (V := (W_X q k S2)) SM_ok sameM ⟨hx, hb, hml, hown, hts⟩ (c_X12_row l D q2 k (xs (nI (i + 1)).toNatClampNeg) (xs (nI (i + 2)).toNatClampNeg) (xs (nI (i + 3)).toNatClampNeg) T H.size (r, T2) e2) (cwV 3 hts gL_law_X12_row rfl rfl rfl (by decide +kernel) ⟨Nat.le_of_ble_eq_true rfl, Nat.le_of_ble_eq_true rfl⟩) hK hV hP (hDM S2 T) hS hA trivial (va_recv hK hV (ci := 12) (q0 := 0) rfl rfl) (As := [.int (xs (nI (i + 1)).toNatClampNeg), .int (xs (nI (i + 2)).toNatClampNeg), .int (xs (nI (i + 3)).toNatClampNeg)]) rfl hl.1 rfl (Nat.le_of_ble_eq_true rfl) dL_law_1355 ⟨Nat.le_of_ble_eq_true rfl, Nat.le_of_ble_eq_true rfl⟩ (fun H locs hV hP hS => ?_)
  exact lv_icmp_eq (tgt := 1589) hx hb dL_law_1358 (by decide) (fun _ => kk S2 T2 H locs hR hP hV hS) (fun h9 => absurd rfl h9)
set_option maxHeartbeats 4000000 in
set_option maxRecDepth 100000 in
theorem law_case_35 (C0 : LC p s m c b L xs D q q2 k) (hi : i + 6 ≤ L) (h : RR RxC S T) (hP : va_P D vwCl (W_X q k S) H) (hV : va_P D vwCl (W_M q2 k T) H) (hS : va_S (AL s) s.heap H locs) (hl : lv_has ls 4 [(3, .int (nI i)), (2, .ref (q2 0)), (1, .ref (q 0)), (0, .ref b)]) (kk : ∀ (S2 T2 : St) (H : Heap) (locs : List Loc), RR RxC S2 T2 → va_P D vwCl (W_X q k S2) H → va_P D vwCl (W_M q2 k T2) H → va_S (AL s) s.heap H locs → W p l e room_1 s m #[Value.ref b] below meth c H locs 95 26919 Q (F0 m 1589 ls [])) : W p l e room_1 s m #[Value.ref b] below meth c H locs 95 26919 Q (F0 m 1363 ls []) := by
  obtain ⟨hx, hb, hml, hown, hts, hX, hbl, hK, hDX, hDM, hsp, hL⟩ := C0
  have hA : ∀ a, s.heap.size ≤ a → AL s a := fun _ h => h
  have hbA : ¬ AL s b := Nat.not_le.mpr hbl
  obtain ⟨r, S2, T2, e1, e2, hR⟩ := op_put FxC (xs (nI (i + 1)).toNatClampNeg) (xs (nI (i + 2)).toNatClampNeg) (((Int32.toInt64 (xs (nI (i + 3)).toNatClampNeg)) <<< (Int32.toInt64 (32 : Int32) &&& 63)) ||| ((Int32.toInt64 (xs (nI (i + 4)).toNatClampNeg)) &&& (4294967295 : Int64))) h
  refine lv_aload_n hx hb dL_law_1363 rfl (lv_at hl 2 rfl) ?_
  refine lv_aload_n hx hb dL_law_1364 rfl (lv_at hl 3 rfl) ?_
  refine lv_iload_n hx hb dL_law_1365 rfl (lv_at hl 0 rfl) ?_
  refine lv_iconst (v := (1 : Int32)) hx hb dL_law_1366 (by decide) ?_
  refine lv_iadd hx hb dL_law_1367 ?_
  refine tx_i (x := nI (i + 1)) (lw_p 1 rfl) ?_
  refine va_sld hx hb hX hbl hbA hS (lw_in 1 hi hL (by decide)) dL_law_1368 ?_
  refine lv_aload_n hx hb dL_law_1369 rfl (lv_at hl 3 rfl) ?_
  refine lv_iload_n hx hb dL_law_1370 rfl (lv_at hl 0 rfl) ?_
  refine lv_iconst (v := (2 : Int32)) hx hb dL_law_1371 (by decide) ?_
  refine lv_iadd hx hb dL_law_1372 ?_
  refine tx_i (x := nI (i + 2)) (lw_p 2 rfl) ?_
  refine va_sld hx hb hX hbl hbA hS (lw_in 2 hi hL (by decide)) dL_law_1373 ?_
  refine lv_aload_n hx hb dL_law_1374 rfl (lv_at hl 3 rfl) ?_
  refine lv_iload_n hx hb dL_law_1375 rfl (lv_at hl 0 rfl) ?_
  refine lv_iconst (v := (3 : Int32)) hx hb dL_law_1376 (by decide) ?_
  refine lv_iadd hx hb dL_law_1377 ?_
  refine tx_i (x := nI (i + 3)) (lw_p 3 rfl) ?_
  refine va_sld hx hb hX hbl hbA hS (lw_in 3 hi hL (by decide)) dL_law_1378 ?_
  refine lv_i2l (v := (Int32.toInt64 (xs (nI (i + 3)).toNatClampNeg))) hx hb dL_law_1379 rfl ?_
  refine lv_bipush (v := (32 : Int32)) hx hb dL_law_1380 (by decide) ?_
  refine lv_lshl (v := ((Int32.toInt64 (xs (nI (i + 3)).toNatClampNeg)) <<< (Int32.toInt64 (32 : Int32) &&& 63))) hx hb dL_law_1382 rfl ?_
  refine lv_aload_n hx hb dL_law_1383 rfl (lv_at hl 3 rfl) ?_
  refine lv_iload_n hx hb dL_law_1384 rfl (lv_at hl 0 rfl) ?_
  refine lv_iconst (v := (4 : Int32)) hx hb dL_law_1385 (by decide) ?_
  refine lv_iadd hx hb dL_law_1386 ?_
  refine tx_i (x := nI (i + 4)) (lw_p 4 rfl) ?_
  refine va_sld hx hb hX hbl hbA hS (lw_in 4 hi hL (by decide)) dL_law_1387 ?_
  refine lv_i2l (v := (Int32.toInt64 (xs (nI (i + 4)).toNatClampNeg))) hx hb dL_law_1388 rfl ?_
  refine lv_ldc2 (v := (4294967295 : Int64)) hx hb hown (hts (.constantLong RL 158 (4294967295)) (chk_in 7 _ (List.mem_of_getElem? (i := 94) rfl))) dL_law_1389 ?_
  refine lv_land hx hb dL_law_1392 ?_
  refine lv_lor hx hb dL_law_1393 ?_
  refine law_i (Wd := W_X) (V := (W_M q2 k T)) SX_ok sameX ⟨hx, hb, hml, hown, hts⟩ (c_X11_put l D q k (xs (nI (i + 1)).toNatClampNeg) (xs (nI (i + 2)).toNatClampNeg) (((Int32.toInt64 (xs (nI (i + 3)).toNatClampNeg)) <<< (Int32.toInt64 (32 : Int32) &&& 63)) ||| ((Int32.toInt64 (xs (nI (i + 4)).toNatClampNeg)) &&& (4294967295 : Int64))) S H.size (r, S2) e1) (cwV 3 hts gL_law_X11_put rfl rfl rfl (by decide +kernel) ⟨Nat.le_of_ble_eq_true rfl, Nat.le_of_ble_eq_true rfl⟩) hK hP hV (hDX S T) hS hA hsp (va_recv hK hP (ci := 11) (q0 := 0) rfl rfl) (As := [.int (xs (nI (i + 1)).toNatClampNeg), .int (xs (nI (i + 2)).toNatClampNeg), .long (((Int32.toInt64 (xs (nI (i + 3)).toNatClampNeg)) <<< (Int32.toInt64 (32 : Int32) &&& 63)) ||| ((Int32.toInt64 (xs (nI (i + 4)).toNatClampNeg)) &&& (4294967295 : Int64)))]) rfl hl.1 rfl (Nat.le_of_ble_eq_true rfl) dL_law_1394 ⟨Nat.le_of_ble_eq_true rfl, Nat.le_of_ble_eq_true rfl⟩ (fun H locs hP hV hS => ?_)
  refine lv_aload_n hx hb dL_law_1397 rfl (lv_at hl 1 rfl) ?_
  refine lv_aload_n hx hb dL_law_1398 rfl (lv_at hl 3 rfl) ?_
  refine lv_iload_n hx hb dL_law_1399 rfl (lv_at hl 0 rfl) ?_
  refine lv_iconst (v := (1 : Int32)) hx hb dL_law_1400 (by decide) ?_
  refine lv_iadd hx hb dL_law_1401 ?_
  refine tx_i (x := nI (i + 1)) (lw_p 1 rfl) ?_
  refine va_sld hx hb hX hbl hbA hS (lw_in 1 hi hL (by decide)) dL_law_1402 ?_
  refine lv_aload_n hx hb dL_law_1403 rfl (lv_at hl 3 rfl) ?_
  refine lv_iload_n hx hb dL_law_1404 rfl (lv_at hl 0 rfl) ?_
  refine lv_iconst (v := (2 : Int32)) hx hb dL_law_1405 (by decide) ?_
  refine lv_iadd hx hb dL_law_1406 ?_
  refine tx_i (x := nI (i + 2)) (lw_p 2 rfl) ?_
  refine va_sld hx hb hX hbl hbA hS (lw_in 2 hi hL (by decide)) dL_law_1407 ?_
  refine lv_aload_n hx hb dL_law_1408 rfl (lv_at hl 3 rfl) ?_
  refine lv_iload_n hx hb dL_law_1409 rfl (lv_at hl 0 rfl) ?_
  refine lv_iconst (v := (3 : Int32)) hx hb dL_law_1410 (by decide) ?_
  refine lv_iadd hx hb dL_law_1411 ?_
  refine tx_i (x := nI (i + 3)) (lw_p 3 rfl) ?_
  refine va_sld hx hb hX hbl hbA hS (lw_in 3 hi hL (by decide)) dL_law_1412 ?_
  refine lv_i2l (v := (Int32.toInt64 (xs (nI (i + 3)).toNatClampNeg))) hx hb dL_law_1413 rfl ?_
  refine lv_bipush (v := (32 : Int32)) hx hb dL_law_1414 (by decide) ?_
  refine lv_lshl (v := ((Int32.toInt64 (xs (nI (i + 3)).toNatClampNeg)) <<< (Int32.toInt64 (32 : Int32) &&& 63))) hx hb dL_law_1416 rfl ?_
  refine lv_aload_n hx hb dL_law_1417 rfl (lv_at hl 3 rfl) ?_
  refine lv_iload_n hx hb dL_law_1418 rfl (lv_at hl 0 rfl) ?_
  refine lv_iconst (v := (4 : Int32)) hx hb dL_law_1419 (by decide) ?_
  refine lv_iadd hx hb dL_law_1420 ?_
  refine tx_i (x := nI (i + 4)) (lw_p 4 rfl) ?_
  refine va_sld hx hb hX hbl hbA hS (lw_in 4 hi hL (by decide)) dL_law_1421 ?_
  refine lv_i2l (v := (Int32.toInt64 (xs (nI (i + 4)).toNatClampNeg))) hx hb dL_law_1422 rfl ?_
  refine lv_ldc2 (v := (4294967295 : Int64)) hx hb hown (hts (.constantLong RL 158 (4294967295)) (chk_in 7 _ (List.mem_of_getElem? (i := 94) rfl))) dL_law_1423 ?_
  refine lv_land hx hb dL_law_1426 ?_
  refine lv_lor hx hb dL_law_1427 ?_
  refine law_i (Wd := W_M) (V := (W_X q k S2)) SM_ok sameM ⟨hx, hb, hml, hown, hts⟩ (c_X12_put l D q2 k (xs (nI (i + 1)).toNatClampNeg) (xs (nI (i + 2)).toNatClampNeg) (((Int32.toInt64 (xs (nI (i + 3)).toNatClampNeg)) <<< (Int32.toInt64 (32 : Int32) &&& 63)) ||| ((Int32.toInt64 (xs (nI (i + 4)).toNatClampNeg)) &&& (4294967295 : Int64))) T H.size (r, T2) e2) (cwV 3 hts gL_law_X12_put rfl rfl rfl (by decide +kernel) ⟨Nat.le_of_ble_eq_true rfl, Nat.le_of_ble_eq_true rfl⟩) hK hV hP (hDM S2 T) hS hA trivial (va_recv hK hV (ci := 12) (q0 := 0) rfl rfl) (As := [.int (xs (nI (i + 1)).toNatClampNeg), .int (xs (nI (i + 2)).toNatClampNeg), .long (((Int32.toInt64 (xs (nI (i + 3)).toNatClampNeg)) <<< (Int32.toInt64 (32 : Int32) &&& 63)) ||| ((Int32.toInt64 (xs (nI (i + 4)).toNatClampNeg)) &&& (4294967295 : Int64)))]) rfl hl.1 rfl (Nat.le_of_ble_eq_true rfl) dL_law_1428 ⟨Nat.le_of_ble_eq_true rfl, Nat.le_of_ble_eq_true rfl⟩ (fun H locs hV hP hS => ?_)
  exact lv_icmp_eq (tgt := 1589) hx hb dL_law_1431 (by decide) (fun _ => kk S2 T2 H locs hR hP hV hS) (fun h9 => absurd rfl h9)
set_option maxHeartbeats 4000000 in
set_option maxRecDepth 100000 in
theorem law_case_36 (C0 : LC p s m c b L xs D q q2 k) (hi : i + 6 ≤ L) (h : RR RxC S T) (hP : va_P D vwCl (W_X q k S) H) (hV : va_P D vwCl (W_M q2 k T) H) (hS : va_S (AL s) s.heap H locs) (hl : lv_has ls 4 [(3, .int (nI i)), (2, .ref (q2 0)), (1, .ref (q 0)), (0, .ref b)]) (kk : ∀ (S2 T2 : St) (H : Heap) (locs : List Loc), RR RxC S2 T2 → va_P D vwCl (W_X q k S2) H → va_P D vwCl (W_M q2 k T2) H → va_S (AL s) s.heap H locs → W p l e room_1 s m #[Value.ref b] below meth c H locs 95 26919 Q (F0 m 1589 ls [])) : W p l e room_1 s m #[Value.ref b] below meth c H locs 95 26919 Q (F0 m 1436 ls []) := by
  obtain ⟨hx, hb, hml, hown, hts, hX, hbl, hK, hDX, hDM, hsp, hL⟩ := C0
  have hA : ∀ a, s.heap.size ≤ a → AL s a := fun _ h => h
  have hbA : ¬ AL s b := Nat.not_le.mpr hbl
  obtain ⟨r, S2, T2, e1, e2, hR⟩ := op_element (xs (nI (i + 1)).toNatClampNeg) (xs (nI (i + 2)).toNatClampNeg) h
  refine lv_aload_n hx hb dL_law_1436 rfl (lv_at hl 2 rfl) ?_
  refine lv_aload_n hx hb dL_law_1437 rfl (lv_at hl 3 rfl) ?_
  refine lv_iload_n hx hb dL_law_1438 rfl (lv_at hl 0 rfl) ?_
  refine lv_iconst (v := (1 : Int32)) hx hb dL_law_1439 (by decide) ?_
  refine lv_iadd hx hb dL_law_1440 ?_
  refine tx_i (x := nI (i + 1)) (lw_p 1 rfl) ?_
  refine va_sld hx hb hX hbl hbA hS (lw_in 1 hi hL (by decide)) dL_law_1441 ?_
  refine lv_aload_n hx hb dL_law_1442 rfl (lv_at hl 3 rfl) ?_
  refine lv_iload_n hx hb dL_law_1443 rfl (lv_at hl 0 rfl) ?_
  refine lv_iconst (v := (2 : Int32)) hx hb dL_law_1444 (by decide) ?_
  refine lv_iadd hx hb dL_law_1445 ?_
  refine tx_i (x := nI (i + 2)) (lw_p 2 rfl) ?_
  refine va_sld hx hb hX hbl hbA hS (lw_in 2 hi hL (by decide)) dL_law_1446 ?_
  refine law_l (Wd := W_X) (V := (W_M q2 k T)) SX_ok sameX ⟨hx, hb, hml, hown, hts⟩ (c_X11_element l D q k (xs (nI (i + 1)).toNatClampNeg) (xs (nI (i + 2)).toNatClampNeg) S H.size (r, S2) e1) (cwV 2 hts gL_law_X11_element rfl rfl rfl (by decide +kernel) ⟨Nat.le_of_ble_eq_true rfl, Nat.le_of_ble_eq_true rfl⟩) hK hP hV (hDX S T) hS hA hsp (va_recv hK hP (ci := 11) (q0 := 0) rfl rfl) (As := [.int (xs (nI (i + 1)).toNatClampNeg), .int (xs (nI (i + 2)).toNatClampNeg)]) rfl hl.1 rfl (Nat.le_of_ble_eq_true rfl) dL_law_1447 ⟨Nat.le_of_ble_eq_true rfl, Nat.le_of_ble_eq_true rfl⟩ (fun H locs hP hV hS => ?_)
  refine lv_aload_n hx hb dL_law_1450 rfl (lv_at hl 1 rfl) ?_
  refine lv_aload_n hx hb dL_law_1451 rfl (lv_at hl 3 rfl) ?_
  refine lv_iload_n hx hb dL_law_1452 rfl (lv_at hl 0 rfl) ?_
  refine lv_iconst (v := (1 : Int32)) hx hb dL_law_1453 (by decide) ?_
  refine lv_iadd hx hb dL_law_1454 ?_
  refine tx_i (x := nI (i + 1)) (lw_p 1 rfl) ?_
  refine va_sld hx hb hX hbl hbA hS (lw_in 1 hi hL (by decide)) dL_law_1455 ?_
  refine lv_aload_n hx hb dL_law_1456 rfl (lv_at hl 3 rfl) ?_
  refine lv_iload_n hx hb dL_law_1457 rfl (lv_at hl 0 rfl) ?_
  refine lv_iconst (v := (2 : Int32)) hx hb dL_law_1458 (by decide) ?_
  refine lv_iadd hx hb dL_law_1459 ?_
  refine tx_i (x := nI (i + 2)) (lw_p 2 rfl) ?_
  refine va_sld hx hb hX hbl hbA hS (lw_in 2 hi hL (by decide)) dL_law_1460 ?_
  refine law_l (Wd := W_M) (V := (W_X q k S2)) SM_ok sameM ⟨hx, hb, hml, hown, hts⟩ (c_X12_element l D q2 k (xs (nI (i + 1)).toNatClampNeg) (xs (nI (i + 2)).toNatClampNeg) T H.size (r, T2) e2) (cwV 2 hts gL_law_X12_element rfl rfl rfl (by decide +kernel) ⟨Nat.le_of_ble_eq_true rfl, Nat.le_of_ble_eq_true rfl⟩) hK hV hP (hDM S2 T) hS hA trivial (va_recv hK hV (ci := 12) (q0 := 0) rfl rfl) (As := [.int (xs (nI (i + 1)).toNatClampNeg), .int (xs (nI (i + 2)).toNatClampNeg)]) rfl hl.1 rfl (Nat.le_of_ble_eq_true rfl) dL_law_1461 ⟨Nat.le_of_ble_eq_true rfl, Nat.le_of_ble_eq_true rfl⟩ (fun H locs hV hP hS => ?_)
  refine W.lcmp hx hb dL_law_1464 ?_
  exact lv_if_eq (tgt := 1589) hx hb dL_law_1465 (by decide) (fun _ => kk S2 T2 H locs hR hP hV hS) (fun h9 => absurd (lw_cmp r) h9)
set_option maxHeartbeats 4000000 in
set_option maxRecDepth 100000 in
theorem law_case_37 (C0 : LC p s m c b L xs D q q2 k) (hi : i + 6 ≤ L) (h : RR RxC S T) (hP : va_P D vwCl (W_X q k S) H) (hV : va_P D vwCl (W_M q2 k T) H) (hS : va_S (AL s) s.heap H locs) (hl : lv_has ls 4 [(3, .int (nI i)), (2, .ref (q2 0)), (1, .ref (q 0)), (0, .ref b)]) (kk : ∀ (S2 T2 : St) (H : Heap) (locs : List Loc), RR RxC S2 T2 → va_P D vwCl (W_X q k S2) H → va_P D vwCl (W_M q2 k T2) H → va_S (AL s) s.heap H locs → W p l e room_1 s m #[Value.ref b] below meth c H locs 95 26919 Q (F0 m 1589 ls [])) : W p l e room_1 s m #[Value.ref b] below meth c H locs 95 26919 Q (F0 m 1470 ls []) := by
  obtain ⟨hx, hb, hml, hown, hts, hX, hbl, hK, hDX, hDM, hsp, hL⟩ := C0
  have hA : ∀ a, s.heap.size ≤ a → AL s a := fun _ h => h
  have hbA : ¬ AL s b := Nat.not_le.mpr hbl
  obtain ⟨r, S2, T2, e1, e2, hR⟩ := op_shift FxC (xs (nI (i + 1)).toNatClampNeg) (xs (nI (i + 2)).toNatClampNeg) (xs (nI (i + 3)).toNatClampNeg) (xs (nI (i + 4)).toNatClampNeg) (xs (nI (i + 5)).toNatClampNeg) h
  refine lv_aload_n hx hb dL_law_1470 rfl (lv_at hl 2 rfl) ?_
  refine lv_aload_n hx hb dL_law_1471 rfl (lv_at hl 3 rfl) ?_
  refine lv_iload_n hx hb dL_law_1472 rfl (lv_at hl 0 rfl) ?_
  refine lv_iconst (v := (1 : Int32)) hx hb dL_law_1473 (by decide) ?_
  refine lv_iadd hx hb dL_law_1474 ?_
  refine tx_i (x := nI (i + 1)) (lw_p 1 rfl) ?_
  refine va_sld hx hb hX hbl hbA hS (lw_in 1 hi hL (by decide)) dL_law_1475 ?_
  refine lv_aload_n hx hb dL_law_1476 rfl (lv_at hl 3 rfl) ?_
  refine lv_iload_n hx hb dL_law_1477 rfl (lv_at hl 0 rfl) ?_
  refine lv_iconst (v := (2 : Int32)) hx hb dL_law_1478 (by decide) ?_
  refine lv_iadd hx hb dL_law_1479 ?_
  refine tx_i (x := nI (i + 2)) (lw_p 2 rfl) ?_
  refine va_sld hx hb hX hbl hbA hS (lw_in 2 hi hL (by decide)) dL_law_1480 ?_
  refine lv_aload_n hx hb dL_law_1481 rfl (lv_at hl 3 rfl) ?_
  refine lv_iload_n hx hb dL_law_1482 rfl (lv_at hl 0 rfl) ?_
  refine lv_iconst (v := (3 : Int32)) hx hb dL_law_1483 (by decide) ?_
  refine lv_iadd hx hb dL_law_1484 ?_
  refine tx_i (x := nI (i + 3)) (lw_p 3 rfl) ?_
  refine va_sld hx hb hX hbl hbA hS (lw_in 3 hi hL (by decide)) dL_law_1485 ?_
  refine lv_aload_n hx hb dL_law_1486 rfl (lv_at hl 3 rfl) ?_
  refine lv_iload_n hx hb dL_law_1487 rfl (lv_at hl 0 rfl) ?_
  refine lv_iconst (v := (4 : Int32)) hx hb dL_law_1488 (by decide) ?_
  refine lv_iadd hx hb dL_law_1489 ?_
  refine tx_i (x := nI (i + 4)) (lw_p 4 rfl) ?_
  refine va_sld hx hb hX hbl hbA hS (lw_in 4 hi hL (by decide)) dL_law_1490 ?_
  refine lv_aload_n hx hb dL_law_1491 rfl (lv_at hl 3 rfl) ?_
  refine lv_iload_n hx hb dL_law_1492 rfl (lv_at hl 0 rfl) ?_
  refine lv_iconst (v := (5 : Int32)) hx hb dL_law_1493 (by decide) ?_
  refine lv_iadd hx hb dL_law_1494 ?_
  refine tx_i (x := nI (i + 5)) (lw_p 5 rfl) ?_
  refine va_sld hx hb hX hbl hbA hS (lw_in 5 hi hL (by decide)) dL_law_1495 ?_
  refine law_i (Wd := W_X) (V := (W_M q2 k T)) SX_ok sameX ⟨hx, hb, hml, hown, hts⟩ (c_X11_shift l D q k (xs (nI (i + 1)).toNatClampNeg) (xs (nI (i + 2)).toNatClampNeg) (xs (nI (i + 3)).toNatClampNeg) (xs (nI (i + 4)).toNatClampNeg) (xs (nI (i + 5)).toNatClampNeg) S H.size (r, S2) e1) (cwV 5 hts gL_law_X11_shift rfl rfl rfl (by decide +kernel) ⟨Nat.le_of_ble_eq_true rfl, Nat.le_of_ble_eq_true rfl⟩) hK hP hV (hDX S T) hS hA hsp (va_recv hK hP (ci := 11) (q0 := 0) rfl rfl) (As := [.int (xs (nI (i + 1)).toNatClampNeg), .int (xs (nI (i + 2)).toNatClampNeg), .int (xs (nI (i + 3)).toNatClampNeg), .int (xs (nI (i + 4)).toNatClampNeg), .int (xs (nI (i + 5)).toNatClampNeg)]) rfl hl.1 rfl (Nat.le_of_ble_eq_true rfl) dL_law_1496 ⟨Nat.le_of_ble_eq_true rfl, Nat.le_of_ble_eq_true rfl⟩ (fun H locs hP hV hS => ?_)
  refine lv_aload_n hx hb dL_law_1499 rfl (lv_at hl 1 rfl) ?_
  refine lv_aload_n hx hb dL_law_1500 rfl (lv_at hl 3 rfl) ?_
  refine lv_iload_n hx hb dL_law_1501 rfl (lv_at hl 0 rfl) ?_
  refine lv_iconst (v := (1 : Int32)) hx hb dL_law_1502 (by decide) ?_
  refine lv_iadd hx hb dL_law_1503 ?_
  refine tx_i (x := nI (i + 1)) (lw_p 1 rfl) ?_
  refine va_sld hx hb hX hbl hbA hS (lw_in 1 hi hL (by decide)) dL_law_1504 ?_
  refine lv_aload_n hx hb dL_law_1505 rfl (lv_at hl 3 rfl) ?_
  refine lv_iload_n hx hb dL_law_1506 rfl (lv_at hl 0 rfl) ?_
  refine lv_iconst (v := (2 : Int32)) hx hb dL_law_1507 (by decide) ?_
  refine lv_iadd hx hb dL_law_1508 ?_
  refine tx_i (x := nI (i + 2)) (lw_p 2 rfl) ?_
  refine va_sld hx hb hX hbl hbA hS (lw_in 2 hi hL (by decide)) dL_law_1509 ?_
  refine lv_aload_n hx hb dL_law_1510 rfl (lv_at hl 3 rfl) ?_
  refine lv_iload_n hx hb dL_law_1511 rfl (lv_at hl 0 rfl) ?_
  refine lv_iconst (v := (3 : Int32)) hx hb dL_law_1512 (by decide) ?_
  refine lv_iadd hx hb dL_law_1513 ?_
  refine tx_i (x := nI (i + 3)) (lw_p 3 rfl) ?_
  refine va_sld hx hb hX hbl hbA hS (lw_in 3 hi hL (by decide)) dL_law_1514 ?_
  refine lv_aload_n hx hb dL_law_1515 rfl (lv_at hl 3 rfl) ?_
  refine lv_iload_n hx hb dL_law_1516 rfl (lv_at hl 0 rfl) ?_
  refine lv_iconst (v := (4 : Int32)) hx hb dL_law_1517 (by decide) ?_
  refine lv_iadd hx hb dL_law_1518 ?_
  refine tx_i (x := nI (i + 4)) (lw_p 4 rfl) ?_
  refine va_sld hx hb hX hbl hbA hS (lw_in 4 hi hL (by decide)) dL_law_1519 ?_
  refine lv_aload_n hx hb dL_law_1520 rfl (lv_at hl 3 rfl) ?_
  refine lv_iload_n hx hb dL_law_1521 rfl (lv_at hl 0 rfl) ?_
  refine lv_iconst (v := (5 : Int32)) hx hb dL_law_1522 (by decide) ?_
  refine lv_iadd hx hb dL_law_1523 ?_
  refine tx_i (x := nI (i + 5)) (lw_p 5 rfl) ?_
  refine va_sld hx hb hX hbl hbA hS (lw_in 5 hi hL (by decide)) dL_law_1524 ?_
  refine law_i (Wd := W_M) (V := (W_X q k S2)) SM_ok sameM ⟨hx, hb, hml, hown, hts⟩ (c_X12_shift l D q2 k (xs (nI (i + 1)).toNatClampNeg) (xs (nI (i + 2)).toNatClampNeg) (xs (nI (i + 3)).toNatClampNeg) (xs (nI (i + 4)).toNatClampNeg) (xs (nI (i + 5)).toNatClampNeg) T H.size (r, T2) e2) (cwV 5 hts gL_law_X12_shift rfl rfl rfl (by decide +kernel) ⟨Nat.le_of_ble_eq_true rfl, Nat.le_of_ble_eq_true rfl⟩) hK hV hP (hDM S2 T) hS hA trivial (va_recv hK hV (ci := 12) (q0 := 0) rfl rfl) (As := [.int (xs (nI (i + 1)).toNatClampNeg), .int (xs (nI (i + 2)).toNatClampNeg), .int (xs (nI (i + 3)).toNatClampNeg), .int (xs (nI (i + 4)).toNatClampNeg), .int (xs (nI (i + 5)).toNatClampNeg)]) rfl hl.1 rfl (Nat.le_of_ble_eq_true rfl) dL_law_1525 ⟨Nat.le_of_ble_eq_true rfl, Nat.le_of_ble_eq_true rfl⟩ (fun H locs hV hP hS => ?_)
  exact lv_icmp_eq (tgt := 1589) hx hb dL_law_1528 (by decide) (fun _ => kk S2 T2 H locs hR hP hV hS) (fun h9 => absurd rfl h9)
set_option maxHeartbeats 4000000 in
set_option maxRecDepth 100000 in
theorem law_case_38 (C0 : LC p s m c b L xs D q q2 k) (hi : i + 6 ≤ L) (h : RR RxC S T) (hP : va_P D vwCl (W_X q k S) H) (hV : va_P D vwCl (W_M q2 k T) H) (hS : va_S (AL s) s.heap H locs) (hl : lv_has ls 4 [(3, .int (nI i)), (2, .ref (q2 0)), (1, .ref (q 0)), (0, .ref b)]) (kk : ∀ (S2 T2 : St) (H : Heap) (locs : List Loc), RR RxC S2 T2 → va_P D vwCl (W_X q k S2) H → va_P D vwCl (W_M q2 k T2) H → va_S (AL s) s.heap H locs → W p l e room_1 s m #[Value.ref b] below meth c H locs 95 26919 Q (F0 m 1589 ls [])) : W p l e room_1 s m #[Value.ref b] below meth c H locs 95 26919 Q (F0 m 1533 ls []) := by
  obtain ⟨hx, hb, hml, hown, hts, hX, hbl, hK, hDX, hDM, hsp, hL⟩ := C0
  have hA : ∀ a, s.heap.size ≤ a → AL s a := fun _ h => h
  have hbA : ¬ AL s b := Nat.not_le.mpr hbl
  obtain ⟨r, S2, T2, e1, e2, hR⟩ := op_taken FxC (xs (nI (i + 1)).toNatClampNeg) (xs (nI (i + 2)).toNatClampNeg) h
  refine lv_aload_n hx hb dL_law_1533 rfl (lv_at hl 2 rfl) ?_
  refine lv_aload_n hx hb dL_law_1534 rfl (lv_at hl 3 rfl) ?_
  refine lv_iload_n hx hb dL_law_1535 rfl (lv_at hl 0 rfl) ?_
  refine lv_iconst (v := (1 : Int32)) hx hb dL_law_1536 (by decide) ?_
  refine lv_iadd hx hb dL_law_1537 ?_
  refine tx_i (x := nI (i + 1)) (lw_p 1 rfl) ?_
  refine va_sld hx hb hX hbl hbA hS (lw_in 1 hi hL (by decide)) dL_law_1538 ?_
  refine lv_aload_n hx hb dL_law_1539 rfl (lv_at hl 3 rfl) ?_
  refine lv_iload_n hx hb dL_law_1540 rfl (lv_at hl 0 rfl) ?_
  refine lv_iconst (v := (2 : Int32)) hx hb dL_law_1541 (by decide) ?_
  refine lv_iadd hx hb dL_law_1542 ?_
  refine tx_i (x := nI (i + 2)) (lw_p 2 rfl) ?_
  refine va_sld hx hb hX hbl hbA hS (lw_in 2 hi hL (by decide)) dL_law_1543 ?_
  refine law_i (Wd := W_X) (V := (W_M q2 k T)) SX_ok sameX ⟨hx, hb, hml, hown, hts⟩ (c_X11_taken l D q k (xs (nI (i + 1)).toNatClampNeg) (xs (nI (i + 2)).toNatClampNeg) S H.size (r, S2) e1) (cwV 2 hts gL_law_X11_taken rfl rfl rfl (by decide +kernel) ⟨Nat.le_of_ble_eq_true rfl, Nat.le_of_ble_eq_true rfl⟩) hK hP hV (hDX S T) hS hA hsp (va_recv hK hP (ci := 11) (q0 := 0) rfl rfl) (As := [.int (xs (nI (i + 1)).toNatClampNeg), .int (xs (nI (i + 2)).toNatClampNeg)]) rfl hl.1 rfl (Nat.le_of_ble_eq_true rfl) dL_law_1544 ⟨Nat.le_of_ble_eq_true rfl, Nat.le_of_ble_eq_true rfl⟩ (fun H locs hP hV hS => ?_)
  refine lv_aload_n hx hb dL_law_1547 rfl (lv_at hl 1 rfl) ?_
  refine lv_aload_n hx hb dL_law_1548 rfl (lv_at hl 3 rfl) ?_
  refine lv_iload_n hx hb dL_law_1549 rfl (lv_at hl 0 rfl) ?_
  refine lv_iconst (v := (1 : Int32)) hx hb dL_law_1550 (by decide) ?_
  refine lv_iadd hx hb dL_law_1551 ?_
  refine tx_i (x := nI (i + 1)) (lw_p 1 rfl) ?_
  refine va_sld hx hb hX hbl hbA hS (lw_in 1 hi hL (by decide)) dL_law_1552 ?_
  refine lv_aload_n hx hb dL_law_1553 rfl (lv_at hl 3 rfl) ?_
  refine lv_iload_n hx hb dL_law_1554 rfl (lv_at hl 0 rfl) ?_
  refine lv_iconst (v := (2 : Int32)) hx hb dL_law_1555 (by decide) ?_
  refine lv_iadd hx hb dL_law_1556 ?_
  refine tx_i (x := nI (i + 2)) (lw_p 2 rfl) ?_
  refine va_sld hx hb hX hbl hbA hS (lw_in 2 hi hL (by decide)) dL_law_1557 ?_
  refine law_i (Wd := W_M) (V := (W_X q k S2)) SM_ok sameM ⟨hx, hb, hml, hown, hts⟩ (c_X12_taken l D q2 k (xs (nI (i + 1)).toNatClampNeg) (xs (nI (i + 2)).toNatClampNeg) T H.size (r, T2) e2) (cwV 2 hts gL_law_X12_taken rfl rfl rfl (by decide +kernel) ⟨Nat.le_of_ble_eq_true rfl, Nat.le_of_ble_eq_true rfl⟩) hK hV hP (hDM S2 T) hS hA trivial (va_recv hK hV (ci := 12) (q0 := 0) rfl rfl) (As := [.int (xs (nI (i + 1)).toNatClampNeg), .int (xs (nI (i + 2)).toNatClampNeg)]) rfl hl.1 rfl (Nat.le_of_ble_eq_true rfl) dL_law_1558 ⟨Nat.le_of_ble_eq_true rfl, Nat.le_of_ble_eq_true rfl⟩ (fun H locs hV hP hS => ?_)
  exact lv_icmp_eq (tgt := 1589) hx hb dL_law_1561 (by decide) (fun _ => kk S2 T2 H locs hR hP hV hS) (fun h9 => absurd rfl h9)
set_option maxHeartbeats 4000000 in
set_option maxRecDepth 100000 in
theorem law_case_39 (C0 : LC p s m c b L xs D q q2 k) (hi : i + 6 ≤ L) (h : RR RxC S T) (hP : va_P D vwCl (W_X q k S) H) (hV : va_P D vwCl (W_M q2 k T) H) (hS : va_S (AL s) s.heap H locs) (hl : lv_has ls 4 [(3, .int (nI i)), (2, .ref (q2 0)), (1, .ref (q 0)), (0, .ref b)]) (kk : ∀ (S2 T2 : St) (H : Heap) (locs : List Loc), RR RxC S2 T2 → va_P D vwCl (W_X q k S2) H → va_P D vwCl (W_M q2 k T2) H → va_S (AL s) s.heap H locs → W p l e room_1 s m #[Value.ref b] below meth c H locs 95 26919 Q (F0 m 1589 ls [])) : W p l e room_1 s m #[Value.ref b] below meth c H locs 95 26919 Q (F0 m 1566 ls []) := by
  obtain ⟨hx, hb, hml, hown, hts, hX, hbl, hK, hDX, hDM, hsp, hL⟩ := C0
  have hA : ∀ a, s.heap.size ≤ a → AL s a := fun _ h => h
  have hbA : ¬ AL s b := Nat.not_le.mpr hbl
  obtain ⟨r, S2, T2, e1, e2, hR⟩ := op_count FxC (xs (nI (i + 1)).toNatClampNeg) h
  refine lv_aload_n hx hb dL_law_1566 rfl (lv_at hl 2 rfl) ?_
  refine lv_aload_n hx hb dL_law_1567 rfl (lv_at hl 3 rfl) ?_
  refine lv_iload_n hx hb dL_law_1568 rfl (lv_at hl 0 rfl) ?_
  refine lv_iconst (v := (1 : Int32)) hx hb dL_law_1569 (by decide) ?_
  refine lv_iadd hx hb dL_law_1570 ?_
  refine tx_i (x := nI (i + 1)) (lw_p 1 rfl) ?_
  refine va_sld hx hb hX hbl hbA hS (lw_in 1 hi hL (by decide)) dL_law_1571 ?_
  refine law_i (Wd := W_X) (V := (W_M q2 k T)) SX_ok sameX ⟨hx, hb, hml, hown, hts⟩ (c_X11_count l D q k (xs (nI (i + 1)).toNatClampNeg) S H.size (r, S2) e1) (cwV 1 hts gL_law_X11_count rfl rfl rfl (by decide +kernel) ⟨Nat.le_of_ble_eq_true rfl, Nat.le_of_ble_eq_true rfl⟩) hK hP hV (hDX S T) hS hA hsp (va_recv hK hP (ci := 11) (q0 := 0) rfl rfl) (As := [.int (xs (nI (i + 1)).toNatClampNeg)]) rfl hl.1 rfl (Nat.le_of_ble_eq_true rfl) dL_law_1572 ⟨Nat.le_of_ble_eq_true rfl, Nat.le_of_ble_eq_true rfl⟩ (fun H locs hP hV hS => ?_)
  refine lv_aload_n hx hb dL_law_1575 rfl (lv_at hl 1 rfl) ?_
  refine lv_aload_n hx hb dL_law_1576 rfl (lv_at hl 3 rfl) ?_
  refine lv_iload_n hx hb dL_law_1577 rfl (lv_at hl 0 rfl) ?_
  refine lv_iconst (v := (1 : Int32)) hx hb dL_law_1578 (by decide) ?_
  refine lv_iadd hx hb dL_law_1579 ?_
  refine tx_i (x := nI (i + 1)) (lw_p 1 rfl) ?_
  refine va_sld hx hb hX hbl hbA hS (lw_in 1 hi hL (by decide)) dL_law_1580 ?_
  refine law_i (Wd := W_M) (V := (W_X q k S2)) SM_ok sameM ⟨hx, hb, hml, hown, hts⟩ (c_X12_count l D q2 k (xs (nI (i + 1)).toNatClampNeg) T H.size (r, T2) e2) (cwV 1 hts gL_law_X12_count rfl rfl rfl (by decide +kernel) ⟨Nat.le_of_ble_eq_true rfl, Nat.le_of_ble_eq_true rfl⟩) hK hV hP (hDM S2 T) hS hA trivial (va_recv hK hV (ci := 12) (q0 := 0) rfl rfl) (As := [.int (xs (nI (i + 1)).toNatClampNeg)]) rfl hl.1 rfl (Nat.le_of_ble_eq_true rfl) dL_law_1581 ⟨Nat.le_of_ble_eq_true rfl, Nat.le_of_ble_eq_true rfl⟩ (fun H locs hV hP hS => ?_)
  exact lv_icmp_eq (tgt := 1589) hx hb dL_law_1584 (by decide) (fun _ => kk S2 T2 H locs hR hP hV hS) (fun h9 => absurd rfl h9)
end
