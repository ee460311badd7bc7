section
variable {p : Program} {l : Launch} {e : Env} {s : State} {m : MethodId} {below : List Frame} {meth : Method} {c : Code} {H : Heap} {locs : List Loc} {Q : State → Prop} {ls : Array Slot} {b L i : Nat} {xs : Nat → Int32} {D : va_G} {q q2 : Nat → Nat} {k : CI} {S T : St}
set_option maxHeartbeats 4000000 in
set_option maxRecDepth 100000 in
theorem law_case_0 (C0 : LC p s m c b L xs D q q2 k) (hi : i + 6 ≤ L) (h : RR RxC S T) (hP : va_P D vwCl (W_X q k S) H) (hV : va_P D vwCl (W_M q2 k T) H) (hS : va_S (AL s) s.heap H locs) (hl : lv_has ls 4 [(3, .int (nI i)), (2, .ref (q2 0)), (1, .ref (q 0)), (0, .ref b)]) (kk : ∀ (S2 T2 : St) (H : Heap) (locs : List Loc), RR RxC S2 T2 → va_P D vwCl (W_X q k S2) H → va_P D vwCl (W_M q2 k T2) H → va_S (AL s) s.heap H locs → W p l e room_1 s m #[Value.ref b] below meth c H locs 95 26919 Q (F0 m 1589 ls [])) : W p l e room_1 s m #[Value.ref b] below meth c H locs 95 26919 Q (F0 m 208 ls []) := by
  obtain ⟨hx, hb, hml, hown, hts, hX, hbl, hK, hDX, hDM, hsp, hL⟩ := C0
  have hA : ∀ a, s.heap.size ≤ a → AL s a := fun _ h => h
  have hbA : ¬ AL s b := Nat.not_le.mpr hbl
  obtain ⟨r, S2, T2, e1, e2, hR⟩ := op_sort FxC (xs (nI (i + 1)).toNatClampNeg) (xs (nI (i + 2)).toNatClampNeg) h
  refine lv_aload_n hx hb dL_law_208 rfl (lv_at hl 2 rfl) ?_
  refine lv_aload_n hx hb dL_law_209 rfl (lv_at hl 3 rfl) ?_
  refine lv_iload_n hx hb dL_law_210 rfl (lv_at hl 0 rfl) ?_
  refine lv_iconst (v := (1 : Int32)) hx hb dL_law_211 (by decide) ?_
  refine lv_iadd hx hb dL_law_212 ?_
  refine tx_i (x := nI (i + 1)) (lw_p 1 rfl) ?_
  refine va_sld hx hb hX hbl hbA hS (lw_in 1 hi hL (by decide)) dL_law_213 ?_
  refine lv_aload_n hx hb dL_law_214 rfl (lv_at hl 3 rfl) ?_
  refine lv_iload_n hx hb dL_law_215 rfl (lv_at hl 0 rfl) ?_
  refine lv_iconst (v := (2 : Int32)) hx hb dL_law_216 (by decide) ?_
  refine lv_iadd hx hb dL_law_217 ?_
  refine tx_i (x := nI (i + 2)) (lw_p 2 rfl) ?_
  refine va_sld hx hb hX hbl hbA hS (lw_in 2 hi hL (by decide)) dL_law_218 ?_
  refine law_i (Wd := W_X) (V := (W_M q2 k T)) SX_ok sameX ⟨hx, hb, hml, hown, hts⟩ (c_X11_sort l D q k (xs (nI (i + 1)).toNatClampNeg) (xs (nI (i + 2)).toNatClampNeg) S H.size (r, S2) e1) (cwV 2 hts gL_law_X11_sort rfl rfl rfl (by decide +kernel) ⟨Nat.le_of_ble_eq_true rfl, Nat.le_of_ble_eq_true rfl⟩) hK hP hV (hDX S T) hS hA hsp (va_recv hK hP (ci := 11) (q0 := 0) rfl rfl) (As := [.int (xs (nI (i + 1)).toNatClampNeg), .int (xs (nI (i + 2)).toNatClampNeg)]) rfl hl.1 rfl (Nat.le_of_ble_eq_true rfl) dL_law_219 ⟨Nat.le_of_ble_eq_true rfl, Nat.le_of_ble_eq_true rfl⟩ (fun H locs hP hV hS => ?_)
  refine lv_aload_n hx hb dL_law_222 rfl (lv_at hl 1 rfl) ?_
  refine lv_aload_n hx hb dL_law_223 rfl (lv_at hl 3 rfl) ?_
  refine lv_iload_n hx hb dL_law_224 rfl (lv_at hl 0 rfl) ?_
  refine lv_iconst (v := (1 : Int32)) hx hb dL_law_225 (by decide) ?_
  refine lv_iadd hx hb dL_law_226 ?_
  refine tx_i (x := nI (i + 1)) (lw_p 1 rfl) ?_
  refine va_sld hx hb hX hbl hbA hS (lw_in 1 hi hL (by decide)) dL_law_227 ?_
  refine lv_aload_n hx hb dL_law_228 rfl (lv_at hl 3 rfl) ?_
  refine lv_iload_n hx hb dL_law_229 rfl (lv_at hl 0 rfl) ?_
  refine lv_iconst (v := (2 : Int32)) hx hb dL_law_230 (by decide) ?_
  refine lv_iadd hx hb dL_law_231 ?_
  refine tx_i (x := nI (i + 2)) (lw_p 2 rfl) ?_
  refine va_sld hx hb hX hbl hbA hS (lw_in 2 hi hL (by decide)) dL_law_232 ?_
  refine law_i (Wd := W_M) (V := (W_X q k S2)) SM_ok sameM ⟨hx, hb, hml, hown, hts⟩ (c_X12_sort l D q2 k (xs (nI (i + 1)).toNatClampNeg) (xs (nI (i + 2)).toNatClampNeg) T H.size (r, T2) e2) (cwV 2 hts gL_law_X12_sort rfl rfl rfl (by decide +kernel) ⟨Nat.le_of_ble_eq_true rfl, Nat.le_of_ble_eq_true rfl⟩) hK hV hP (hDM S2 T) hS hA trivial (va_recv hK hV (ci := 12) (q0 := 0) rfl rfl) (As := [.int (xs (nI (i + 1)).toNatClampNeg), .int (xs (nI (i + 2)).toNatClampNeg)]) rfl hl.1 rfl (Nat.le_of_ble_eq_true rfl) dL_law_233 ⟨Nat.le_of_ble_eq_true rfl, Nat.le_of_ble_eq_true rfl⟩ (fun H locs hV hP hS => ?_)
  exact lv_icmp_eq (tgt := 1589) hx hb dL_law_236 (by decide) (fun _ => kk S2 T2 H locs hR hP hV hS) (fun h9 => absurd rfl h9)
set_option maxHeartbeats 4000000 in
set_option maxRecDepth 100000 in
theorem law_case_1 (C0 : LC p s m c b L xs D q q2 k) (hi : i + 6 ≤ L) (h : RR RxC S T) (hP : va_P D vwCl (W_X q k S) H) (hV : va_P D vwCl (W_M q2 k T) H) (hS : va_S (AL s) s.heap H locs) (hl : lv_has ls 4 [(3, .int (nI i)), (2, .ref (q2 0)), (1, .ref (q 0)), (0, .ref b)]) (kk : ∀ (S2 T2 : St) (H : Heap) (locs : List Loc), RR RxC S2 T2 → va_P D vwCl (W_X q k S2) H → va_P D vwCl (W_M q2 k T2) H → va_S (AL s) s.heap H locs → W p l e room_1 s m #[Value.ref b] below meth c H locs 95 26919 Q (F0 m 1589 ls [])) : W p l e room_1 s m #[Value.ref b] below meth c H locs 95 26919 Q (F0 m 241 ls []) := by
  obtain ⟨hx, hb, hml, hown, hts, hX, hbl, hK, hDX, hDM, hsp, hL⟩ := C0
  have hA : ∀ a, s.heap.size ≤ a → AL s a := fun _ h => h
  have hbA : ¬ AL s b := Nat.not_le.mpr hbl
  obtain ⟨r, S2, T2, e1, e2, hR⟩ := op_sorts (xs (nI (i + 1)).toNatClampNeg) (xs (nI (i + 2)).toNatClampNeg) (xs (nI (i + 3)).toNatClampNeg) h
  refine lv_aload_n hx hb dL_law_241 rfl (lv_at hl 2 rfl) ?_
  refine lv_aload_n hx hb dL_law_242 rfl (lv_at hl 3 rfl) ?_
  refine lv_iload_n hx hb dL_law_243 rfl (lv_at hl 0 rfl) ?_
  refine lv_iconst (v := (1 : Int32)) hx hb dL_law_244 (by decide) ?_
  refine lv_iadd hx hb dL_law_245 ?_
  refine tx_i (x := nI (i + 1)) (lw_p 1 rfl) ?_
  refine va_sld hx hb hX hbl hbA hS (lw_in 1 hi hL (by decide)) dL_law_246 ?_
  refine lv_aload_n hx hb dL_law_247 rfl (lv_at hl 3 rfl) ?_
  refine lv_iload_n hx hb dL_law_248 rfl (lv_at hl 0 rfl) ?_
  refine lv_iconst (v := (2 : Int32)) hx hb dL_law_249 (by decide) ?_
  refine lv_iadd hx hb dL_law_250 ?_
  refine tx_i (x := nI (i + 2)) (lw_p 2 rfl) ?_
  refine va_sld hx hb hX hbl hbA hS (lw_in 2 hi hL (by decide)) dL_law_251 ?_
  refine lv_aload_n hx hb dL_law_252 rfl (lv_at hl 3 rfl) ?_
  refine lv_iload_n hx hb dL_law_253 rfl (lv_at hl 0 rfl) ?_
  refine lv_iconst (v := (3 : Int32)) hx hb dL_law_254 (by decide) ?_
  refine lv_iadd hx hb dL_law_255 ?_
  refine tx_i (x := nI (i + 3)) (lw_p 3 rfl) ?_
  refine va_sld hx hb hX hbl hbA hS (lw_in 3 hi hL (by decide)) dL_law_256 ?_
  refine law_i (Wd := W_X) (V := (W_M q2 k T)) SX_ok sameX ⟨hx, hb, hml, hown, hts⟩ (c_X11_sorts l D q k (xs (nI (i + 1)).toNatClampNeg) (xs (nI (i + 2)).toNatClampNeg) (xs (nI (i + 3)).toNatClampNeg) S H.size (r, S2) e1) (cwV 3 hts gL_law_X11_sorts rfl rfl rfl (by decide +kernel) ⟨Nat.le_of_ble_eq_true rfl, Nat.le_of_ble_eq_true rfl⟩) hK hP hV (hDX S T) hS hA hsp (va_recv hK hP (ci := 11) (q0 := 0) rfl rfl) (As := [.int (xs (nI (i + 1)).toNatClampNeg), .int (xs (nI (i + 2)).toNatClampNeg), .int (xs (nI (i + 3)).toNatClampNeg)]) rfl hl.1 rfl (Nat.le_of_ble_eq_true rfl) dL_law_257 ⟨Nat.le_of_ble_eq_true rfl, Nat.le_of_ble_eq_true rfl⟩ (fun H locs hP hV hS => ?_)
  refine lv_aload_n hx hb dL_law_260 rfl (lv_at hl 1 rfl) ?_
  refine lv_aload_n hx hb dL_law_261 rfl (lv_at hl 3 rfl) ?_
  refine lv_iload_n hx hb dL_law_262 rfl (lv_at hl 0 rfl) ?_
  refine lv_iconst (v := (1 : Int32)) hx hb dL_law_263 (by decide) ?_
  refine lv_iadd hx hb dL_law_264 ?_
  refine tx_i (x := nI (i + 1)) (lw_p 1 rfl) ?_
  refine va_sld hx hb hX hbl hbA hS (lw_in 1 hi hL (by decide)) dL_law_265 ?_
  refine lv_aload_n hx hb dL_law_266 rfl (lv_at hl 3 rfl) ?_
  refine lv_iload_n hx hb dL_law_267 rfl (lv_at hl 0 rfl) ?_
  refine lv_iconst (v := (2 : Int32)) hx hb dL_law_268 (by decide) ?_
  refine lv_iadd hx hb dL_law_269 ?_
  refine tx_i (x := nI (i + 2)) (lw_p 2 rfl) ?_
  refine va_sld hx hb hX hbl hbA hS (lw_in 2 hi hL (by decide)) dL_law_270 ?_
  refine lv_aload_n hx hb dL_law_271 rfl (lv_at hl 3 rfl) ?_
  refine lv_iload_n hx hb dL_law_272 rfl (lv_at hl 0 rfl) ?_
  refine lv_iconst (v := (3 : Int32)) hx hb dL_law_273 (by decide) ?_
  refine lv_iadd hx hb dL_law_274 ?_
  refine tx_i (x := nI (i + 3)) (lw_p 3 rfl) ?_
  refine va_sld hx hb hX hbl hbA hS (lw_in 3 hi hL (by decide)) dL_law_275 ?_
  refine law_i (Wd := W_M) (V := (W_X q k S2)) SM_ok sameM ⟨hx, hb, hml, hown, hts⟩ (c_X12_sorts l D q2 k (xs (nI (i + 1)).toNatClampNeg) (xs (nI (i + 2)).toNatClampNeg) (xs (nI (i + 3)).toNatClampNeg) T H.size (r, T2) e2) (cwV 3 hts gL_law_X12_sorts rfl rfl rfl (by decide +kernel) ⟨Nat.le_of_ble_eq_true rfl, Nat.le_of_ble_eq_true rfl⟩) hK hV hP (hDM S2 T) hS hA trivial (va_recv hK hV (ci := 12) (q0 := 0) rfl rfl) (As := [.int (xs (nI (i + 1)).toNatClampNeg), .int (xs (nI (i + 2)).toNatClampNeg), .int (xs (nI (i + 3)).toNatClampNeg)]) rfl hl.1 rfl (Nat.le_of_ble_eq_true rfl) dL_law_276 ⟨Nat.le_of_ble_eq_true rfl, Nat.le_of_ble_eq_true rfl⟩ (fun H locs hV hP hS => ?_)
  exact lv_icmp_eq (tgt := 1589) hx hb dL_law_279 (by decide) (fun _ => kk S2 T2 H locs hR hP hV hS) (fun h9 => absurd rfl h9)
set_option maxHeartbeats 4000000 in
set_option maxRecDepth 100000 in
theorem law_case_2 (C0 : LC p s m c b L xs D q q2 k) (hi : i + 6 ≤ L) (h : RR RxC S T) (hP : va_P D vwCl (W_X q k S) H) (hV : va_P D vwCl (W_M q2 k T) H) (hS : va_S (AL s) s.heap H locs) (hl : lv_has ls 4 [(3, .int (nI i)), (2, .ref (q2 0)), (1, .ref (q 0)), (0, .ref b)]) (kk : ∀ (S2 T2 : St) (H : Heap) (locs : List Loc), RR RxC S2 T2 → va_P D vwCl (W_X q k S2) H → va_P D vwCl (W_M q2 k T2) H → va_S (AL s) s.heap H locs → W p l e room_1 s m #[Value.ref b] below meth c H locs 95 26919 Q (F0 m 1589 ls [])) : W p l e room_1 s m #[Value.ref b] below meth c H locs 95 26919 Q (F0 m 284 ls []) := by
  obtain ⟨hx, hb, hml, hown, hts, hX, hbl, hK, hDX, hDM, hsp, hL⟩ := C0
  have hA : ∀ a, s.heap.size ≤ a → AL s a := fun _ h => h
  have hbA : ¬ AL s b := Nat.not_le.mpr hbl
  obtain ⟨r, S2, T2, e1, e2, hR⟩ := op_purse FxC (xs (nI (i + 1)).toNatClampNeg) (xs (nI (i + 2)).toNatClampNeg) h
  refine lv_aload_n hx hb dL_law_284 rfl (lv_at hl 2 rfl) ?_
  refine lv_aload_n hx hb dL_law_285 rfl (lv_at hl 3 rfl) ?_
  refine lv_iload_n hx hb dL_law_286 rfl (lv_at hl 0 rfl) ?_
  refine lv_iconst (v := (1 : Int32)) hx hb dL_law_287 (by decide) ?_
  refine lv_iadd hx hb dL_law_288 ?_
  refine tx_i (x := nI (i + 1)) (lw_p 1 rfl) ?_
  refine va_sld hx hb hX hbl hbA hS (lw_in 1 hi hL (by decide)) dL_law_289 ?_
  refine lv_aload_n hx hb dL_law_290 rfl (lv_at hl 3 rfl) ?_
  refine lv_iload_n hx hb dL_law_291 rfl (lv_at hl 0 rfl) ?_
  refine lv_iconst (v := (2 : Int32)) hx hb dL_law_292 (by decide) ?_
  refine lv_iadd hx hb dL_law_293 ?_
  refine tx_i (x := nI (i + 2)) (lw_p 2 rfl) ?_
  refine va_sld hx hb hX hbl hbA hS (lw_in 2 hi hL (by decide)) dL_law_294 ?_
  refine law_i (Wd := W_X) (V := (W_M q2 k T)) SX_ok sameX ⟨hx, hb, hml, hown, hts⟩ (c_X11_purse l D q k (xs (nI (i + 1)).toNatClampNeg) (xs (nI (i + 2)).toNatClampNeg) S H.size (r, S2) e1) (cwV 2 hts gL_law_X11_purse rfl rfl rfl (by decide +kernel) ⟨Nat.le_of_ble_eq_true rfl, Nat.le_of_ble_eq_true rfl⟩) hK hP hV (hDX S T) hS hA hsp (va_recv hK hP (ci := 11) (q0 := 0) rfl rfl) (As := [.int (xs (nI (i + 1)).toNatClampNeg), .int (xs (nI (i + 2)).toNatClampNeg)]) rfl hl.1 rfl (Nat.le_of_ble_eq_true rfl) dL_law_295 ⟨Nat.le_of_ble_eq_true rfl, Nat.le_of_ble_eq_true rfl⟩ (fun H locs hP hV hS => ?_)
  refine lv_aload_n hx hb dL_law_298 rfl (lv_at hl 1 rfl) ?_
  refine lv_aload_n hx hb dL_law_299 rfl (lv_at hl 3 rfl) ?_
  refine lv_iload_n hx hb dL_law_300 rfl (lv_at hl 0 rfl) ?_
  refine lv_iconst (v := (1 : Int32)) hx hb dL_law_301 (by decide) ?_
  refine lv_iadd hx hb dL_law_302 ?_
  refine tx_i (x := nI (i + 1)) (lw_p 1 rfl) ?_
  refine va_sld hx hb hX hbl hbA hS (lw_in 1 hi hL (by decide)) dL_law_303 ?_
  refine lv_aload_n hx hb dL_law_304 rfl (lv_at hl 3 rfl) ?_
  refine lv_iload_n hx hb dL_law_305 rfl (lv_at hl 0 rfl) ?_
  refine lv_iconst (v := (2 : Int32)) hx hb dL_law_306 (by decide) ?_
  refine lv_iadd hx hb dL_law_307 ?_
  refine tx_i (x := nI (i + 2)) (lw_p 2 rfl) ?_
  refine va_sld hx hb hX hbl hbA hS (lw_in 2 hi hL (by decide)) dL_law_308 ?_
  refine law_i (Wd := W_M) (V := (W_X q k S2)) SM_ok sameM ⟨hx, hb, hml, hown, hts⟩ (c_X12_purse l D q2 k (xs (nI (i + 1)).toNatClampNeg) (xs (nI (i + 2)).toNatClampNeg) T H.size (r, T2) e2) (cwV 2 hts gL_law_X12_purse rfl rfl rfl (by decide +kernel) ⟨Nat.le_of_ble_eq_true rfl, Nat.le_of_ble_eq_true rfl⟩) hK hV hP (hDM S2 T) hS hA trivial (va_recv hK hV (ci := 12) (q0 := 0) rfl rfl) (As := [.int (xs (nI (i + 1)).toNatClampNeg), .int (xs (nI (i + 2)).toNatClampNeg)]) rfl hl.1 rfl (Nat.le_of_ble_eq_true rfl) dL_law_309 ⟨Nat.le_of_ble_eq_true rfl, Nat.le_of_ble_eq_true rfl⟩ (fun H locs hV hP hS => ?_)
  exact lv_icmp_eq (tgt := 1589) hx hb dL_law_312 (by decide) (fun _ => kk S2 T2 H locs hR hP hV hS) (fun h9 => absurd rfl h9)
set_option maxHeartbeats 4000000 in
set_option maxRecDepth 100000 in
theorem law_case_3 (C0 : LC p s m c b L xs D q q2 k) (hi : i + 6 ≤ L) (h : RR RxC S T) (hP : va_P D vwCl (W_X q k S) H) (hV : va_P D vwCl (W_M q2 k T) H) (hS : va_S (AL s) s.heap H locs) (hl : lv_has ls 4 [(3, .int (nI i)), (2, .ref (q2 0)), (1, .ref (q 0)), (0, .ref b)]) (kk : ∀ (S2 T2 : St) (H : Heap) (locs : List Loc), RR RxC S2 T2 → va_P D vwCl (W_X q k S2) H → va_P D vwCl (W_M q2 k T2) H → va_S (AL s) s.heap H locs → W p l e room_1 s m #[Value.ref b] below meth c H locs 95 26919 Q (F0 m 1589 ls [])) : W p l e room_1 s m #[Value.ref b] below meth c H locs 95 26919 Q (F0 m 317 ls []) := by
  obtain ⟨hx, hb, hml, hown, hts, hX, hbl, hK, hDX, hDM, hsp, hL⟩ := C0
  have hA : ∀ a, s.heap.size ≤ a → AL s a := fun _ h => h
  have hbA : ¬ AL s b := Nat.not_le.mpr hbl
  obtain ⟨r, S2, T2, e1, e2, hR⟩ := op_thing FxC (xs (nI (i + 1)).toNatClampNeg) (xs (nI (i + 2)).toNatClampNeg) h
  refine lv_aload_n hx hb dL_law_317 rfl (lv_at hl 2 rfl) ?_
  refine lv_aload_n hx hb dL_law_318 rfl (lv_at hl 3 rfl) ?_
  refine lv_iload_n hx hb dL_law_319 rfl (lv_at hl 0 rfl) ?_
  refine lv_iconst (v := (1 : Int32)) hx hb dL_law_320 (by decide) ?_
  refine lv_iadd hx hb dL_law_321 ?_
  refine tx_i (x := nI (i + 1)) (lw_p 1 rfl) ?_
  refine va_sld hx hb hX hbl hbA hS (lw_in 1 hi hL (by decide)) dL_law_322 ?_
  refine lv_aload_n hx hb dL_law_323 rfl (lv_at hl 3 rfl) ?_
  refine lv_iload_n hx hb dL_law_324 rfl (lv_at hl 0 rfl) ?_
  refine lv_iconst (v := (2 : Int32)) hx hb dL_law_325 (by decide) ?_
  refine lv_iadd hx hb dL_law_326 ?_
  refine tx_i (x := nI (i + 2)) (lw_p 2 rfl) ?_
  refine va_sld hx hb hX hbl hbA hS (lw_in 2 hi hL (by decide)) dL_law_327 ?_
  refine law_i (Wd := W_X) (V := (W_M q2 k T)) SX_ok sameX ⟨hx, hb, hml, hown, hts⟩ (c_X11_thing l D q k (xs (nI (i + 1)).toNatClampNeg) (xs (nI (i + 2)).toNatClampNeg) S H.size (r, S2) e1) (cwV 2 hts gL_law_X11_thing rfl rfl rfl (by decide +kernel) ⟨Nat.le_of_ble_eq_true rfl, Nat.le_of_ble_eq_true rfl⟩) hK hP hV (hDX S T) hS hA hsp (va_recv hK hP (ci := 11) (q0 := 0) rfl rfl) (As := [.int (xs (nI (i + 1)).toNatClampNeg), .int (xs (nI (i + 2)).toNatClampNeg)]) rfl hl.1 rfl (Nat.le_of_ble_eq_true rfl) dL_law_328 ⟨Nat.le_of_ble_eq_true rfl, Nat.le_of_ble_eq_true rfl⟩ (fun H locs hP hV hS => ?_)
  refine lv_aload_n hx hb dL_law_331 rfl (lv_at hl 1 rfl) ?_
  refine lv_aload_n hx hb dL_law_332 rfl (lv_at hl 3 rfl) ?_
  refine lv_iload_n hx hb dL_law_333 rfl (lv_at hl 0 rfl) ?_
  refine lv_iconst (v := (1 : Int32)) hx hb dL_law_334 (by decide) ?_
  refine lv_iadd hx hb dL_law_335 ?_
  refine tx_i (x := nI (i + 1)) (lw_p 1 rfl) ?_
  refine va_sld hx hb hX hbl hbA hS (lw_in 1 hi hL (by decide)) dL_law_336 ?_
  refine lv_aload_n hx hb dL_law_337 rfl (lv_at hl 3 rfl) ?_
  refine lv_iload_n hx hb dL_law_338 rfl (lv_at hl 0 rfl) ?_
  refine lv_iconst (v := (2 : Int32)) hx hb dL_law_339 (by decide) ?_
  refine lv_iadd hx hb dL_law_340 ?_
  refine tx_i (x := nI (i + 2)) (lw_p 2 rfl) ?_
  refine va_sld hx hb hX hbl hbA hS (lw_in 2 hi hL (by decide)) dL_law_341 ?_
  refine law_i (Wd := W_M) (V := (W_X q k S2)) SM_ok sameM ⟨hx, hb, hml, hown, hts⟩ (c_X12_thing l D q2 k (xs (nI (i + 1)).toNatClampNeg) (xs (nI (i + 2)).toNatClampNeg) T H.size (r, T2) e2) (cwV 2 hts gL_law_X12_thing rfl rfl rfl (by decide +kernel) ⟨Nat.le_of_ble_eq_true rfl, Nat.le_of_ble_eq_true rfl⟩) hK hV hP (hDM S2 T) hS hA trivial (va_recv hK hV (ci := 12) (q0 := 0) rfl rfl) (As := [.int (xs (nI (i + 1)).toNatClampNeg), .int (xs (nI (i + 2)).toNatClampNeg)]) rfl hl.1 rfl (Nat.le_of_ble_eq_true rfl) dL_law_342 ⟨Nat.le_of_ble_eq_true rfl, Nat.le_of_ble_eq_true rfl⟩ (fun H locs hV hP hS => ?_)
  exact lv_icmp_eq (tgt := 1589) hx hb dL_law_345 (by decide) (fun _ => kk S2 T2 H locs hR hP hV hS) (fun h9 => absurd rfl h9)
set_option maxHeartbeats 4000000 in
set_option maxRecDepth 100000 in
theorem law_case_4 (C0 : LC p s m c b L xs D q q2 k) (hi : i + 6 ≤ L) (h : RR RxC S T) (hP : va_P D vwCl (W_X q k S) H) (hV : va_P D vwCl (W_M q2 k T) H) (hS : va_S (AL s) s.heap H locs) (hl : lv_has ls 4 [(3, .int (nI i)), (2, .ref (q2 0)), (1, .ref (q 0)), (0, .ref b)]) (kk : ∀ (S2 T2 : St) (H : Heap) (locs : List Loc), RR RxC S2 T2 → va_P D vwCl (W_X q k S2) H → va_P D vwCl (W_M q2 k T2) H → va_S (AL s) s.heap H locs → W p l e room_1 s m #[Value.ref b] below meth c H locs 95 26919 Q (F0 m 1589 ls [])) : W p l e room_1 s m #[Value.ref b] below meth c H locs 95 26919 Q (F0 m 350 ls []) := by
  obtain ⟨hx, hb, hml, hown, hts, hX, hbl, hK, hDX, hDM, hsp, hL⟩ := C0
  have hA : ∀ a, s.heap.size ≤ a → AL s a := fun _ h => h
  have hbA : ¬ AL s b := Nat.not_le.mpr hbl
  obtain ⟨r, S2, T2, e1, e2, hR⟩ := op_rule FxC (xs (nI (i + 1)).toNatClampNeg) (xs (nI (i + 2)).toNatClampNeg) h
  refine lv_aload_n hx hb dL_law_350 rfl (lv_at hl 2 rfl) ?_
  refine lv_aload_n hx hb dL_law_351 rfl (lv_at hl 3 rfl) ?_
  refine lv_iload_n hx hb dL_law_352 rfl (lv_at hl 0 rfl) ?_
  refine lv_iconst (v := (1 : Int32)) hx hb dL_law_353 (by decide) ?_
  refine lv_iadd hx hb dL_law_354 ?_
  refine tx_i (x := nI (i + 1)) (lw_p 1 rfl) ?_
  refine va_sld hx hb hX hbl hbA hS (lw_in 1 hi hL (by decide)) dL_law_355 ?_
  refine lv_aload_n hx hb dL_law_356 rfl (lv_at hl 3 rfl) ?_
  refine lv_iload_n hx hb dL_law_357 rfl (lv_at hl 0 rfl) ?_
  refine lv_iconst (v := (2 : Int32)) hx hb dL_law_358 (by decide) ?_
  refine lv_iadd hx hb dL_law_359 ?_
  refine tx_i (x := nI (i + 2)) (lw_p 2 rfl) ?_
  refine va_sld hx hb hX hbl hbA hS (lw_in 2 hi hL (by decide)) dL_law_360 ?_
  refine law_i (Wd := W_X) (V := (W_M q2 k T)) SX_ok sameX ⟨hx, hb, hml, hown, hts⟩ (c_X11_rule l D q k (xs (nI (i + 1)).toNatClampNeg) (xs (nI (i + 2)).toNatClampNeg) S H.size (r, S2) e1) (cwV 2 hts gL_law_X11_rule rfl rfl rfl (by decide +kernel) ⟨Nat.le_of_ble_eq_true rfl, Nat.le_of_ble_eq_true rfl⟩) hK hP hV (hDX S T) hS hA hsp (va_recv hK hP (ci := 11) (q0 := 0) rfl rfl) (As := [.int (xs (nI (i + 1)).toNatClampNeg), .int (xs (nI (i + 2)).toNatClampNeg)]) rfl hl.1 rfl (Nat.le_of_ble_eq_true rfl) dL_law_361 ⟨Nat.le_of_ble_eq_true rfl, Nat.le_of_ble_eq_true rfl⟩ (fun H locs hP hV hS => ?_)
  refine lv_aload_n hx hb dL_law_364 rfl (lv_at hl 1 rfl) ?_
  refine lv_aload_n hx hb dL_law_365 rfl (lv_at hl 3 rfl) ?_
  refine lv_iload_n hx hb dL_law_366 rfl (lv_at hl 0 rfl) ?_
  refine lv_iconst (v := (1 : Int32)) hx hb dL_law_367 (by decide) ?_
  refine lv_iadd hx hb dL_law_368 ?_
  refine tx_i (x := nI (i + 1)) (lw_p 1 rfl) ?_
  refine va_sld hx hb hX hbl hbA hS (lw_in 1 hi hL (by decide)) dL_law_369 ?_
  refine lv_aload_n hx hb dL_law_370 rfl (lv_at hl 3 rfl) ?_
  refine lv_iload_n hx hb dL_law_371 rfl (lv_at hl 0 rfl) ?_
  refine lv_iconst (v := (2 : Int32)) hx hb dL_law_372 (by decide) ?_
  refine lv_iadd hx hb dL_law_373 ?_
  refine tx_i (x := nI (i + 2)) (lw_p 2 rfl) ?_
  refine va_sld hx hb hX hbl hbA hS (lw_in 2 hi hL (by decide)) dL_law_374 ?_
  refine law_i (Wd := W_M) (V := (W_X q k S2)) SM_ok sameM ⟨hx, hb, hml, hown, hts⟩ (c_X12_rule l D q2 k (xs (nI (i + 1)).toNatClampNeg) (xs (nI (i + 2)).toNatClampNeg) T H.size (r, T2) e2) (cwV 2 hts gL_law_X12_rule rfl rfl rfl (by decide +kernel) ⟨Nat.le_of_ble_eq_true rfl, Nat.le_of_ble_eq_true rfl⟩) hK hV hP (hDM S2 T) hS hA trivial (va_recv hK hV (ci := 12) (q0 := 0) rfl rfl) (As := [.int (xs (nI (i + 1)).toNatClampNeg), .int (xs (nI (i + 2)).toNatClampNeg)]) rfl hl.1 rfl (Nat.le_of_ble_eq_true rfl) dL_law_375 ⟨Nat.le_of_ble_eq_true rfl, Nat.le_of_ble_eq_true rfl⟩ (fun H locs hV hP hS => ?_)
  exact lv_icmp_eq (tgt := 1589) hx hb dL_law_378 (by decide) (fun _ => kk S2 T2 H locs hR hP hV hS) (fun h9 => absurd rfl h9)
set_option maxHeartbeats 4000000 in
set_option maxRecDepth 100000 in
theorem law_case_5 (C0 : LC p s m c b L xs D q q2 k) (hi : i + 6 ≤ L) (h : RR RxC S T) (hP : va_P D vwCl (W_X q k S) H) (hV : va_P D vwCl (W_M q2 k T) H) (hS : va_S (AL s) s.heap H locs) (hl : lv_has ls 4 [(3, .int (nI i)), (2, .ref (q2 0)), (1, .ref (q 0)), (0, .ref b)]) (kk : ∀ (S2 T2 : St) (H : Heap) (locs : List Loc), RR RxC S2 T2 → va_P D vwCl (W_X q k S2) H → va_P D vwCl (W_M q2 k T2) H → va_S (AL s) s.heap H locs → W p l e room_1 s m #[Value.ref b] below meth c H locs 95 26919 Q (F0 m 1589 ls [])) : W p l e room_1 s m #[Value.ref b] below meth c H locs 95 26919 Q (F0 m 383 ls []) := by
  obtain ⟨hx, hb, hml, hown, hts, hX, hbl, hK, hDX, hDM, hsp, hL⟩ := C0
  have hA : ∀ a, s.heap.size ≤ a → AL s a := fun _ h => h
  have hbA : ¬ AL s b := Nat.not_le.mpr hbl
  obtain ⟨r, S2, T2, e1, e2, hR⟩ := op_window FxC (xs (nI (i + 1)).toNatClampNeg) (xs (nI (i + 2)).toNatClampNeg) h
  refine lv_aload_n hx hb dL_law_383 rfl (lv_at hl 2 rfl) ?_
  refine lv_aload_n hx hb dL_law_384 rfl (lv_at hl 3 rfl) ?_
  refine lv_iload_n hx hb dL_law_385 rfl (lv_at hl 0 rfl) ?_
  refine lv_iconst (v := (1 : Int32)) hx hb dL_law_386 (by decide) ?_
  refine lv_iadd hx hb dL_law_387 ?_
  refine tx_i (x := nI (i + 1)) (lw_p 1 rfl) ?_
  refine va_sld hx hb hX hbl hbA hS (lw_in 1 hi hL (by decide)) dL_law_388 ?_
  refine lv_aload_n hx hb dL_law_389 rfl (lv_at hl 3 rfl) ?_
  refine lv_iload_n hx hb dL_law_390 rfl (lv_at hl 0 rfl) ?_
  refine lv_iconst (v := (2 : Int32)) hx hb dL_law_391 (by decide) ?_
  refine lv_iadd hx hb dL_law_392 ?_
  refine tx_i (x := nI (i + 2)) (lw_p 2 rfl) ?_
  refine va_sld hx hb hX hbl hbA hS (lw_in 2 hi hL (by decide)) dL_law_393 ?_
  refine law_i (Wd := W_X) (V := (W_M q2 k T)) SX_ok sameX ⟨hx, hb, hml, hown, hts⟩ (c_X11_window l D q k (xs (nI (i + 1)).toNatClampNeg) (xs (nI (i + 2)).toNatClampNeg) S H.size (r, S2) e1) (cwV 2 hts gL_law_X11_window rfl rfl rfl (by decide +kernel) ⟨Nat.le_of_ble_eq_true rfl, Nat.le_of_ble_eq_true rfl⟩) hK hP hV (hDX S T) hS hA hsp (va_recv hK hP (ci := 11) (q0 := 0) rfl rfl) (As := [.int (xs (nI (i + 1)).toNatClampNeg), .int (xs (nI (i + 2)).toNatClampNeg)]) rfl hl.1 rfl (Nat.le_of_ble_eq_true rfl) dL_law_394 ⟨Nat.le_of_ble_eq_true rfl, Nat.le_of_ble_eq_true rfl⟩ (fun H locs hP hV hS => ?_)
  refine lv_aload_n hx hb dL_law_397 rfl (lv_at hl 1 rfl) ?_
  refine lv_aload_n hx hb dL_law_398 rfl (lv_at hl 3 rfl) ?_
  refine lv_iload_n hx hb dL_law_399 rfl (lv_at hl 0 rfl) ?_
  refine lv_iconst (v := (1 : Int32)) hx hb dL_law_400 (by decide) ?_
  refine lv_iadd hx hb dL_law_401 ?_
  refine tx_i (x := nI (i + 1)) (lw_p 1 rfl) ?_
  refine va_sld hx hb hX hbl hbA hS (lw_in 1 hi hL (by decide)) dL_law_402 ?_
  refine lv_aload_n hx hb dL_law_403 rfl (lv_at hl 3 rfl) ?_
  refine lv_iload_n hx hb dL_law_404 rfl (lv_at hl 0 rfl) ?_
  refine lv_iconst (v := (2 : Int32)) hx hb dL_law_405 (by decide) ?_
  refine lv_iadd hx hb dL_law_406 ?_
  refine tx_i (x := nI (i + 2)) (lw_p 2 rfl) ?_
  refine va_sld hx hb hX hbl hbA hS (lw_in 2 hi hL (by decide)) dL_law_407 ?_
  refine law_i (Wd := W_M) (V := (W_X q k S2)) SM_ok sameM ⟨hx, hb, hml, hown, hts⟩ (c_X12_window l D q2 k (xs (nI (i + 1)).toNatClampNeg) (xs (nI (i + 2)).toNatClampNeg) T H.size (r, T2) e2) (cwV 2 hts gL_law_X12_window rfl rfl rfl (by decide +kernel) ⟨Nat.le_of_ble_eq_true rfl, Nat.le_of_ble_eq_true rfl⟩) hK hV hP (hDM S2 T) hS hA trivial (va_recv hK hV (ci := 12) (q0 := 0) rfl rfl) (As := [.int (xs (nI (i + 1)).toNatClampNeg), .int (xs (nI (i + 2)).toNatClampNeg)]) rfl hl.1 rfl (Nat.le_of_ble_eq_true rfl) dL_law_408 ⟨Nat.le_of_ble_eq_true rfl, Nat.le_of_ble_eq_true rfl⟩ (fun H locs hV hP hS => ?_)
  exact lv_icmp_eq (tgt := 1589) hx hb dL_law_411 (by decide) (fun _ => kk S2 T2 H locs hR hP hV hS) (fun h9 => absurd rfl h9)
set_option maxHeartbeats 4000000 in
set_option maxRecDepth 100000 in
theorem law_case_6 (C0 : LC p s m c b L xs D q q2 k) (hi : i + 6 ≤ L) (h : RR RxC S T) (hP : va_P D vwCl (W_X q k S) H) (hV : va_P D vwCl (W_M q2 k T) H) (hS : va_S (AL s) s.heap H locs) (hl : lv_has ls 4 [(3, .int (nI i)), (2, .ref (q2 0)), (1, .ref (q 0)), (0, .ref b)]) (kk : ∀ (S2 T2 : St) (H : Heap) (locs : List Loc), RR RxC S2 T2 → va_P D vwCl (W_X q k S2) H → va_P D vwCl (W_M q2 k T2) H → va_S (AL s) s.heap H locs → W p l e room_1 s m #[Value.ref b] below meth c H locs 95 26919 Q (F0 m 1589 ls [])) : W p l e room_1 s m #[Value.ref b] below meth c H locs 95 26919 Q (F0 m 416 ls []) := by
  obtain ⟨hx, hb, hml, hown, hts, hX, hbl, hK, hDX, hDM, hsp, hL⟩ := C0
  have hA : ∀ a, s.heap.size ≤ a → AL s a := fun _ h => h
  have hbA : ¬ AL s b := Nat.not_le.mpr hbl
  obtain ⟨r, S2, T2, e1, e2, hR⟩ := op_mend FxC (xs (nI (i + 1)).toNatClampNeg) (xs (nI (i + 2)).toNatClampNeg) (xs (nI (i + 3)).toNatClampNeg) h
  refine lv_aload_n hx hb dL_law_416 rfl (lv_at hl 2 rfl) ?_
  refine lv_aload_n hx hb dL_law_417 rfl (lv_at hl 3 rfl) ?_
  refine lv_iload_n hx hb dL_law_418 rfl (lv_at hl 0 rfl) ?_
  refine lv_iconst (v := (1 : Int32)) hx hb dL_law_419 (by decide) ?_
  refine lv_iadd hx hb dL_law_420 ?_
  refine tx_i (x := nI (i + 1)) (lw_p 1 rfl) ?_
  refine va_sld hx hb hX hbl hbA hS (lw_in 1 hi hL (by decide)) dL_law_421 ?_
  refine lv_aload_n hx hb dL_law_422 rfl (lv_at hl 3 rfl) ?_
  refine lv_iload_n hx hb dL_law_423 rfl (lv_at hl 0 rfl) ?_
  refine lv_iconst (v := (2 : Int32)) hx hb dL_law_424 (by decide) ?_
  refine lv_iadd hx hb dL_law_425 ?_
  refine tx_i (x := nI (i + 2)) (lw_p 2 rfl) ?_
  refine va_sld hx hb hX hbl hbA hS (lw_in 2 hi hL (by decide)) dL_law_426 ?_
  refine lv_aload_n hx hb dL_law_427 rfl (lv_at hl 3 rfl) ?_
  refine lv_iload_n hx hb dL_law_428 rfl (lv_at hl 0 rfl) ?_
  refine lv_iconst (v := (3 : Int32)) hx hb dL_law_429 (by decide) ?_
  refine lv_iadd hx hb dL_law_430 ?_
  refine tx_i (x := nI (i + 3)) (lw_p 3 rfl) ?_
  refine va_sld hx hb hX hbl hbA hS (lw_in 3 hi hL (by decide)) dL_law_431 ?_
  refine law_i (Wd := W_X) (V := (W_M q2 k T)) SX_ok sameX ⟨hx, hb, hml, hown, hts⟩ (c_X11_mend l D q k (xs (nI (i + 1)).toNatClampNeg) (xs (nI (i + 2)).toNatClampNeg) (xs (nI (i + 3)).toNatClampNeg) S H.size (r, S2) e1) (cwV 3 hts gL_law_X11_mend rfl rfl rfl (by decide +kernel) ⟨Nat.le_of_ble_eq_true rfl, Nat.le_of_ble_eq_true rfl⟩) hK hP hV (hDX S T) hS hA hsp (va_recv hK hP (ci := 11) (q0 := 0) rfl rfl) (As := [.int (xs (nI (i + 1)).toNatClampNeg), .int (xs (nI (i + 2)).toNatClampNeg), .int (xs (nI (i + 3)).toNatClampNeg)]) rfl hl.1 rfl (Nat.le_of_ble_eq_true rfl) dL_law_432 ⟨Nat.le_of_ble_eq_true rfl, Nat.le_of_ble_eq_true rfl⟩ (fun H locs hP hV hS => ?_)
  refine lv_aload_n hx hb dL_law_435 rfl (lv_at hl 1 rfl) ?_
  refine lv_aload_n hx hb dL_law_436 rfl (lv_at hl 3 rfl) ?_
  refine lv_iload_n hx hb dL_law_437 rfl (lv_at hl 0 rfl) ?_
  refine lv_iconst (v := (1 : Int32)) hx hb dL_law_438 (by decide) ?_
  refine lv_iadd hx hb dL_law_439 ?_
  refine tx_i (x := nI (i + 1)) (lw_p 1 rfl) ?_
  refine va_sld hx hb hX hbl hbA hS (lw_in 1 hi hL (by decide)) dL_law_440 ?_
  refine lv_aload_n hx hb dL_law_441 rfl (lv_at hl 3 rfl) ?_
  refine lv_iload_n hx hb dL_law_442 rfl (lv_at hl 0 rfl) ?_
  refine lv_iconst (v := (2 : Int32)) hx hb dL_law_443 (by decide) ?_
  refine lv_iadd hx hb dL_law_444 ?_
  refine tx_i (x := nI (i + 2)) (lw_p 2 rfl) ?_
  refine va_sld hx hb hX hbl hbA hS (lw_in 2 hi hL (by decide)) dL_law_445 ?_
  refine lv_aload_n hx hb dL_law_446 rfl (lv_at hl 3 rfl) ?_
  refine lv_iload_n hx hb dL_law_447 rfl (lv_at hl 0 rfl) ?_
  refine lv_iconst (v := (3 : Int32)) hx hb dL_law_448 (by decide) ?_
  refine lv_iadd hx hb dL_law_449 ?_
  refine tx_i (x := nI (i + 3)) (lw_p 3 rfl) ?_
  refine va_sld hx hb hX hbl hbA hS (lw_in 3 hi hL (by decide)) dL_law_450 ?_
  refine law_i (Wd := W_M) (V := (W_X q k S2)) SM_ok sameM ⟨hx, hb, hml, hown, hts⟩ (c_X12_mend l D q2 k (xs (nI (i + 1)).toNatClampNeg) (xs (nI (i + 2)).toNatClampNeg) (xs (nI (i + 3)).toNatClampNeg) T H.size (r, T2) e2) (cwV 3 hts gL_law_X12_mend rfl rfl rfl (by decide +kernel) ⟨Nat.le_of_ble_eq_true rfl, Nat.le_of_ble_eq_true rfl⟩) hK hV hP (hDM S2 T) hS hA trivial (va_recv hK hV (ci := 12) (q0 := 0) rfl rfl) (As := [.int (xs (nI (i + 1)).toNatClampNeg), .int (xs (nI (i + 2)).toNatClampNeg), .int (xs (nI (i + 3)).toNatClampNeg)]) rfl hl.1 rfl (Nat.le_of_ble_eq_true rfl) dL_law_451 ⟨Nat.le_of_ble_eq_true rfl, Nat.le_of_ble_eq_true rfl⟩ (fun H locs hV hP hS => ?_)
  exact lv_icmp_eq (tgt := 1589) hx hb dL_law_454 (by decide) (fun _ => kk S2 T2 H locs hR hP hV hS) (fun h9 => absurd rfl h9)
set_option maxHeartbeats 4000000 in
set_option maxRecDepth 100000 in
theorem law_case_7 (C0 : LC p s m c b L xs D q q2 k) (hi : i + 6 ≤ L) (h : RR RxC S T) (hP : va_P D vwCl (W_X q k S) H) (hV : va_P D vwCl (W_M q2 k T) H) (hS : va_S (AL s) s.heap H locs) (hl : lv_has ls 4 [(3, .int (nI i)), (2, .ref (q2 0)), (1, .ref (q 0)), (0, .ref b)]) (kk : ∀ (S2 T2 : St) (H : Heap) (locs : List Loc), RR RxC S2 T2 → va_P D vwCl (W_X q k S2) H → va_P D vwCl (W_M q2 k T2) H → va_S (AL s) s.heap H locs → W p l e room_1 s m #[Value.ref b] below meth c H locs 95 26919 Q (F0 m 1589 ls [])) : W p l e room_1 s m #[Value.ref b] below meth c H locs 95 26919 Q (F0 m 459 ls []) := by
  obtain ⟨hx, hb, hml, hown, hts, hX, hbl, hK, hDX, hDM, hsp, hL⟩ := C0
  have hA : ∀ a, s.heap.size ≤ a → AL s a := fun _ h => h
  have hbA : ¬ AL s b := Nat.not_le.mpr hbl
  obtain ⟨r, S2, T2, e1, e2, hR⟩ := op_of FxC (xs (nI (i + 1)).toNatClampNeg) (xs (nI (i + 2)).toNatClampNeg) h
  refine lv_aload_n hx hb dL_law_459 rfl (lv_at hl 2 rfl) ?_
  refine lv_aload_n hx hb dL_law_460 rfl (lv_at hl 3 rfl) ?_
  refine lv_iload_n hx hb dL_law_461 rfl (lv_at hl 0 rfl) ?_
  refine lv_iconst (v := (1 : Int32)) hx hb dL_law_462 (by decide) ?_
  refine lv_iadd hx hb dL_law_463 ?_
  refine tx_i (x := nI (i + 1)) (lw_p 1 rfl) ?_
  refine va_sld hx hb hX hbl hbA hS (lw_in 1 hi hL (by decide)) dL_law_464 ?_
  refine lv_aload_n hx hb dL_law_465 rfl (lv_at hl 3 rfl) ?_
  refine lv_iload_n hx hb dL_law_466 rfl (lv_at hl 0 rfl) ?_
  refine lv_iconst (v := (2 : Int32)) hx hb dL_law_467 (by decide) ?_
  refine lv_iadd hx hb dL_law_468 ?_
  refine tx_i (x := nI (i + 2)) (lw_p 2 rfl) ?_
  refine va_sld hx hb hX hbl hbA hS (lw_in 2 hi hL (by decide)) dL_law_469 ?_
  refine law_i (Wd := W_X) (V := (W_M q2 k T)) SX_ok sameX ⟨hx, hb, hml, hown, hts⟩ (c_X11_of l D q k (xs (nI (i + 1)).toNatClampNeg) (xs (nI (i + 2)).toNatClampNeg) S H.size (r, S2) e1) (cwV 2 hts gL_law_X11_of rfl rfl rfl (by decide +kernel) ⟨Nat.le_of_ble_eq_true rfl, Nat.le_of_ble_eq_true rfl⟩) hK hP hV (hDX S T) hS hA hsp (va_recv hK hP (ci := 11) (q0 := 0) rfl rfl) (As := [.int (xs (nI (i + 1)).toNatClampNeg), .int (xs (nI (i + 2)).toNatClampNeg)]) rfl hl.1 rfl (Nat.le_of_ble_eq_true rfl) dL_law_470 ⟨Nat.le_of_ble_eq_true rfl, Nat.le_of_ble_eq_true rfl⟩ (fun H locs hP hV hS => ?_)
  refine lv_aload_n hx hb dL_law_473 rfl (lv_at hl 1 rfl) ?_
  refine lv_aload_n hx hb dL_law_474 rfl (lv_at hl 3 rfl) ?_
  refine lv_iload_n hx hb dL_law_475 rfl (lv_at hl 0 rfl) ?_
  refine lv_iconst (v := (1 : Int32)) hx hb dL_law_476 (by decide) ?_
  refine lv_iadd hx hb dL_law_477 ?_
  refine tx_i (x := nI (i + 1)) (lw_p 1 rfl) ?_
  refine va_sld hx hb hX hbl hbA hS (lw_in 1 hi hL (by decide)) dL_law_478 ?_
  refine lv_aload_n hx hb dL_law_479 rfl (lv_at hl 3 rfl) ?_
  refine lv_iload_n hx hb dL_law_480 rfl (lv_at hl 0 rfl) ?_
  refine lv_iconst (v := (2 : Int32)) hx hb dL_law_481 (by decide) ?_
  refine lv_iadd hx hb dL_law_482 ?_
  refine tx_i (x := nI (i + 2)) (lw_p 2 rfl) ?_
  refine va_sld hx hb hX hbl hbA hS (lw_in 2 hi hL (by decide)) dL_law_483 ?_
  refine law_i (Wd := W_M) (V := (W_X q k S2)) SM_ok sameM ⟨hx, hb, hml, hown, hts⟩ (c_X12_of l D q2 k (xs (nI (i + 1)).toNatClampNeg) (xs (nI (i + 2)).toNatClampNeg) T H.size (r, T2) e2) (cwV 2 hts gL_law_X12_of rfl rfl rfl (by decide +kernel) ⟨Nat.le_of_ble_eq_true rfl, Nat.le_of_ble_eq_true rfl⟩) hK hV hP (hDM S2 T) hS hA trivial (va_recv hK hV (ci := 12) (q0 := 0) rfl rfl) (As := [.int (xs (nI (i + 1)).toNatClampNeg), .int (xs (nI (i + 2)).toNatClampNeg)]) rfl hl.1 rfl (Nat.le_of_ble_eq_true rfl) dL_law_484 ⟨Nat.le_of_ble_eq_true rfl, Nat.le_of_ble_eq_true rfl⟩ (fun H locs hV hP hS => ?_)
  exact lv_icmp_eq (tgt := 1589) hx hb dL_law_487 (by decide) (fun _ => kk S2 T2 H locs hR hP hV hS) (fun h9 => absurd rfl h9)
set_option maxHeartbeats 4000000 in
set_option maxRecDepth 100000 in
theorem law_case_8 (C0 : LC p s m c b L xs D q q2 k) (hi : i + 6 ≤ L) (h : RR RxC S T) (hP : va_P D vwCl (W_X q k S) H) (hV : va_P D vwCl (W_M q2 k T) H) (hS : va_S (AL s) s.heap H locs) (hl : lv_has ls 4 [(3, .int (nI i)), (2, .ref (q2 0)), (1, .ref (q 0)), (0, .ref b)]) (kk : ∀ (S2 T2 : St) (H : Heap) (locs : List Loc), RR RxC S2 T2 → va_P D vwCl (W_X q k S2) H → va_P D vwCl (W_M q2 k T2) H → va_S (AL s) s.heap H locs → W p l e room_1 s m #[Value.ref b] below meth c H locs 95 26919 Q (F0 m 1589 ls [])) : W p l e room_1 s m #[Value.ref b] below meth c H locs 95 26919 Q (F0 m 492 ls []) := by
  obtain ⟨hx, hb, hml, hown, hts, hX, hbl, hK, hDX, hDM, hsp, hL⟩ := C0
  have hA : ∀ a, s.heap.size ≤ a → AL s a := fun _ h => h
  have hbA : ¬ AL s b := Nat.not_le.mpr hbl
  obtain ⟨r, S2, T2, e1, e2, hR⟩ := op_feed FxC (xs (nI (i + 1)).toNatClampNeg) h
  refine lv_aload_n hx hb dL_law_492 rfl (lv_at hl 2 rfl) ?_
  refine lv_aload_n hx hb dL_law_493 rfl (lv_at hl 3 rfl) ?_
  refine lv_iload_n hx hb dL_law_494 rfl (lv_at hl 0 rfl) ?_
  refine lv_iconst (v := (1 : Int32)) hx hb dL_law_495 (by decide) ?_
  refine lv_iadd hx hb dL_law_496 ?_
  refine tx_i (x := nI (i + 1)) (lw_p 1 rfl) ?_
  refine va_sld hx hb hX hbl hbA hS (lw_in 1 hi hL (by decide)) dL_law_497 ?_
  refine law_i (Wd := W_X) (V := (W_M q2 k T)) SX_ok sameX ⟨hx, hb, hml, hown, hts⟩ (c_X11_feed l D q k (xs (nI (i + 1)).toNatClampNeg) S H.size (r, S2) e1) (cwV 1 hts gL_law_X11_feed rfl rfl rfl (by decide +kernel) ⟨Nat.le_of_ble_eq_true rfl, Nat.le_of_ble_eq_true rfl⟩) hK hP hV (hDX S T) hS hA hsp (va_recv hK hP (ci := 11) (q0 := 0) rfl rfl) (As := [.int (xs (nI (i + 1)).toNatClampNeg)]) rfl hl.1 rfl (Nat.le_of_ble_eq_true rfl) dL_law_498 ⟨Nat.le_of_ble_eq_true rfl, Nat.le_of_ble_eq_true rfl⟩ (fun H locs hP hV hS => ?_)
  refine lv_aload_n hx hb dL_law_501 rfl (lv_at hl 1 rfl) ?_
  refine lv_aload_n hx hb dL_law_502 rfl (lv_at hl 3 rfl) ?_
  refine lv_iload_n hx hb dL_law_503 rfl (lv_at hl 0 rfl) ?_
  refine lv_iconst (v := (1 : Int32)) hx hb dL_law_504 (by decide) ?_
  refine lv_iadd hx hb dL_law_505 ?_
  refine tx_i (x := nI (i + 1)) (lw_p 1 rfl) ?_
  refine va_sld hx hb hX hbl hbA hS (lw_in 1 hi hL (by decide)) dL_law_506 ?_
  refine law_i (Wd := W_M) (V := (W_X q k S2)) SM_ok sameM ⟨hx, hb, hml, hown, hts⟩ (c_X12_feed l D q2 k (xs (nI (i + 1)).toNatClampNeg) T H.size (r, T2) e2) (cwV 1 hts gL_law_X12_feed rfl rfl rfl (by decide +kernel) ⟨Nat.le_of_ble_eq_true rfl, Nat.le_of_ble_eq_true rfl⟩) hK hV hP (hDM S2 T) hS hA trivial (va_recv hK hV (ci := 12) (q0 := 0) rfl rfl) (As := [.int (xs (nI (i + 1)).toNatClampNeg)]) rfl hl.1 rfl (Nat.le_of_ble_eq_true rfl) dL_law_507 ⟨Nat.le_of_ble_eq_true rfl, Nat.le_of_ble_eq_true rfl⟩ (fun H locs hV hP hS => ?_)
  exact lv_icmp_eq (tgt := 1589) hx hb dL_law_510 (by decide) (fun _ => kk S2 T2 H locs hR hP hV hS) (fun h9 => absurd rfl h9)
set_option maxHeartbeats 4000000 in
set_option maxRecDepth 100000 in
theorem law_case_9 (C0 : LC p s m c b L xs D q q2 k) (hi : i + 6 ≤ L) (h : RR RxC S T) (hP : va_P D vwCl (W_X q k S) H) (hV : va_P D vwCl (W_M q2 k T) H) (hS : va_S (AL s) s.heap H locs) (hl : lv_has ls 4 [(3, .int (nI i)), (2, .ref (q2 0)), (1, .ref (q 0)), (0, .ref b)]) (kk : ∀ (S2 T2 : St) (H : Heap) (locs : List Loc), RR RxC S2 T2 → va_P D vwCl (W_X q k S2) H → va_P D vwCl (W_M q2 k T2) H → va_S (AL s) s.heap H locs → W p l e room_1 s m #[Value.ref b] below meth c H locs 95 26919 Q (F0 m 1589 ls [])) : W p l e room_1 s m #[Value.ref b] below meth c H locs 95 26919 Q (F0 m 515 ls []) := by
  obtain ⟨hx, hb, hml, hown, hts, hX, hbl, hK, hDX, hDM, hsp, hL⟩ := C0
  have hA : ∀ a, s.heap.size ≤ a → AL s a := fun _ h => h
  have hbA : ¬ AL s b := Nat.not_le.mpr hbl
  obtain ⟨r, S2, T2, e1, e2, hR⟩ := op_law (xs (nI (i + 1)).toNatClampNeg) h
  refine lv_aload_n hx hb dL_law_515 rfl (lv_at hl 2 rfl) ?_
  refine lv_aload_n hx hb dL_law_516 rfl (lv_at hl 3 rfl) ?_
  refine lv_iload_n hx hb dL_law_517 rfl (lv_at hl 0 rfl) ?_
  refine lv_iconst (v := (1 : Int32)) hx hb dL_law_518 (by decide) ?_
  refine lv_iadd hx hb dL_law_519 ?_
  refine tx_i (x := nI (i + 1)) (lw_p 1 rfl) ?_
  refine va_sld hx hb hX hbl hbA hS (lw_in 1 hi hL (by decide)) dL_law_520 ?_
  refine law_i (Wd := W_X) (V := (W_M q2 k T)) SX_ok sameX ⟨hx, hb, hml, hown, hts⟩ (c_X11_law l D q k (xs (nI (i + 1)).toNatClampNeg) S H.size (r, S2) e1) (cwV 1 hts gL_law_X11_law rfl rfl rfl (by decide +kernel) ⟨Nat.le_of_ble_eq_true rfl, Nat.le_of_ble_eq_true rfl⟩) hK hP hV (hDX S T) hS hA hsp (va_recv hK hP (ci := 11) (q0 := 0) rfl rfl) (As := [.int (xs (nI (i + 1)).toNatClampNeg)]) rfl hl.1 rfl (Nat.le_of_ble_eq_true rfl) dL_law_521 ⟨Nat.le_of_ble_eq_true rfl, Nat.le_of_ble_eq_true rfl⟩ (fun H locs hP hV hS => ?_)
  refine lv_aload_n hx hb dL_law_524 rfl (lv_at hl 1 rfl) ?_
  refine lv_aload_n hx hb dL_law_525 rfl (lv_at hl 3 rfl) ?_
  refine lv_iload_n hx hb dL_law_526 rfl (lv_at hl 0 rfl) ?_
  refine lv_iconst (v := (1 : Int32)) hx hb dL_law_527 (by decide) ?_
  refine lv_iadd hx hb dL_law_528 ?_
  refine tx_i (x := nI (i + 1)) (lw_p 1 rfl) ?_
  refine va_sld hx hb hX hbl hbA hS (lw_in 1 hi hL (by decide)) dL_law_529 ?_
  refine law_i (Wd := W_M) (V := (W_X q k S2)) SM_ok sameM ⟨hx, hb, hml, hown, hts⟩ (c_X12_law l D q2 k (xs (nI (i + 1)).toNatClampNeg) T H.size (r, T2) e2) (cwV 1 hts gL_law_X12_law rfl rfl rfl (by decide +kernel) ⟨Nat.le_of_ble_eq_true rfl, Nat.le_of_ble_eq_true rfl⟩) hK hV hP (hDM S2 T) hS hA trivial (va_recv hK hV (ci := 12) (q0 := 0) rfl rfl) (As := [.int (xs (nI (i + 1)).toNatClampNeg)]) rfl hl.1 rfl (Nat.le_of_ble_eq_true rfl) dL_law_530 ⟨Nat.le_of_ble_eq_true rfl, Nat.le_of_ble_eq_true rfl⟩ (fun H locs hV hP hS => ?_)
  exact lv_icmp_eq (tgt := 1589) hx hb dL_law_533 (by decide) (fun _ => kk S2 T2 H locs hR hP hV hS) (fun h9 => absurd rfl h9)
set_option maxHeartbeats 4000000 in
set_option maxRecDepth 100000 in
theorem law_case_10 (C0 : LC p s m c b L xs D q q2 k) (hi : i + 6 ≤ L) (h : RR RxC S T) (hP : va_P D vwCl (W_X q k S) H) (hV : va_P D vwCl (W_M q2 k T) H) (hS : va_S (AL s) s.heap H locs) (hl : lv_has ls 4 [(3, .int (nI i)), (2, .ref (q2 0)), (1, .ref (q 0)), (0, .ref b)]) (kk : ∀ (S2 T2 : St) (H : Heap) (locs : List Loc), RR RxC S2 T2 → va_P D vwCl (W_X q k S2) H → va_P D vwCl (W_M q2 k T2) H → va_S (AL s) s.heap H locs → W p l e room_1 s m #[Value.ref b] below meth c H locs 95 26919 Q (F0 m 1589 ls [])) : W p l e room_1 s m #[Value.ref b] below meth c H locs 95 26919 Q (F0 m 538 ls []) := by
  obtain ⟨hx, hb, hml, hown, hts, hX, hbl, hK, hDX, hDM, hsp, hL⟩ := C0
  have hA : ∀ a, s.heap.size ≤ a → AL s a := fun _ h => h
  have hbA : ¬ AL s b := Nat.not_le.mpr hbl
  obtain ⟨r, S2, T2, e1, e2, hR⟩ := op_rate (xs (nI (i + 1)).toNatClampNeg) (xs (nI (i + 2)).toNatClampNeg) h
  refine lv_aload_n hx hb dL_law_538 rfl (lv_at hl 2 rfl) ?_
  refine lv_aload_n hx hb dL_law_539 rfl (lv_at hl 3 rfl) ?_
  refine lv_iload_n hx hb dL_law_540 rfl (lv_at hl 0 rfl) ?_
  refine lv_iconst (v := (1 : Int32)) hx hb dL_law_541 (by decide) ?_
  refine lv_iadd hx hb dL_law_542 ?_
  refine tx_i (x := nI (i + 1)) (lw_p 1 rfl) ?_
  refine va_sld hx hb hX hbl hbA hS (lw_in 1 hi hL (by decide)) dL_law_543 ?_
  refine lv_aload_n hx hb dL_law_544 rfl (lv_at hl 3 rfl) ?_
  refine lv_iload_n hx hb dL_law_545 rfl (lv_at hl 0 rfl) ?_
  refine lv_iconst (v := (2 : Int32)) hx hb dL_law_546 (by decide) ?_
  refine lv_iadd hx hb dL_law_547 ?_
  refine tx_i (x := nI (i + 2)) (lw_p 2 rfl) ?_
  refine va_sld hx hb hX hbl hbA hS (lw_in 2 hi hL (by decide)) dL_law_548 ?_
  refine law_i (Wd := W_X) (V := (W_M q2 k T)) SX_ok sameX ⟨hx, hb, hml, hown, hts⟩ (c_X11_rate l D q k (xs (nI (i + 1)).toNatClampNeg) (xs (nI (i + 2)).toNatClampNeg) S H.size (r, S2) e1) (cwV 2 hts gL_law_X11_rate rfl rfl rfl (by decide +kernel) ⟨Nat.le_of_ble_eq_true rfl, Nat.le_of_ble_eq_true rfl⟩) hK hP hV (hDX S T) hS hA hsp (va_recv hK hP (ci := 11) (q0 := 0) rfl rfl) (As := [.int (xs (nI (i + 1)).toNatClampNeg), .int (xs (nI (i + 2)).toNatClampNeg)]) rfl hl.1 rfl (Nat.le_of_ble_eq_true rfl) dL_law_549 ⟨Nat.le_of_ble_eq_true rfl, Nat.le_of_ble_eq_true rfl⟩ (fun H locs hP hV hS => ?_)
  refine lv_aload_n hx hb dL_law_552 rfl (lv_at hl 1 rfl) ?_
  refine lv_aload_n hx hb dL_law_553 rfl (lv_at hl 3 rfl) ?_
  refine lv_iload_n hx hb dL_law_554 rfl (lv_at hl 0 rfl) ?_
  refine lv_iconst (v := (1 : Int32)) hx hb dL_law_555 (by decide) ?_
  refine lv_iadd hx hb dL_law_556 ?_
  refine tx_i (x := nI (i + 1)) (lw_p 1 rfl) ?_
  refine va_sld hx hb hX hbl hbA hS (lw_in 1 hi hL (by decide)) dL_law_557 ?_
  refine lv_aload_n hx hb dL_law_558 rfl (lv_at hl 3 rfl) ?_
  refine lv_iload_n hx hb dL_law_559 rfl (lv_at hl 0 rfl) ?_
  refine lv_iconst (v := (2 : Int32)) hx hb dL_law_560 (by decide) ?_
  refine lv_iadd hx hb dL_law_561 ?_
  refine tx_i (x := nI (i + 2)) (lw_p 2 rfl) ?_
  refine va_sld hx hb hX hbl hbA hS (lw_in 2 hi hL (by decide)) dL_law_562 ?_
  refine law_i (Wd := W_M) (V := (W_X q k S2)) SM_ok sameM ⟨hx, hb, hml, hown, hts⟩ (c_X12_rate l D q2 k (xs (nI (i + 1)).toNatClampNeg) (xs (nI (i + 2)).toNatClampNeg) T H.size (r, T2) e2) (cwV 2 hts gL_law_X12_rate rfl rfl rfl (by decide +kernel) ⟨Nat.le_of_ble_eq_true rfl, Nat.le_of_ble_eq_true rfl⟩) hK hV hP (hDM S2 T) hS hA trivial (va_recv hK hV (ci := 12) (q0 := 0) rfl rfl) (As := [.int (xs (nI (i + 1)).toNatClampNeg), .int (xs (nI (i + 2)).toNatClampNeg)]) rfl hl.1 rfl (Nat.le_of_ble_eq_true rfl) dL_law_563 ⟨Nat.le_of_ble_eq_true rfl, Nat.le_of_ble_eq_true rfl⟩ (fun H locs hV hP hS => ?_)
  exact lv_icmp_eq (tgt := 1589) hx hb dL_law_566 (by decide) (fun _ => kk S2 T2 H locs hR hP hV hS) (fun h9 => absurd rfl h9)
set_option maxHeartbeats 4000000 in
set_option maxRecDepth 100000 in
theorem law_case_11 (C0 : LC p s m c b L xs D q q2 k) (hi : i + 6 ≤ L) (h : RR RxC S T) (hP : va_P D vwCl (W_X q k S) H) (hV : va_P D vwCl (W_M q2 k T) H) (hS : va_S (AL s) s.heap H locs) (hl : lv_has ls 4 [(3, .int (nI i)), (2, .ref (q2 0)), (1, .ref (q 0)), (0, .ref b)]) (kk : ∀ (S2 T2 : St) (H : Heap) (locs : List Loc), RR RxC S2 T2 → va_P D vwCl (W_X q k S2) H → va_P D vwCl (W_M q2 k T2) H → va_S (AL s) s.heap H locs → W p l e room_1 s m #[Value.ref b] below meth c H locs 95 26919 Q (F0 m 1589 ls [])) : W p l e room_1 s m #[Value.ref b] below meth c H locs 95 26919 Q (F0 m 571 ls []) := by
  obtain ⟨hx, hb, hml, hown, hts, hX, hbl, hK, hDX, hDM, hsp, hL⟩ := C0
  have hA : ∀ a, s.heap.size ≤ a → AL s a := fun _ h => h
  have hbA : ¬ AL s b := Nat.not_le.mpr hbl
  obtain ⟨r, S2, T2, e1, e2, hR⟩ := op_paid (xs (nI (i + 1)).toNatClampNeg) (xs (nI (i + 2)).toNatClampNeg) (xs (nI (i + 3)).toNatClampNeg) h
  refine lv_aload_n hx hb dL_law_571 rfl (lv_at hl 2 rfl) ?_
  refine lv_aload_n hx hb dL_law_572 rfl (lv_at hl 3 rfl) ?_
  refine lv_iload_n hx hb dL_law_573 rfl (lv_at hl 0 rfl) ?_
  refine lv_iconst (v := (1 : Int32)) hx hb dL_law_574 (by decide) ?_
  refine lv_iadd hx hb dL_law_575 ?_
  refine tx_i (x := nI (i + 1)) (lw_p 1 rfl) ?_
  refine va_sld hx hb hX hbl hbA hS (lw_in 1 hi hL (by decide)) dL_law_576 ?_
  refine lv_aload_n hx hb dL_law_577 rfl (lv_at hl 3 rfl) ?_
  refine lv_iload_n hx hb dL_law_578 rfl (lv_at hl 0 rfl) ?_
  refine lv_iconst (v := (2 : Int32)) hx hb dL_law_579 (by decide) ?_
  refine lv_iadd hx hb dL_law_580 ?_
  refine tx_i (x := nI (i + 2)) (lw_p 2 rfl) ?_
  refine va_sld hx hb hX hbl hbA hS (lw_in 2 hi hL (by decide)) dL_law_581 ?_
  refine lv_aload_n hx hb dL_law_582 rfl (lv_at hl 3 rfl) ?_
  refine lv_iload_n hx hb dL_law_583 rfl (lv_at hl 0 rfl) ?_
  refine lv_iconst (v := (3 : Int32)) hx hb dL_law_584 (by decide) ?_
  refine lv_iadd hx hb dL_law_585 ?_
  refine tx_i (x := nI (i + 3)) (lw_p 3 rfl) ?_
  refine va_sld hx hb hX hbl hbA hS (lw_in 3 hi hL (by decide)) dL_law_586 ?_
  refine law_i (Wd := W_X) (V := (W_M q2 k T)) SX_ok sameX ⟨hx, hb, hml, hown, hts⟩ (c_X11_paid l D q k (xs (nI (i + 1)).toNatClampNeg) (xs (nI (i + 2)).toNatClampNeg) (xs (nI (i + 3)).toNatClampNeg) S H.size (r, S2) e1) (cwV 3 hts gL_law_X11_paid rfl rfl rfl (by decide +kernel) ⟨Nat.le_of_ble_eq_true rfl, Nat.le_of_ble_eq_true rfl⟩) hK hP hV (hDX S T) hS hA hsp (va_recv hK hP (ci := 11) (q0 := 0) rfl rfl) (As := [.int (xs (nI (i + 1)).toNatClampNeg), .int (xs (nI (i + 2)).toNatClampNeg), .int (xs (nI (i + 3)).toNatClampNeg)]) rfl hl.1 rfl (Nat.le_of_ble_eq_true rfl) dL_law_587 ⟨Nat.le_of_ble_eq_true rfl, Nat.le_of_ble_eq_true rfl⟩ (fun H locs hP hV hS => ?_)
  refine lv_aload_n hx hb dL_law_590 rfl (lv_at hl 1 rfl) ?_
  refine lv_aload_n hx hb dL_law_591 rfl (lv_at hl 3 rfl) ?_
  refine lv_iload_n hx hb dL_law_592 rfl (lv_at hl 0 rfl) ?_
  refine lv_iconst (v := (1 : Int32)) hx hb dL_law_593 (by decide) ?_
  refine lv_iadd hx hb dL_law_594 ?_
  refine tx_i (x := nI (i + 1)) (lw_p 1 rfl) ?_
  refine va_sld hx hb hX hbl hbA hS (lw_in 1 hi hL (by decide)) dL_law_595 ?_
  refine lv_aload_n hx hb dL_law_596 rfl (lv_at hl 3 rfl) ?_
  refine lv_iload_n hx hb dL_law_597 rfl (lv_at hl 0 rfl) ?_
  refine lv_iconst (v := (2 : Int32)) hx hb dL_law_598 (by decide) ?_
  refine lv_iadd hx hb dL_law_599 ?_
  refine tx_i (x := nI (i + 2)) (lw_p 2 rfl) ?_
  refine va_sld hx hb hX hbl hbA hS (lw_in 2 hi hL (by decide)) dL_law_600 ?_
  refine lv_aload_n hx hb dL_law_601 rfl (lv_at hl 3 rfl) ?_
  refine lv_iload_n hx hb dL_law_602 rfl (lv_at hl 0 rfl) ?_
  refine lv_iconst (v := (3 : Int32)) hx hb dL_law_603 (by decide) ?_
  refine lv_iadd hx hb dL_law_604 ?_
  refine tx_i (x := nI (i + 3)) (lw_p 3 rfl) ?_
  refine va_sld hx hb hX hbl hbA hS (lw_in 3 hi hL (by decide)) dL_law_605 ?_
  refine law_i (Wd := W_M) (V := (W_X q k S2)) SM_ok sameM ⟨hx, hb, hml, hown, hts⟩ (c_X12_paid l D q2 k (xs (nI (i + 1)).toNatClampNeg) (xs (nI (i + 2)).toNatClampNeg) (xs (nI (i + 3)).toNatClampNeg) T H.size (r, T2) e2) (cwV 3 hts gL_law_X12_paid rfl rfl rfl (by decide +kernel) ⟨Nat.le_of_ble_eq_true rfl, Nat.le_of_ble_eq_true rfl⟩) hK hV hP (hDM S2 T) hS hA trivial (va_recv hK hV (ci := 12) (q0 := 0) rfl rfl) (As := [.int (xs (nI (i + 1)).toNatClampNeg), .int (xs (nI (i + 2)).toNatClampNeg), .int (xs (nI (i + 3)).toNatClampNeg)]) rfl hl.1 rfl (Nat.le_of_ble_eq_true rfl) dL_law_606 ⟨Nat.le_of_ble_eq_true rfl, Nat.le_of_ble_eq_true rfl⟩ (fun H locs hV hP hS => ?_)
  exact lv_icmp_eq (tgt := 1589) hx hb dL_law_609 (by decide) (fun _ => kk S2 T2 H locs hR hP hV hS) (fun h9 => absurd rfl h9)
set_option maxHeartbeats 4000000 in
set_option maxRecDepth 100000 in
theorem law_case_12 (C0 : LC p s m c b L xs D q q2 k) (hi : i + 6 ≤ L) (h : RR RxC S T) (hP : va_P D vwCl (W_X q k S) H) (hV : va_P D vwCl (W_M q2 k T) H) (hS : va_S (AL s) s.heap H locs) (hl : lv_has ls 4 [(3, .int (nI i)), (2, .ref (q2 0)), (1, .ref (q 0)), (0, .ref b)]) (kk : ∀ (S2 T2 : St) (H : Heap) (locs : List Loc), RR RxC S2 T2 → va_P D vwCl (W_X q k S2) H → va_P D vwCl (W_M q2 k T2) H → va_S (AL s) s.heap H locs → W p l e room_1 s m #[Value.ref b] below meth c H locs 95 26919 Q (F0 m 1589 ls [])) : W p l e room_1 s m #[Value.ref b] below meth c H locs 95 26919 Q (F0 m 614 ls []) := by
  obtain ⟨hx, hb, hml, hown, hts, hX, hbl, hK, hDX, hDM, hsp, hL⟩ := C0
  have hA : ∀ a, s.heap.size ≤ a → AL s a := fun _ h => h
  have hbA : ¬ AL s b := Nat.not_le.mpr hbl
  obtain ⟨r, S2, T2, e1, e2, hR⟩ := op_amounts (xs (nI (i + 1)).toNatClampNeg) (xs (nI (i + 2)).toNatClampNeg) h
  refine lv_aload_n hx hb dL_law_614 rfl (lv_at hl 2 rfl) ?_
  refine lv_aload_n hx hb dL_law_615 rfl (lv_at hl 3 rfl) ?_
  refine lv_iload_n hx hb dL_law_616 rfl (lv_at hl 0 rfl) ?_
  refine lv_iconst (v := (1 : Int32)) hx hb dL_law_617 (by decide) ?_
  refine lv_iadd hx hb dL_law_618 ?_
  refine tx_i (x := nI (i + 1)) (lw_p 1 rfl) ?_
  refine va_sld hx hb hX hbl hbA hS (lw_in 1 hi hL (by decide)) dL_law_619 ?_
  refine lv_aload_n hx hb dL_law_620 rfl (lv_at hl 3 rfl) ?_
  refine lv_iload_n hx hb dL_law_621 rfl (lv_at hl 0 rfl) ?_
  refine lv_iconst (v := (2 : Int32)) hx hb dL_law_622 (by decide) ?_
  refine lv_iadd hx hb dL_law_623 ?_
  refine tx_i (x := nI (i + 2)) (lw_p 2 rfl) ?_
  refine va_sld hx hb hX hbl hbA hS (lw_in 2 hi hL (by decide)) dL_law_624 ?_
  refine law_i (Wd := W_X) (V := (W_M q2 k T)) SX_ok sameX ⟨hx, hb, hml, hown, hts⟩ (c_X11_amounts l D q k (xs (nI (i + 1)).toNatClampNeg) (xs (nI (i + 2)).toNatClampNeg) S H.size (r, S2) e1) (cwV 2 hts gL_law_X11_amounts rfl rfl rfl (by decide +kernel) ⟨Nat.le_of_ble_eq_true rfl, Nat.le_of_ble_eq_true rfl⟩) hK hP hV (hDX S T) hS hA hsp (va_recv hK hP (ci := 11) (q0 := 0) rfl rfl) (As := [.int (xs (nI (i + 1)).toNatClampNeg), .int (xs (nI (i + 2)).toNatClampNeg)]) rfl hl.1 rfl (Nat.le_of_ble_eq_true rfl) dL_law_625 ⟨Nat.le_of_ble_eq_true rfl, Nat.le_of_ble_eq_true rfl⟩ (fun H locs hP hV hS => ?_)
  refine lv_aload_n hx hb dL_law_628 rfl (lv_at hl 1 rfl) ?_
  refine lv_aload_n hx hb dL_law_629 rfl (lv_at hl 3 rfl) ?_
  refine lv_iload_n hx hb dL_law_630 rfl (lv_at hl 0 rfl) ?_
  refine lv_iconst (v := (1 : Int32)) hx hb dL_law_631 (by decide) ?_
  refine lv_iadd hx hb dL_law_632 ?_
  refine tx_i (x := nI (i + 1)) (lw_p 1 rfl) ?_
  refine va_sld hx hb hX hbl hbA hS (lw_in 1 hi hL (by decide)) dL_law_633 ?_
  refine lv_aload_n hx hb dL_law_634 rfl (lv_at hl 3 rfl) ?_
  refine lv_iload_n hx hb dL_law_635 rfl (lv_at hl 0 rfl) ?_
  refine lv_iconst (v := (2 : Int32)) hx hb dL_law_636 (by decide) ?_
  refine lv_iadd hx hb dL_law_637 ?_
  refine tx_i (x := nI (i + 2)) (lw_p 2 rfl) ?_
  refine va_sld hx hb hX hbl hbA hS (lw_in 2 hi hL (by decide)) dL_law_638 ?_
  refine law_i (Wd := W_M) (V := (W_X q k S2)) SM_ok sameM ⟨hx, hb, hml, hown, hts⟩ (c_X12_amounts l D q2 k (xs (nI (i + 1)).toNatClampNeg) (xs (nI (i + 2)).toNatClampNeg) T H.size (r, T2) e2) (cwV 2 hts gL_law_X12_amounts rfl rfl rfl (by decide +kernel) ⟨Nat.le_of_ble_eq_true rfl, Nat.le_of_ble_eq_true rfl⟩) hK hV hP (hDM S2 T) hS hA trivial (va_recv hK hV (ci := 12) (q0 := 0) rfl rfl) (As := [.int (xs (nI (i + 1)).toNatClampNeg), .int (xs (nI (i + 2)).toNatClampNeg)]) rfl hl.1 rfl (Nat.le_of_ble_eq_true rfl) dL_law_639 ⟨Nat.le_of_ble_eq_true rfl, Nat.le_of_ble_eq_true rfl⟩ (fun H locs hV hP hS => ?_)
  exact lv_icmp_eq (tgt := 1589) hx hb dL_law_642 (by decide) (fun _ => kk S2 T2 H locs hR hP hV hS) (fun h9 => absurd rfl h9)
set_option maxHeartbeats 4000000 in
set_option maxRecDepth 100000 in
theorem law_case_13 (C0 : LC p s m c b L xs D q q2 k) (hi : i + 6 ≤ L) (h : RR RxC S T) (hP : va_P D vwCl (W_X q k S) H) (hV : va_P D vwCl (W_M q2 k T) H) (hS : va_S (AL s) s.heap H locs) (hl : lv_has ls 4 [(3, .int (nI i)), (2, .ref (q2 0)), (1, .ref (q 0)), (0, .ref b)]) (kk : ∀ (S2 T2 : St) (H : Heap) (locs : List Loc), RR RxC S2 T2 → va_P D vwCl (W_X q k S2) H → va_P D vwCl (W_M q2 k T2) H → va_S (AL s) s.heap H locs → W p l e room_1 s m #[Value.ref b] below meth c H locs 95 26919 Q (F0 m 1589 ls [])) : W p l e room_1 s m #[Value.ref b] below meth c H locs 95 26919 Q (F0 m 647 ls []) := by
  obtain ⟨hx, hb, hml, hown, hts, hX, hbl, hK, hDX, hDM, hsp, hL⟩ := C0
  have hA : ∀ a, s.heap.size ≤ a → AL s a := fun _ h => h
  have hbA : ¬ AL s b := Nat.not_le.mpr hbl
  obtain ⟨r, S2, T2, e1, e2, hR⟩ := op_spend (xs (nI (i + 1)).toNatClampNeg) (xs (nI (i + 2)).toNatClampNeg) (xs (nI (i + 3)).toNatClampNeg) h
  refine lv_aload_n hx hb dL_law_647 rfl (lv_at hl 2 rfl) ?_
  refine lv_aload_n hx hb dL_law_648 rfl (lv_at hl 3 rfl) ?_
  refine lv_iload_n hx hb dL_law_649 rfl (lv_at hl 0 rfl) ?_
  refine lv_iconst (v := (1 : Int32)) hx hb dL_law_650 (by decide) ?_
  refine lv_iadd hx hb dL_law_651 ?_
  refine tx_i (x := nI (i + 1)) (lw_p 1 rfl) ?_
  refine va_sld hx hb hX hbl hbA hS (lw_in 1 hi hL (by decide)) dL_law_652 ?_
  refine lv_aload_n hx hb dL_law_653 rfl (lv_at hl 3 rfl) ?_
  refine lv_iload_n hx hb dL_law_654 rfl (lv_at hl 0 rfl) ?_
  refine lv_iconst (v := (2 : Int32)) hx hb dL_law_655 (by decide) ?_
  refine lv_iadd hx hb dL_law_656 ?_
  refine tx_i (x := nI (i + 2)) (lw_p 2 rfl) ?_
  refine va_sld hx hb hX hbl hbA hS (lw_in 2 hi hL (by decide)) dL_law_657 ?_
  refine lv_aload_n hx hb dL_law_658 rfl (lv_at hl 3 rfl) ?_
  refine lv_iload_n hx hb dL_law_659 rfl (lv_at hl 0 rfl) ?_
  refine lv_iconst (v := (3 : Int32)) hx hb dL_law_660 (by decide) ?_
  refine lv_iadd hx hb dL_law_661 ?_
  refine tx_i (x := nI (i + 3)) (lw_p 3 rfl) ?_
  refine va_sld hx hb hX hbl hbA hS (lw_in 3 hi hL (by decide)) dL_law_662 ?_
  refine law_i (Wd := W_X) (V := (W_M q2 k T)) SX_ok sameX ⟨hx, hb, hml, hown, hts⟩ (c_X11_spend l D q k (xs (nI (i + 1)).toNatClampNeg) (xs (nI (i + 2)).toNatClampNeg) (xs (nI (i + 3)).toNatClampNeg) S H.size (r, S2) e1) (cwV 3 hts gL_law_X11_spend rfl rfl rfl (by decide +kernel) ⟨Nat.le_of_ble_eq_true rfl, Nat.le_of_ble_eq_true rfl⟩) hK hP hV (hDX S T) hS hA hsp (va_recv hK hP (ci := 11) (q0 := 0) rfl rfl) (As := [.int (xs (nI (i + 1)).toNatClampNeg), .int (xs (nI (i + 2)).toNatClampNeg), .int (xs (nI (i + 3)).toNatClampNeg)]) rfl hl.1 rfl (Nat.le_of_ble_eq_true rfl) dL_law_663 ⟨Nat.le_of_ble_eq_true rfl, Nat.le_of_ble_eq_true rfl⟩ (fun H locs hP hV hS => ?_)
  refine lv_aload_n hx hb dL_law_666 rfl (lv_at hl 1 rfl) ?_
  refine lv_aload_n hx hb dL_law_667 rfl (lv_at hl 3 rfl) ?_
  refine lv_iload_n hx hb dL_law_668 rfl (lv_at hl 0 rfl) ?_
  refine lv_iconst (v := (1 : Int32)) hx hb dL_law_669 (by decide) ?_
  refine lv_iadd hx hb dL_law_670 ?_
  refine tx_i (x := nI (i + 1)) (lw_p 1 rfl) ?_
  refine va_sld hx hb hX hbl hbA hS (lw_in 1 hi hL (by decide)) dL_law_671 ?_
  refine lv_aload_n hx hb dL_law_672 rfl (lv_at hl 3 rfl) ?_
  refine lv_iload_n hx hb dL_law_673 rfl (lv_at hl 0 rfl) ?_
  refine lv_iconst (v := (2 : Int32)) hx hb dL_law_674 (by decide) ?_
  refine lv_iadd hx hb dL_law_675 ?_
  refine tx_i (x := nI (i + 2)) (lw_p 2 rfl) ?_
  refine va_sld hx hb hX hbl hbA hS (lw_in 2 hi hL (by decide)) dL_law_676 ?_
  refine lv_aload_n hx hb dL_law_677 rfl (lv_at hl 3 rfl) ?_
  refine lv_iload_n hx hb dL_law_678 rfl (lv_at hl 0 rfl) ?_
  refine lv_iconst (v := (3 : Int32)) hx hb dL_law_679 (by decide) ?_
  refine lv_iadd hx hb dL_law_680 ?_
  refine tx_i (x := nI (i + 3)) (lw_p 3 rfl) ?_
  refine va_sld hx hb hX hbl hbA hS (lw_in 3 hi hL (by decide)) dL_law_681 ?_
  refine law_i (Wd := W_M) (V := (W_X q k S2)) SM_ok sameM ⟨hx, hb, hml, hown, hts⟩ (c_X12_spend l D q2 k (xs (nI (i + 1)).toNatClampNeg) (xs (nI (i + 2)).toNatClampNeg) (xs (nI (i + 3)).toNatClampNeg) T H.size (r, T2) e2) (cwV 3 hts gL_law_X12_spend rfl rfl rfl (by decide +kernel) ⟨Nat.le_of_ble_eq_true rfl, Nat.le_of_ble_eq_true rfl⟩) hK hV hP (hDM S2 T) hS hA trivial (va_recv hK hV (ci := 12) (q0 := 0) rfl rfl) (As := [.int (xs (nI (i + 1)).toNatClampNeg), .int (xs (nI (i + 2)).toNatClampNeg), .int (xs (nI (i + 3)).toNatClampNeg)]) rfl hl.1 rfl (Nat.le_of_ble_eq_true rfl) dL_law_682 ⟨Nat.le_of_ble_eq_true rfl, Nat.le_of_ble_eq_true rfl⟩ (fun H locs hV hP hS => ?_)
  exact lv_icmp_eq (tgt := 1589) hx hb dL_law_685 (by decide) (fun _ => kk S2 T2 H locs hR hP hV hS) (fun h9 => absurd rfl h9)
end
