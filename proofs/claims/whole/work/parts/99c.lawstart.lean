set_option maxHeartbeats 4000000 in
set_option maxRecDepth 100000 in
theorem whole_start {p : Program} {e : Env} {s : State} {m : MethodId} {below : List Frame} {meth : Method} {c : Code} (l : Launch) (hflags : l.flags = flags0) {b L : Nat} {xs : Nat → Int32} (hL : L ≤ 3072) (C0 : lw_At p s m meth c b L xs) : W p l e room_1 s m #[Value.ref b] below meth c s.heap [] 0 0 (lw_Z below #[Value.ref b] s) (entryFrame m ([Value.ref b] : List Value).toArray 4) := by
  obtain ⟨hx, hb, hr, hml, hown0, htt, hX, hbl, hlocks, hgv⟩ := id C0
  have hts : ∀ w ∈ lw_tbl, w.before #[Value.ref b] s = true := htt
  have hown : s.vm.findClass RL = some m.cls := hown0
  have hA : ∀ a : Nat, s.heap.size ≤ a → AL s a := fun _ h => h
  have hnA : ∀ a : Nat, a < s.heap.size → ¬ AL s a := fun _ h => Nat.not_le.mpr h
  have hbA : ¬ AL s b := Nat.not_le.mpr hbl
  have hnw : nwX s := lw_nw htt
  have hao : va_AO "CoinsOfLast$Shelf" s := lw_ao htt
  obtain ⟨t0, z0, y0⟩ := lw_st0 htt hgv (AL s) hnA
  obtain ⟨t1, z1, y1⟩ := lw_st1 htt hgv (AL s) hnA
  obtain ⟨t2, z2, y2⟩ := lw_st2 htt hgv (AL s) hnA
  obtain ⟨t3, z3, y3⟩ := lw_st3 htt hgv (AL s) hnA
  obtain ⟨c0, i0, n0⟩ := u_known (C := RX0) (T := TX0) (N := 6) (n := 6) hts inlX0 (hts (.instantiable RX0 6) (chk_in 1 _ (List.mem_of_getElem? (i := 228) rfl)))
  obtain ⟨c1, i1, n1⟩ := u_known (C := RX1) (T := TX1) (N := 6) (n := 6) hts inlX1 (hts (.instantiable RX1 6) (chk_in 1 _ (List.mem_of_getElem? (i := 27) rfl)))
  obtain ⟨c2, i2, n2⟩ := u_known (C := RX2) (T := TX2) (N := 5) (n := 5) hts inlX2 (hts (.instantiable RX2 5) (chk_in 2 _ (List.mem_of_getElem? (i := 45) rfl)))
  obtain ⟨c3, i3, n3⟩ := u_known (C := RX3) (T := TX3) (N := 3) (n := 3) hts inlX3 (hts (.instantiable RX3 3) (chk_in 1 _ (List.mem_of_getElem? (i := 212) rfl)))
  obtain ⟨c4, i4, n4⟩ := u_known (C := RX4) (T := TX4) (N := 6) (n := 6) hts inlX4 (hts (.instantiable RX4 6) (chk_in 2 _ (List.mem_of_getElem? (i := 19) rfl)))
  obtain ⟨c5, i5, n5⟩ := u_known (C := RX5) (T := TX5) (N := 5) (n := 5) hts inlX5 (hts (.instantiable RX5 5) (chk_in 1 _ (List.mem_of_getElem? (i := 103) rfl)))
  obtain ⟨c6, i6, n6⟩ := u_known (C := RX6) (T := TX6) (N := 6) (n := 6) hts inlX6 (hts (.instantiable RX6 6) (chk_in 1 _ (List.mem_of_getElem? (i := 128) rfl)))
  obtain ⟨c7, i7, n7⟩ := u_known (C := RX7) (T := TX7) (N := 5) (n := 5) hts inlX7 (hts (.instantiable RX7 5) (chk_in 2 _ (List.mem_of_getElem? (i := 71) rfl)))
  obtain ⟨c8, i8, n8⟩ := u_known (C := RX8) (T := TX8) (N := 5) (n := 5) hts inlX8 (hts (.instantiable RX8 5) (chk_in 1 _ (List.mem_of_getElem? (i := 162) rfl)))
  obtain ⟨c9, i9, n9⟩ := u_known (C := RX9) (T := TX9) (N := 5) (n := 5) hts inlX9 (hts (.instantiable RX9 5) (chk_in 1 _ (List.mem_of_getElem? (i := 69) rfl)))
  obtain ⟨c10, i10, n10⟩ := u_known (C := RX10) (T := TX10) (N := 6) (n := 6) hts inlX10 (hts (.instantiable RX10 6) (chk_in 1 _ (List.mem_of_getElem? (i := 156) rfl)))
  obtain ⟨c11, i11, n11⟩ := u_known (C := RX11) (T := TX11) (N := 13) (n := 13) hts inlX11 (hts (.instantiable RX11 13) (chk_in 1 _ (List.mem_of_getElem? (i := 19) rfl)))
  obtain ⟨c12, i12, n12⟩ := u_known (C := RX12) (T := TX12) (N := 57) (n := 57) hts inlX12 (hts (.instantiable RX12 57) (chk_in 5 _ (List.mem_of_getElem? (i := 21) rfl)))
  obtain ⟨D, hKc⟩ : ∃ D : va_G, ∀ (k : Nat) (q : vw_C), vwCl[k]? = some q → u_Kn s q.1 q.2.1 q.2.2 (D.1 k) (D.2 k) := by
    refine ⟨(fun k => [c0, c1, c2, c3, c4, c5, c6, c7, c8, c9, c10, c11, c12].getD k c0, fun k => [i0, i1, i2, i3, i4, i5, i6, i7, i8, i9, i10, i11, i12].getD k i0), ?_⟩
    intro k q hq
    match k, hq with
    | 0, hq => cases hq; exact n0
    | 1, hq => cases hq; exact n1
    | 2, hq => cases hq; exact n2
    | 3, hq => cases hq; exact n3
    | 4, hq => cases hq; exact n4
    | 5, hq => cases hq; exact n5
    | 6, hq => cases hq; exact n6
    | 7, hq => cases hq; exact n7
    | 8, hq => cases hq; exact n8
    | 9, hq => cases hq; exact n9
    | 10, hq => cases hq; exact n10
    | 11, hq => cases hq; exact n11
    | 12, hq => cases hq; exact n12
    | k + 13, hq => cases hq
  have hS : va_S (AL s) s.heap s.heap [] := va_S.rf
  have hK : va_K D vwCl [] s := ⟨hKc, fun k q h => by simp at h⟩
  have hP : va_P D vwCl [] s.heap := fun k q h => by simp at h
  have hD : va_D (AL s) [] := ⟨fun i j p q h => by simp at h, fun k q h => by simp at h⟩
  have hl := lv_entry ([.ref b]) (n := 4) (Nat.le_of_ble_eq_true rfl)
  rw [lg_entry_eq]
  generalize (lg_sl ([.ref b]) ++ List.replicate (4 - (lg_sl ([.ref b])).length) Slot.unset).toArray = ls at hl ⊢
  have hl : lv_has ls 4 [(0, .ref b)] := hl
  refine va_new (ci := 11) (fs := [.null, .null, .null, .null, .null, .null, .null, .null, .null, .null, .null, .null, .null]) (C := RX11) (T := TX11) (N := 13) hx hb hts inlX11 tyX11 tyX11_ok hown (hts (.classLink RL 7 RX11) (chk_in 1 _ (List.mem_of_getElem? (i := 18) rfl))) (hts (.instantiable RX11 13) (chk_in 1 _ (List.mem_of_getElem? (i := 19) rfl))) (hts (.initialized RX11) (chk_in 1 _ (List.mem_of_getElem? (i := 1) rfl))) hK hP hD hS hA rfl df_X11 (Nat.le_of_ble_eq_true rfl) (Nat.le_of_ble_eq_true rfl) dL_law_0 (fun h1 H hP hD hS => ?_)
  refine lv_dup hx hb dL_law_3 rfl ?_
  have hPc := hP.sub (ws' := [(h1, .inr (11, [.null, .null, .null, .null, .null, .null, .null, .null, .null, .null, .null, .null, .null]))]) [0] rfl
  have hDc := hD.sub (ws' := [(h1, .inr (11, [.null, .null, .null, .null, .null, .null, .null, .null, .null, .null, .null, .null, .null]))]) [0] (by decide) rfl
  have hKc := hK.sub (tys' := []) [] rfl
  have hFc := va_free (wc := [(h1, .inr (11, [.null, .null, .null, .null, .null, .null, .null, .null, .null, .null, .null, .null, .null]))]) hD hS hA [0] rfl
  refine va_callv (va_runI (As := []) (rest := [.ref h1]) ⟨hx, hb, hml, hown, hts⟩ (c_X11_init l D t0 t1 t2 t3 h1 H.size) (cwI 0 hts gL_law_X11_init rfl rfl rfl (hts (.initialized RX11) (chk_in 1 _ (List.mem_of_getElem? (i := 1) rfl))) (hts (.methodLink RL 9 yX11_init) (chk_in 1 _ (List.mem_of_getElem? (i := 20) rfl))) (hts (.instanceMethod yX11_init) (chk_in 1 _ (List.mem_of_getElem? (i := 21) rfl))) rfl (by decide +kernel) ⟨Nat.le_of_ble_eq_true rfl, Nat.le_of_ble_eq_true rfl⟩) ⟨fun a U g mk q => by obtain ⟨e, z, qP, qK, qD, qn, qa⟩ := q; exact ⟨e, z, qP, va_K.moved (u := U) (U := U.calling g mk a) (Vm.Alike.refl U.vm) qK, qD, nwX_calling qn, qa⟩, fun U hU hW => ⟨rfl, by rw [hU], by rw [hU]; exact hPc, va_K.moved hW.alike hKc, hDc.weaken (fun _ _ _ _ => trivial), nwX_warm hW hnw, va_AO.moved hW.alike hao⟩⟩ rfl rfl hl.1 rfl (lv_room (Nat.le_of_ble_eq_true rfl)) dL_law_4 ⟨Nat.le_of_ble_eq_true rfl, Nat.le_of_ble_eq_true rfl⟩) hS (fun q _ h => hFc q h) hFc (fun u t H1 locs ht hvm hw hB hz1 hk1 hS => ?_)
  obtain ⟨q, k1, ⟨e0, e60, e61, e62, e63⟩, hP1, hK1, hD1⟩ := hB
  subst e0
  rw [ht] at hP1
  have hK1 := va_K.moved hvm.symm hK1
  obtain ⟨hP, hD⟩ := va_grow hP hD hk1 hFc hP1 hD1
  have hK := hK.app hK1
  generalize H1 = H at hP hS ⊢
  have hP : va_P D vwCl (W_X q k1 S0) H := hP
  have hD : va_D (AL s) (W_X q k1 S0) := hD
  have hK : va_K D vwCl [(k1.1, .int), (k1.2.1, .long), (k1.2.2.2, .object RX7)] s := hK
  refine lv_astore_n (lv' := [(1, .ref (q 0)), (0, .ref b)]) hx hb dL_law_7 rfl hl (by decide) rfl (fun ls hl => ?_)
  refine va_new (ci := 12) (fs := [.int 0, .null, .null, .null, .null, .null, .int 0, .null, .null, .null, .null, .null, .int 0, .int 0, .int 0, .int 0, .int 0, .null, .int 0, .null, .int 0, .int 0, .null, .null, .null, .null, .null, .int 0, .int 0, .null, .int 0, .int 0, .null, .int 0, .null, .null, .null, .null, .null, .null, .long 0, .int 0, .int 0, .int 0, .int 0, .null, .null, .null, .int 0, .null, .int 0, .null, .int 0, .null, .null, .null, .null]) (C := RX12) (T := TX12) (N := 57) hx hb hts inlX12 tyX12 tyX12_ok hown (hts (.classLink RL 10 RX12) (chk_in 5 _ (List.mem_of_getElem? (i := 20) rfl))) (hts (.instantiable RX12 57) (chk_in 5 _ (List.mem_of_getElem? (i := 21) rfl))) (hts (.initialized RX12) (chk_in 1 _ (List.mem_of_getElem? (i := 13) rfl))) hK hP hD hS hA rfl df_X12 (Nat.le_of_ble_eq_true rfl) (Nat.le_of_ble_eq_true rfl) dL_law_8 (fun h2 H hP hD hS => ?_)
  refine lv_dup hx hb dL_law_11 rfl ?_
  have hPc := hP.sub (ws' := [(h2, .inr (12, [.int 0, .null, .null, .null, .null, .null, .int 0, .null, .null, .null, .null, .null, .int 0, .int 0, .int 0, .int 0, .int 0, .null, .int 0, .null, .int 0, .int 0, .null, .null, .null, .null, .null, .int 0, .int 0, .null, .int 0, .int 0, .null, .int 0, .null, .null, .null, .null, .null, .null, .long 0, .int 0, .int 0, .int 0, .int 0, .null, .null, .null, .int 0, .null, .int 0, .null, .int 0, .null, .null, .null, .null]))]) [60] rfl
  have hDc := hD.sub (ws' := [(h2, .inr (12, [.int 0, .null, .null, .null, .null, .null, .int 0, .null, .null, .null, .null, .null, .int 0, .int 0, .int 0, .int 0, .int 0, .null, .int 0, .null, .int 0, .int 0, .null, .null, .null, .null, .null, .int 0, .int 0, .null, .int 0, .int 0, .null, .int 0, .null, .null, .null, .null, .null, .null, .long 0, .int 0, .int 0, .int 0, .int 0, .null, .null, .null, .int 0, .null, .int 0, .null, .int 0, .null, .null, .null, .null]))]) [60] (by decide) rfl
  have hKc := hK.sub (tys' := []) [] rfl
  have hFc := va_free (wc := [(h2, .inr (12, [.int 0, .null, .null, .null, .null, .null, .int 0, .null, .null, .null, .null, .null, .int 0, .int 0, .int 0, .int 0, .int 0, .null, .int 0, .null, .int 0, .int 0, .null, .null, .null, .null, .null, .int 0, .int 0, .null, .int 0, .int 0, .null, .int 0, .null, .null, .null, .null, .null, .null, .long 0, .int 0, .int 0, .int 0, .int 0, .null, .null, .null, .int 0, .null, .int 0, .null, .int 0, .null, .null, .null, .null]))]) hD hS hA [60] rfl
  refine va_callv (va_runI (As := []) (rest := [.ref h2]) ⟨hx, hb, hml, hown, hts⟩ (c_X12_init l D h2 H.size) (cwI 0 hts gL_law_X12_init rfl rfl rfl (hts (.initialized RX12) (chk_in 1 _ (List.mem_of_getElem? (i := 13) rfl))) (hts (.methodLink RL 12 yX12_init) (chk_in 5 _ (List.mem_of_getElem? (i := 22) rfl))) (hts (.instanceMethod yX12_init) (chk_in 5 _ (List.mem_of_getElem? (i := 23) rfl))) rfl (by decide +kernel) ⟨Nat.le_of_ble_eq_true rfl, Nat.le_of_ble_eq_true rfl⟩) ⟨fun a U g mk q => by obtain ⟨e, z, qP, qK, qD⟩ := q; exact ⟨e, z, qP, va_K.moved (u := U) (U := U.calling g mk a) (Vm.Alike.refl U.vm) qK, qD⟩, fun U hU hW => ⟨rfl, by rw [hU], by rw [hU]; exact hPc, va_K.moved hW.alike hKc, hDc.weaken (fun _ _ _ _ => trivial)⟩⟩ rfl rfl hl.1 rfl (lv_room (Nat.le_of_ble_eq_true rfl)) dL_law_12 ⟨Nat.le_of_ble_eq_true rfl, Nat.le_of_ble_eq_true rfl⟩) hS (fun q _ h => hFc q h) hFc (fun u t H1 locs ht hvm hw hB hz1 hk1 hS => ?_)
  obtain ⟨r1, r2, r3, r4, r5, r6, r7, r8, r9, r10, r11, r12, r13, r14, r15, r16, r17, r18, r19, r20, r21, r22, r23, r24, r25, r26, r27, r28, r29, r30, r31, r32, r33, r34, k_int, k_boolean, k_long, hP1, hK1, hD1⟩ := hB
  rw [ht] at hP1
  have hK1 := va_K.moved hvm.symm hK1
  obtain ⟨hP, hD⟩ := va_grow hP hD hk1 hFc hP1 hD1
  have hK := hK.app hK1
  obtain rfl : k1.1 = k_int := va_one hK 0 3 rfl rfl
  obtain rfl : k1.2.1 = k_long := va_one hK 1 5 rfl rfl
  generalize H1 = H at hP hS ⊢
  obtain ⟨q2, eq2⟩ : ∃ z : Nat → Nat, z = fun i => [h2, r1, r2, r3, r4, r5, r6, r7, r8, r9, r10, r11, r12, r13, r14, r15, r16, r17, r18, r19, r20, r21, r22, r23, r24, r25, r26, r27, r28, r29, r30, r31, r32, r33, r34].getD i 0 := ⟨_, rfl⟩
  obtain ⟨k, ek⟩ : ∃ z : CI, z = (k1.1, k1.2.1, k_boolean, k1.2.2.2) := ⟨_, rfl⟩
  have hP : va_P D vwCl (W_X q k S0 ++ W_M q2 k T0) H := by rw [ek, eq2]; exact hP
  have hD : va_D (AL s) (W_X q k S0 ++ W_M q2 k T0) := by rw [ek, eq2]; exact hD
  have hK : va_K D vwCl (TYS k) s := by rw [ek]; exact hK.sub [0, 1, 4, 2] rfl
  have eh2 : h2 = q2 0 := by rw [eq2]; rfl
  refine lv_astore_n (lv' := [(2, .ref h2), (1, .ref (q 0)), (0, .ref b)]) hx hb dL_law_15 rfl hl (by decide) rfl (fun ls hl => ?_)
  refine lv_iconst (v := 0) hx hb dL_law_16 (by decide) ?_
  refine lv_istore_n (lv' := [(3, .int 0), (2, .ref h2), (1, .ref (q 0)), (0, .ref b)]) hx hb dL_law_17 rfl hl (by decide) rfl (fun ls hl => ?_)
  rw [eh2] at hl
  have hDX : ∀ S T, va_D (AL s) (W_X q k S ++ W_M q2 k T) := fun S T => va_D.same hD (by rw [List.map_append, List.map_append]; rfl)
  have hDM : ∀ S T, va_D (AL s) (W_M q2 k T ++ W_X q k S) := fun S T => va_D.swap (a := []) (b := W_X q k S) (c := W_M q2 k T) (hDX S T)
  have hsp : SX q (AL s) s := by unfold SX; rw [e60, e61, e62, e63]; exact ⟨hnw, z0, y0, z1, y1, z2, y2, z3, y3⟩
  have C1 : LC p s m c b L xs D q q2 k := ⟨hx, hb, hml, hown, hts, hX, hbl, hK, hDX, hDM, hsp, hL⟩
  have hPX : va_P D vwCl (W_X q k S0) H := fun i x h => hP i x (by rw [List.getElem?_append_left (List.getElem?_eq_some_iff.mp h).1]; exact h)
  have hPM : va_P D vwCl (W_M q2 k T0) H := fun i x h => hP ((W_X q k S0).length + i) x (by rw [List.getElem?_append_right (Nat.le_add_right _ _), Nat.add_sub_cancel_left]; exact h)
  refine W.widen (k := 95) (n := 26919) (Nat.le_of_ble_eq_true rfl) (Nat.le_of_ble_eq_true rfl) ?_
  exact law_loop C1 hr hlocks (L + 1) 0 (Nat.zero_le L) (by omega) S0 T0 H _ ls RR_0 hPX hPM hS hl
