-- X0_forgetFirst
def f_X0_forgetFirst_70 (S_4 : St) : Option (St) :=
  jx_l (u1 S_4 25 4 (39 : Int32)) (fun S_5 => some S_5)
def b_X0_forgetFirst_2 (x1 : Int32) (S : St) : Option ((Int32 × St) ⊕ (St)) :=
  (if (40 : Int32) ≤ x1 then some (.inr S) else jx_a x1 40 (jx_a (x1 - (1 : Int32)) 40 (jx_l (u1 S 26 (Int32.toNatClampNeg (x1 - (1 : Int32))) (S.1 26 (Int32.toNatClampNeg x1))) (fun S_11 => jx_a x1 40 (jx_a (x1 - (1 : Int32)) 40 (jx_l (u1 S_11 27 (Int32.toNatClampNeg (x1 - (1 : Int32))) (S_11.1 27 (Int32.toNatClampNeg x1))) (fun S_14 => jx_a x1 40 (jx_a (x1 - (1 : Int32)) 40 (jx_l (u1 S_14 28 (Int32.toNatClampNeg (x1 - (1 : Int32))) (S_14.1 28 (Int32.toNatClampNeg x1))) (fun S_17 => jx_a x1 40 (jx_a (x1 - (1 : Int32)) 40 (jx_l (u1 S_17 29 (Int32.toNatClampNeg (x1 - (1 : Int32))) (S_17.1 29 (Int32.toNatClampNeg x1))) (fun S_20 => jx_l (x1 + 1) (fun x1_21 => some (.inl (x1_21, S_20))))))))))))))))
def g_X0_forgetFirst_2 : (Int32 × St) → Option ((Int32 × St) ⊕ (St)) := fun z => b_X0_forgetFirst_2 z.1 z.2
def f_X0_forgetFirst (S : St) : Option (St) :=
  jx_b (jx_w (g_X0_forgetFirst_2) FU ((1 : Int32), S)) (fun z => f_X0_forgetFirst_70 z)
set_option maxHeartbeats 4000000 in
set_option maxRecDepth 100000 in
theorem c_X0_forgetFirst (l : Launch) (D : va_G) (q : Nat → Nat) (k : CI) (S : St) (sz : Nat) (Z : St) (hZ : f_X0_forgetFirst S = some Z) : MetV W_X SX l yX0_forgetFirst wsX0_forgetFirst { frames := 0, cells := 0, slots := 0, locals := 0 } [.ref (q 25)] D q k S sz Z := by
  refine enter (cc := cX0_forgetFirst) (maxL := 2) (ret := none) (by decide) rfl (Nat.le_of_ble_eq_true rfl) ?_
  intro p e s m below meth c A ls hx hb hr hts hown hlocks hml hP hK hD hA hS hsp hAe hl
  have hown : s.vm.findClass RX0 = some m.cls := hown
  have hl : lv_has ls 2 [(0, .ref (q 25))] := hl
  have in0 : ∀ w ∈ wsX00, w ∈ wsX0_forgetFirst := fun _ h => (List.mem_cons_of_mem _ (List.mem_append_right _ h))
  have j70 : ∀ (S_4 : St)  (H : Heap) (locs : List Loc) (hZ : f_X0_forgetFirst_70 S_4 = some Z) (hP : va_P D vwCl (W_X q k S_4) H) (hD : va_D A (W_X q k S_4)) (hS : va_S A s.heap H locs) (ls : Array Slot) (hl : lv_has ls 2 [(0, .ref (q 25))]), W p l e ({ frames := 0, cells := 0, slots := 0, locals := 0 } : Room) s m ([.ref (q 25)] : List Value).toArray below meth c H locs 0 0 (MQ below (va_Qv (fun u => u = Z) (fun u t => va_P D vwCl (W_X q k u) t.heap) A) ([.ref (q 25)] : List Value).toArray s 0 0 A) (F0 m 70 ls []) := by
    intro S_4   H locs hZ hP hD hS ls hl
    unfold f_X0_forgetFirst_70 at hZ
    refine lv_aload_n hx hb dX0_forgetFirst_70 rfl (lv_at hl 0 rfl) ?_
    refine lv_bipush (v := (39 : Int32)) hx hb dX0_forgetFirst_71 (by decide) ?_
    obtain ⟨S_5, e_S_5, hZ⟩ := jx_l_some hZ
    refine pf_0_done hx hb hts in0 hown hK hP hD hS (hts (.fieldLink RX0 24 "CoinsOfLast$Changes" "done" "I") (List.mem_of_getElem? (i := 5) rfl)) e_S_5 dX0_forgetFirst_73 (fun H locs hP hD hS => ?_)
    exact leave_v hx hb hr hlocks hP hS hZ dX0_forgetFirst_76
  unfold f_X0_forgetFirst at hZ
  refine lv_iconst (v := (1 : Int32)) hx hb dX0_forgetFirst_0 (by decide) ?_
  refine lv_istore_n (lv' := [(1, .int (1 : Int32)), (0, .ref (q 25))]) hx hb dX0_forgetFirst_1 rfl hl (by decide) rfl (fun ls hl => ?_)
  obtain ⟨r_3, hw, hza_3⟩ := jx_b_some hZ
  have l_3 : ∀ (nn : Nat) (x1_1 : Int32) (S_2 : St) (H : Heap) (locs : List Loc) (hw : jx_w (g_X0_forgetFirst_2) nn (x1_1, S_2) = some r_3) (hP : va_P D vwCl (W_X q k S_2) H) (hD : va_D A (W_X q k S_2)) (hS : va_S A s.heap H locs) (ls : Array Slot) (hl : lv_has ls 2 [(0, .ref (q 25)), (1, .int x1_1)]), W p l e ({ frames := 0, cells := 0, slots := 0, locals := 0 } : Room) s m ([.ref (q 25)] : List Value).toArray below meth c H locs 0 0 (MQ below (va_Qv (fun u => u = Z) (fun u t => va_P D vwCl (W_X q k u) t.heap) A) ([.ref (q 25)] : List Value).toArray s 0 0 A) (F0 m 2 ls []) := by
    intro nn
    induction nn with
    | zero =>
      intro x1_1 S_2 H locs hw hP hD hS ls hl
      exact jx_w_zero hw
    | succ n_3 ih_3 =>
      intro x1_1 S_2 H locs hw hP hD hS ls hl
      obtain ⟨o_3, hZ, hk_3⟩ := jx_w_succ hw
      have hZ : b_X0_forgetFirst_2 x1_1 S_2 = some o_3 := hZ
      unfold b_X0_forgetFirst_2 at hZ
      refine lv_iload_n hx hb dX0_forgetFirst_2 rfl (lv_at hl 1 rfl) ?_
      refine lv_bipush (v := (40 : Int32)) hx hb dX0_forgetFirst_3 (by decide) ?_
      refine lv_icmp_ge (tgt := 70) hx hb dX0_forgetFirst_5 (by decide) (fun c_22 => ?_) (fun c_22 => ?_)
      · have hZ := jx_i_pos c_22 hZ
        have ho := Option.some.inj hZ
        subst ho
        have hE := hza_3
        rw [← (show S_2 = r_3 from hk_3)] at hE
        have hZ : f_X0_forgetFirst_70 S_2 = some Z := hE
        exact j70 S_2 _ _ hZ hP hD hS _ (lv_sub hl [0] rfl)
      · have hZ := jx_i_neg c_22 hZ
        refine lv_aload_n hx hb dX0_forgetFirst_8 rfl (lv_at hl 0 rfl) ?_
        refine gf_0_number hx hb hts in0 hown hK hP (hts (.fieldLink RX0 9 "CoinsOfLast$Changes" "number" "[I") (List.mem_of_getElem? (i := 1) rfl)) dX0_forgetFirst_9 ?_
        refine lv_iload_n hx hb dX0_forgetFirst_12 rfl (lv_at hl 1 rfl) ?_
        refine lv_iconst (v := (1 : Int32)) hx hb dX0_forgetFirst_13 (by decide) ?_
        refine lv_isub hx hb dX0_forgetFirst_14 ?_
        refine lv_aload_n hx hb dX0_forgetFirst_15 rfl (lv_at hl 0 rfl) ?_
        refine gf_0_number hx hb hts in0 hown hK hP (hts (.fieldLink RX0 9 "CoinsOfLast$Changes" "number" "[I") (List.mem_of_getElem? (i := 1) rfl)) dX0_forgetFirst_16 ?_
        refine lv_iload_n hx hb dX0_forgetFirst_19 rfl (lv_at hl 1 rfl) ?_
        obtain ⟨c_24, hZ⟩ := jx_a_some hZ
        refine X_iald hx hb hK hP wX_26 c_24 dX0_forgetFirst_20 ?_
        obtain ⟨c_25, hZ⟩ := jx_a_some hZ
        obtain ⟨S_26, e_S_26, hZ⟩ := jx_l_some hZ
        refine X_iast hx hb hK hP hD hS wX_26 (fun _ => wXs_26) c_25 e_S_26 dX0_forgetFirst_21 (fun H locs hP hD hS => ?_)
        refine lv_aload_n hx hb dX0_forgetFirst_22 rfl (lv_at hl 0 rfl) ?_
        refine gf_0_what hx hb hts in0 hown hK hP (hts (.fieldLink RX0 15 "CoinsOfLast$Changes" "what" "[I") (List.mem_of_getElem? (i := 2) rfl)) dX0_forgetFirst_23 ?_
        refine lv_iload_n hx hb dX0_forgetFirst_26 rfl (lv_at hl 1 rfl) ?_
        refine lv_iconst (v := (1 : Int32)) hx hb dX0_forgetFirst_27 (by decide) ?_
        refine lv_isub hx hb dX0_forgetFirst_28 ?_
        refine lv_aload_n hx hb dX0_forgetFirst_29 rfl (lv_at hl 0 rfl) ?_
        refine gf_0_what hx hb hts in0 hown hK hP (hts (.fieldLink RX0 15 "CoinsOfLast$Changes" "what" "[I") (List.mem_of_getElem? (i := 2) rfl)) dX0_forgetFirst_30 ?_
        refine lv_iload_n hx hb dX0_forgetFirst_33 rfl (lv_at hl 1 rfl) ?_
        obtain ⟨c_27, hZ⟩ := jx_a_some hZ
        refine X_iald hx hb hK hP wX_27 c_27 dX0_forgetFirst_34 ?_
        obtain ⟨c_28, hZ⟩ := jx_a_some hZ
        obtain ⟨S_29, e_S_29, hZ⟩ := jx_l_some hZ
        refine X_iast hx hb hK hP hD hS wX_27 (fun _ => wXs_27) c_28 e_S_29 dX0_forgetFirst_35 (fun H locs hP hD hS => ?_)
        refine lv_aload_n hx hb dX0_forgetFirst_36 rfl (lv_at hl 0 rfl) ?_
        refine gf_0_was hx hb hts in0 hown hK hP (hts (.fieldLink RX0 18 "CoinsOfLast$Changes" "was" "[I") (List.mem_of_getElem? (i := 3) rfl)) dX0_forgetFirst_37 ?_
        refine lv_iload_n hx hb dX0_forgetFirst_40 rfl (lv_at hl 1 rfl) ?_
        refine lv_iconst (v := (1 : Int32)) hx hb dX0_forgetFirst_41 (by decide) ?_
        refine lv_isub hx hb dX0_forgetFirst_42 ?_
        refine lv_aload_n hx hb dX0_forgetFirst_43 rfl (lv_at hl 0 rfl) ?_
        refine gf_0_was hx hb hts in0 hown hK hP (hts (.fieldLink RX0 18 "CoinsOfLast$Changes" "was" "[I") (List.mem_of_getElem? (i := 3) rfl)) dX0_forgetFirst_44 ?_
        refine lv_iload_n hx hb dX0_forgetFirst_47 rfl (lv_at hl 1 rfl) ?_
        obtain ⟨c_30, hZ⟩ := jx_a_some hZ
        refine X_iald hx hb hK hP wX_28 c_30 dX0_forgetFirst_48 ?_
        obtain ⟨c_31, hZ⟩ := jx_a_some hZ
        obtain ⟨S_32, e_S_32, hZ⟩ := jx_l_some hZ
        refine X_iast hx hb hK hP hD hS wX_28 (fun _ => wXs_28) c_31 e_S_32 dX0_forgetFirst_49 (fun H locs hP hD hS => ?_)
        refine lv_aload_n hx hb dX0_forgetFirst_50 rfl (lv_at hl 0 rfl) ?_
        refine gf_0_became hx hb hts in0 hown hK hP (hts (.fieldLink RX0 21 "CoinsOfLast$Changes" "became" "[I") (List.mem_of_getElem? (i := 4) rfl)) dX0_forgetFirst_51 ?_
        refine lv_iload_n hx hb dX0_forgetFirst_54 rfl (lv_at hl 1 rfl) ?_
        refine lv_iconst (v := (1 : Int32)) hx hb dX0_forgetFirst_55 (by decide) ?_
        refine lv_isub hx hb dX0_forgetFirst_56 ?_
        refine lv_aload_n hx hb dX0_forgetFirst_57 rfl (lv_at hl 0 rfl) ?_
        refine gf_0_became hx hb hts in0 hown hK hP (hts (.fieldLink RX0 21 "CoinsOfLast$Changes" "became" "[I") (List.mem_of_getElem? (i := 4) rfl)) dX0_forgetFirst_58 ?_
        refine lv_iload_n hx hb dX0_forgetFirst_61 rfl (lv_at hl 1 rfl) ?_
        obtain ⟨c_33, hZ⟩ := jx_a_some hZ
        refine X_iald hx hb hK hP wX_29 c_33 dX0_forgetFirst_62 ?_
        obtain ⟨c_34, hZ⟩ := jx_a_some hZ
        obtain ⟨S_35, e_S_35, hZ⟩ := jx_l_some hZ
        refine X_iast hx hb hK hP hD hS wX_29 (fun _ => wXs_29) c_34 e_S_35 dX0_forgetFirst_63 (fun H locs hP hD hS => ?_)
        obtain ⟨x1_36, e_x1_36, hZ⟩ := jx_l_some hZ
        refine lv_iinc (v := x1_36) (lv' := [(1, .int x1_36), (0, .ref (q 25))]) hx hb dX0_forgetFirst_64 hl (k := 1) rfl (by rw [e_x1_36]; rfl) (by decide) rfl (fun ls hl => ?_)
        refine lv_goto (tgt := 2) hx hb dX0_forgetFirst_67 (by decide) ?_
        have ho := Option.some.inj hZ
        subst ho
        exact ih_3 x1_36 S_35 _ _ hk_3 hP hD hS _ (lv_sub hl [1, 0] rfl)
  exact l_3 FU (1 : Int32) S _ _ hw hP hD hS _ (lv_sub hl [1, 0] rfl)
theorem hd_X0_forgetFirst : yX0_forgetFirst.cls = RX0 ∧ yX0_forgetFirst.cls ≠ "java/lang/invoke/MethodHandle" ∧ yX0_forgetFirst.cls ≠ "java/lang/invoke/VarHandle" ∧ (parseMethodDescriptor yX0_forgetFirst.desc).map (fun d => d.parameters.length) = some 0 := by decide +kernel
-- X0_add
def f_X0_add_13 (x1_2 : Int32) (x2_2 : Int32) (x3_2 : Int32) (x4_2 : Int32) (S_2 : St) : Option (St) :=
  jx_a (S_2.1 25 4) 40 (jx_l (u1 S_2 26 (Int32.toNatClampNeg (S_2.1 25 4)) x1_2) (fun S_4 => jx_a (S_4.1 25 4) 40 (jx_l (u1 S_4 27 (Int32.toNatClampNeg (S_4.1 25 4)) x2_2) (fun S_6 => jx_a (S_6.1 25 4) 40 (jx_l (u1 S_6 28 (Int32.toNatClampNeg (S_6.1 25 4)) x3_2) (fun S_8 => jx_a (S_8.1 25 4) 40 (jx_l (u1 S_8 29 (Int32.toNatClampNeg (S_8.1 25 4)) x4_2) (fun S_10 => jx_l (u1 S_10 25 4 ((S_10.1 25 4) + (1 : Int32))) (fun S_11 => jx_l (u1 S_11 25 5 (S_11.1 25 4)) (fun S_12 => some S_12))))))))))
def f_X0_add (x1 : Int32) (x2 : Int32) (x3 : Int32) (x4 : Int32) (S : St) : Option (St) :=
  (if (S.1 25 4) < (40 : Int32) then f_X0_add_13 x1 x2 x3 x4 S else jx_b (f_X0_forgetFirst S) (fun S_14 => f_X0_add_13 x1 x2 x3 x4 S_14))
set_option maxHeartbeats 4000000 in
set_option maxRecDepth 100000 in
theorem c_X0_add (l : Launch) (D : va_G) (q : Nat → Nat) (k : CI) (x1 : Int32) (x2 : Int32) (x3 : Int32) (x4 : Int32) (S : St) (sz : Nat) (Z : St) (hZ : f_X0_add x1 x2 x3 x4 S = some Z) : MetV W_X SX l yX0_add wsX0_add { frames := 1, cells := 0, slots := 0, locals := 21 } [.ref (q 25), .int x1, .int x2, .int x3, .int x4] D q k S sz Z := by
  refine enter (cc := cX0_add) (maxL := 5) (ret := none) (by decide) rfl (Nat.le_of_ble_eq_true rfl) ?_
  intro p e s m below meth c A ls hx hb hr hts hown hlocks hml hP hK hD hA hS hsp hAe hl
  have hown : s.vm.findClass RX0 = some m.cls := hown
  have hl : lv_has ls 5 [(0, .ref (q 25)), (1, .int x1), (2, .int x2), (3, .int x3), (4, .int x4)] := hl
  have in0 : ∀ w ∈ wsX00, w ∈ wsX0_add := fun _ h => (List.mem_cons_of_mem _ (List.mem_append_right _ h))
  have j13 : ∀ (x1_2 : Int32) (x2_2 : Int32) (x3_2 : Int32) (x4_2 : Int32) (S_2 : St)  (H : Heap) (locs : List Loc) (hZ : f_X0_add_13 x1_2 x2_2 x3_2 x4_2 S_2 = some Z) (hP : va_P D vwCl (W_X q k S_2) H) (hD : va_D A (W_X q k S_2)) (hS : va_S A s.heap H locs) (ls : Array Slot) (hl : lv_has ls 5 [(0, .ref (q 25)), (1, .int x1_2), (2, .int x2_2), (3, .int x3_2), (4, .int x4_2)]), W p l e ({ frames := 1, cells := 0, slots := 0, locals := 21 } : Room) s m ([.ref (q 25), .int x1, .int x2, .int x3, .int x4] : List Value).toArray below meth c H locs 0 0 (MQ below (va_Qv (fun u => u = Z) (fun u t => va_P D vwCl (W_X q k u) t.heap) A) ([.ref (q 25), .int x1, .int x2, .int x3, .int x4] : List Value).toArray s 0 0 A) (F0 m 13 ls []) := by
    intro x1_2 x2_2 x3_2 x4_2 S_2   H locs hZ hP hD hS ls hl
    unfold f_X0_add_13 at hZ
    refine lv_aload_n hx hb dX0_add_13 rfl (lv_at hl 0 rfl) ?_
    refine gf_0_number hx hb hts in0 hown hK hP (hts (.fieldLink RX0 9 "CoinsOfLast$Changes" "number" "[I") (List.mem_of_getElem? (i := 2) rfl)) dX0_add_14 ?_
    refine lv_aload_n hx hb dX0_add_17 rfl (lv_at hl 0 rfl) ?_
    refine gf_0_done hx hb hts in0 hown hK hP (hts (.fieldLink RX0 24 "CoinsOfLast$Changes" "done" "I") (List.mem_of_getElem? (i := 1) rfl)) dX0_add_18 ?_
    refine lv_iload_n hx hb dX0_add_21 rfl (lv_at hl 1 rfl) ?_
    obtain ⟨c_3, hZ⟩ := jx_a_some hZ
    obtain ⟨S_4, e_S_4, hZ⟩ := jx_l_some hZ
    refine X_iast hx hb hK hP hD hS wX_26 (fun _ => wXs_26) c_3 e_S_4 dX0_add_22 (fun H locs hP hD hS => ?_)
    refine lv_aload_n hx hb dX0_add_23 rfl (lv_at hl 0 rfl) ?_
    refine gf_0_what hx hb hts in0 hown hK hP (hts (.fieldLink RX0 15 "CoinsOfLast$Changes" "what" "[I") (List.mem_of_getElem? (i := 3) rfl)) dX0_add_24 ?_
    refine lv_aload_n hx hb dX0_add_27 rfl (lv_at hl 0 rfl) ?_
    refine gf_0_done hx hb hts in0 hown hK hP (hts (.fieldLink RX0 24 "CoinsOfLast$Changes" "done" "I") (List.mem_of_getElem? (i := 1) rfl)) dX0_add_28 ?_
    refine lv_iload_n hx hb dX0_add_31 rfl (lv_at hl 2 rfl) ?_
    obtain ⟨c_5, hZ⟩ := jx_a_some hZ
    obtain ⟨S_6, e_S_6, hZ⟩ := jx_l_some hZ
    refine X_iast hx hb hK hP hD hS wX_27 (fun _ => wXs_27) c_5 e_S_6 dX0_add_32 (fun H locs hP hD hS => ?_)
    refine lv_aload_n hx hb dX0_add_33 rfl (lv_at hl 0 rfl) ?_
    refine gf_0_was hx hb hts in0 hown hK hP (hts (.fieldLink RX0 18 "CoinsOfLast$Changes" "was" "[I") (List.mem_of_getElem? (i := 4) rfl)) dX0_add_34 ?_
    refine lv_aload_n hx hb dX0_add_37 rfl (lv_at hl 0 rfl) ?_
    refine gf_0_done hx hb hts in0 hown hK hP (hts (.fieldLink RX0 24 "CoinsOfLast$Changes" "done" "I") (List.mem_of_getElem? (i := 1) rfl)) dX0_add_38 ?_
    refine lv_iload_n hx hb dX0_add_41 rfl (lv_at hl 3 rfl) ?_
    obtain ⟨c_7, hZ⟩ := jx_a_some hZ
    obtain ⟨S_8, e_S_8, hZ⟩ := jx_l_some hZ
    refine X_iast hx hb hK hP hD hS wX_28 (fun _ => wXs_28) c_7 e_S_8 dX0_add_42 (fun H locs hP hD hS => ?_)
    refine lv_aload_n hx hb dX0_add_43 rfl (lv_at hl 0 rfl) ?_
    refine gf_0_became hx hb hts in0 hown hK hP (hts (.fieldLink RX0 21 "CoinsOfLast$Changes" "became" "[I") (List.mem_of_getElem? (i := 5) rfl)) dX0_add_44 ?_
    refine lv_aload_n hx hb dX0_add_47 rfl (lv_at hl 0 rfl) ?_
    refine gf_0_done hx hb hts in0 hown hK hP (hts (.fieldLink RX0 24 "CoinsOfLast$Changes" "done" "I") (List.mem_of_getElem? (i := 1) rfl)) dX0_add_48 ?_
    refine lv_iload hx hb dX0_add_51 (lv_at hl 4 rfl) ?_
    obtain ⟨c_9, hZ⟩ := jx_a_some hZ
    obtain ⟨S_10, e_S_10, hZ⟩ := jx_l_some hZ
    refine X_iast hx hb hK hP hD hS wX_29 (fun _ => wXs_29) c_9 e_S_10 dX0_add_53 (fun H locs hP hD hS => ?_)
    refine lv_aload_n hx hb dX0_add_54 rfl (lv_at hl 0 rfl) ?_
    refine lv_dup hx hb dX0_add_55 rfl ?_
    refine gf_0_done hx hb hts in0 hown hK hP (hts (.fieldLink RX0 24 "CoinsOfLast$Changes" "done" "I") (List.mem_of_getElem? (i := 1) rfl)) dX0_add_56 ?_
    refine lv_iconst (v := (1 : Int32)) hx hb dX0_add_59 (by decide) ?_
    refine lv_iadd hx hb dX0_add_60 ?_
    obtain ⟨S_11, e_S_11, hZ⟩ := jx_l_some hZ
    refine pf_0_done hx hb hts in0 hown hK hP hD hS (hts (.fieldLink RX0 24 "CoinsOfLast$Changes" "done" "I") (List.mem_of_getElem? (i := 1) rfl)) e_S_11 dX0_add_61 (fun H locs hP hD hS => ?_)
    refine lv_aload_n hx hb dX0_add_64 rfl (lv_at hl 0 rfl) ?_
    refine lv_aload_n hx hb dX0_add_65 rfl (lv_at hl 0 rfl) ?_
    refine gf_0_done hx hb hts in0 hown hK hP (hts (.fieldLink RX0 24 "CoinsOfLast$Changes" "done" "I") (List.mem_of_getElem? (i := 1) rfl)) dX0_add_66 ?_
    obtain ⟨S_12, e_S_12, hZ⟩ := jx_l_some hZ
    refine pf_0_stored hx hb hts in0 hown hK hP hD hS (hts (.fieldLink RX0 31 "CoinsOfLast$Changes" "stored" "I") (List.mem_of_getElem? (i := 6) rfl)) e_S_12 dX0_add_69 (fun H locs hP hD hS => ?_)
    exact leave_v hx hb hr hlocks hP hS hZ dX0_add_72
  unfold f_X0_add at hZ
  refine lv_aload_n hx hb dX0_add_0 rfl (lv_at hl 0 rfl) ?_
  refine gf_0_done hx hb hts in0 hown hK hP (hts (.fieldLink RX0 24 "CoinsOfLast$Changes" "done" "I") (List.mem_of_getElem? (i := 1) rfl)) dX0_add_1 ?_
  refine lv_bipush (v := (40 : Int32)) hx hb dX0_add_4 (by decide) ?_
  refine lv_icmp_lt (tgt := 13) hx hb dX0_add_6 (by decide) (fun c_1 => ?_) (fun c_1 => ?_)
  · have hZ := jx_i_pos c_1 hZ
    exact j13 x1 x2 x3 x4 S _ _ hZ hP hD hS _ (lv_sub hl [0, 1, 2, 3, 4] rfl)
  · have hZ := jx_i_neg c_1 hZ
    refine lv_aload_n hx hb dX0_add_9 rfl (lv_at hl 0 rfl) ?_
    obtain ⟨S_14, hc_15, hZ⟩ := jx_b_some hZ
    refine call_Vv SX_ok sameX ⟨hx, hb, hml, hown, hts⟩ (c_X0_forgetFirst l D q k  S _ S_14  hc_15) (cwV 0 hts gX0_add_X0_forgetFirst rfl rfl rfl hd_X0_forgetFirst ⟨Nat.le_of_ble_eq_true rfl, Nat.le_of_ble_eq_true rfl⟩) hK hP hD hS hA hsp (va_recv hK hP (ci := 0) (q0 := 25) rfl wX_25) (As := []) rfl hl.1 rfl (Nat.le_of_ble_eq_true rfl) dX0_add_10 ⟨Nat.zero_le _, Nat.zero_le _⟩ (fun H locs hP hD hS => ?_)
    exact j13 x1 x2 x3 x4 S_14 _ _ hZ hP hD hS _ (lv_sub hl [0, 1, 2, 3, 4] rfl)
-- X0_stepBack
def f_X0_stepBack (S : St) : Option (Int32 × St) :=
  (if 0 < (S.1 25 4) then jx_l (u1 S 25 4 ((S.1 25 4) - (1 : Int32))) (fun S_2 => some ((S_2.1 25 4), S_2)) else some ((-1 : Int32), S))
set_option maxHeartbeats 4000000 in
set_option maxRecDepth 100000 in
theorem c_X0_stepBack (l : Launch) (D : va_G) (q : Nat → Nat) (k : CI) (S : St) (sz : Nat) (Z : Int32 × St) (hZ : f_X0_stepBack S = some Z) : MetI W_X SX l yX0_stepBack wsX0_stepBack { frames := 0, cells := 0, slots := 0, locals := 0 } [.ref (q 25)] D q k S sz Z := by
  refine enter (cc := cX0_stepBack) (maxL := 1) (ret := some .int) (by decide) rfl (Nat.le_of_ble_eq_true rfl) ?_
  intro p e s m below meth c A ls hx hb hr hts hown hlocks hml hP hK hD hA hS hsp hAe hl
  have hown : s.vm.findClass RX0 = some m.cls := hown
  have hl : lv_has ls 1 [(0, .ref (q 25))] := hl
  have in0 : ∀ w ∈ wsX00, w ∈ wsX0_stepBack := fun _ h => (List.mem_cons_of_mem _ (List.mem_append_right _ h))
  unfold f_X0_stepBack at hZ
  refine lv_aload_n hx hb dX0_stepBack_0 rfl (lv_at hl 0 rfl) ?_
  refine gf_0_done hx hb hts in0 hown hK hP (hts (.fieldLink RX0 24 "CoinsOfLast$Changes" "done" "I") (List.mem_of_getElem? (i := 1) rfl)) dX0_stepBack_1 ?_
  refine lv_if_gt (tgt := 9) hx hb dX0_stepBack_4 (by decide) (fun c_1 => ?_) (fun c_1 => ?_)
  · have hZ := jx_i_pos c_1 hZ
    refine lv_aload_n hx hb dX0_stepBack_9 rfl (lv_at hl 0 rfl) ?_
    refine lv_dup hx hb dX0_stepBack_10 rfl ?_
    refine gf_0_done hx hb hts in0 hown hK hP (hts (.fieldLink RX0 24 "CoinsOfLast$Changes" "done" "I") (List.mem_of_getElem? (i := 1) rfl)) dX0_stepBack_11 ?_
    refine lv_iconst (v := (1 : Int32)) hx hb dX0_stepBack_14 (by decide) ?_
    refine lv_isub hx hb dX0_stepBack_15 ?_
    obtain ⟨S_2, e_S_2, hZ⟩ := jx_l_some hZ
    refine pf_0_done hx hb hts in0 hown hK hP hD hS (hts (.fieldLink RX0 24 "CoinsOfLast$Changes" "done" "I") (List.mem_of_getElem? (i := 1) rfl)) e_S_2 dX0_stepBack_16 (fun H locs hP hD hS => ?_)
    refine lv_aload_n hx hb dX0_stepBack_19 rfl (lv_at hl 0 rfl) ?_
    refine gf_0_done hx hb hts in0 hown hK hP (hts (.fieldLink RX0 24 "CoinsOfLast$Changes" "done" "I") (List.mem_of_getElem? (i := 1) rfl)) dX0_stepBack_20 ?_
    exact leave_i hx hb hr hlocks hP hS hZ dX0_stepBack_23
  · have hZ := jx_i_neg c_1 hZ
    refine lv_iconst (v := (-1 : Int32)) hx hb dX0_stepBack_7 (by decide) ?_
    exact leave_i hx hb hr hlocks hP hS hZ dX0_stepBack_8
-- X0_stepOn
def f_X0_stepOn (S : St) : Option (Int32 × St) :=
  (if (S.1 25 4) < (S.1 25 5) then jx_l (u1 S 25 4 ((S.1 25 4) + (1 : Int32))) (fun S_2 => some (((S_2.1 25 4) - (1 : Int32)), S_2)) else some ((-1 : Int32), S))
set_option maxHeartbeats 4000000 in
set_option maxRecDepth 100000 in
theorem c_X0_stepOn (l : Launch) (D : va_G) (q : Nat → Nat) (k : CI) (S : St) (sz : Nat) (Z : Int32 × St) (hZ : f_X0_stepOn S = some Z) : MetI W_X SX l yX0_stepOn wsX0_stepOn { frames := 0, cells := 0, slots := 0, locals := 0 } [.ref (q 25)] D q k S sz Z := by
  refine enter (cc := cX0_stepOn) (maxL := 1) (ret := some .int) (by decide) rfl (Nat.le_of_ble_eq_true rfl) ?_
  intro p e s m below meth c A ls hx hb hr hts hown hlocks hml hP hK hD hA hS hsp hAe hl
  have hown : s.vm.findClass RX0 = some m.cls := hown
  have hl : lv_has ls 1 [(0, .ref (q 25))] := hl
  have in0 : ∀ w ∈ wsX00, w ∈ wsX0_stepOn := fun _ h => (List.mem_cons_of_mem _ (List.mem_append_right _ h))
  unfold f_X0_stepOn at hZ
  refine lv_aload_n hx hb dX0_stepOn_0 rfl (lv_at hl 0 rfl) ?_
  refine gf_0_done hx hb hts in0 hown hK hP (hts (.fieldLink RX0 24 "CoinsOfLast$Changes" "done" "I") (List.mem_of_getElem? (i := 1) rfl)) dX0_stepOn_1 ?_
  refine lv_aload_n hx hb dX0_stepOn_4 rfl (lv_at hl 0 rfl) ?_
  refine gf_0_stored hx hb hts in0 hown hK hP (hts (.fieldLink RX0 31 "CoinsOfLast$Changes" "stored" "I") (List.mem_of_getElem? (i := 2) rfl)) dX0_stepOn_5 ?_
  refine lv_icmp_lt (tgt := 13) hx hb dX0_stepOn_8 (by decide) (fun c_1 => ?_) (fun c_1 => ?_)
  · have hZ := jx_i_pos c_1 hZ
    refine lv_aload_n hx hb dX0_stepOn_13 rfl (lv_at hl 0 rfl) ?_
    refine lv_dup hx hb dX0_stepOn_14 rfl ?_
    refine gf_0_done hx hb hts in0 hown hK hP (hts (.fieldLink RX0 24 "CoinsOfLast$Changes" "done" "I") (List.mem_of_getElem? (i := 1) rfl)) dX0_stepOn_15 ?_
    refine lv_iconst (v := (1 : Int32)) hx hb dX0_stepOn_18 (by decide) ?_
    refine lv_iadd hx hb dX0_stepOn_19 ?_
    obtain ⟨S_2, e_S_2, hZ⟩ := jx_l_some hZ
    refine pf_0_done hx hb hts in0 hown hK hP hD hS (hts (.fieldLink RX0 24 "CoinsOfLast$Changes" "done" "I") (List.mem_of_getElem? (i := 1) rfl)) e_S_2 dX0_stepOn_20 (fun H locs hP hD hS => ?_)
    refine lv_aload_n hx hb dX0_stepOn_23 rfl (lv_at hl 0 rfl) ?_
    refine gf_0_done hx hb hts in0 hown hK hP (hts (.fieldLink RX0 24 "CoinsOfLast$Changes" "done" "I") (List.mem_of_getElem? (i := 1) rfl)) dX0_stepOn_24 ?_
    refine lv_iconst (v := (1 : Int32)) hx hb dX0_stepOn_27 (by decide) ?_
    refine lv_isub hx hb dX0_stepOn_28 ?_
    exact leave_i hx hb hr hlocks hP hS hZ dX0_stepOn_29
  · have hZ := jx_i_neg c_1 hZ
    refine lv_iconst (v := (-1 : Int32)) hx hb dX0_stepOn_11 (by decide) ?_
    exact leave_i hx hb hr hlocks hP hS hZ dX0_stepOn_12
-- X11_within
def f_X11_within (x0 : Int32) (x1 : Int32) (x2 : Int32) (S : St) : Option (Int32 × St) :=
  (if x0 < x1 then some ((0 : Int32), S) else (if x2 < x0 then some ((0 : Int32), S) else some ((1 : Int32), S)))
set_option maxHeartbeats 4000000 in
set_option maxRecDepth 100000 in
theorem c_X11_within (l : Launch) (D : va_G) (q : Nat → Nat) (k : CI) (x0 : Int32) (x1 : Int32) (x2 : Int32) (S : St) (sz : Nat) (Z : Int32 × St) (hZ : f_X11_within x0 x1 x2 S = some Z) : MetI W_X SX l yX11_within wsX11_within { frames := 0, cells := 0, slots := 0, locals := 0 } [.int x0, .int x1, .int x2] D q k S sz Z := by
  refine enter (cc := cX11_within) (maxL := 3) (ret := some .boolean) (by decide) rfl (Nat.le_of_ble_eq_true rfl) ?_
  intro p e s m below meth c A ls hx hb hr hts hown hlocks hml hP hK hD hA hS hsp hAe hl
  have hown : s.vm.findClass RX11 = some m.cls := hown
  have hl : lv_has ls 3 [(0, .int x0), (1, .int x1), (2, .int x2)] := hl
  unfold f_X11_within at hZ
  refine lv_iload_n hx hb dX11_within_0 rfl (lv_at hl 0 rfl) ?_
  refine lv_iload_n hx hb dX11_within_1 rfl (lv_at hl 1 rfl) ?_
  refine lv_icmp_lt (tgt := 14) hx hb dX11_within_2 (by decide) (fun c_1 => ?_) (fun c_1 => ?_)
  · have hZ := jx_i_pos c_1 hZ
    refine lv_iconst (v := (0 : Int32)) hx hb dX11_within_14 (by decide) ?_
    exact leave_z hx hb hr hlocks rfl hP hS hZ dX11_within_15
  · have hZ := jx_i_neg c_1 hZ
    refine lv_iload_n hx hb dX11_within_5 rfl (lv_at hl 0 rfl) ?_
    refine lv_iload_n hx hb dX11_within_6 rfl (lv_at hl 2 rfl) ?_
    refine lv_icmp_gt (tgt := 14) hx hb dX11_within_7 (by decide) (fun c_2 => ?_) (fun c_2 => ?_)
    · have hZ := jx_i_pos c_2 hZ
      refine lv_iconst (v := (0 : Int32)) hx hb dX11_within_14 (by decide) ?_
      exact leave_z hx hb hr hlocks rfl hP hS hZ dX11_within_15
    · have hZ := jx_i_neg c_2 hZ
      refine lv_iconst (v := (1 : Int32)) hx hb dX11_within_10 (by decide) ?_
      refine lv_goto (tgt := 15) hx hb dX11_within_11 (by decide) ?_
      exact leave_z hx hb hr hlocks rfl hP hS hZ dX11_within_15
theorem hd_X11_within : yX11_within.cls ≠ "java/lang/invoke/MethodHandle" ∧ yX11_within.cls ≠ "java/lang/invoke/VarHandle" ∧ (parseMethodDescriptor yX11_within.desc).map (fun d => d.parameters.length) = some 3 := by decide +kernel
-- X11_isLand
def f_X11_isLand (x0 : Int32) (S : St) : Option (Int32 × St) :=
  jx_b2 (f_X11_within x0 (0 : Int32) (3 : Int32) S) (fun r_3 S_1 => jx_z r_3 (some (r_3, S_1)))
set_option maxHeartbeats 4000000 in
set_option maxRecDepth 100000 in
theorem c_X11_isLand (l : Launch) (D : va_G) (q : Nat → Nat) (k : CI) (x0 : Int32) (S : St) (sz : Nat) (Z : Int32 × St) (hZ : f_X11_isLand x0 S = some Z) : MetI W_X SX l yX11_isLand wsX11_isLand { frames := 1, cells := 0, slots := 0, locals := 22 } [.int x0] D q k S sz Z := by
  refine enter (cc := cX11_isLand) (maxL := 1) (ret := some .boolean) (by decide) rfl (Nat.le_of_ble_eq_true rfl) ?_
  intro p e s m below meth c A ls hx hb hr hts hown hlocks hml hP hK hD hA hS hsp hAe hl
  have hown : s.vm.findClass RX11 = some m.cls := hown
  have hl : lv_has ls 1 [(0, .int x0)] := hl
  unfold f_X11_isLand at hZ
  refine lv_iload_n hx hb dX11_isLand_0 rfl (lv_at hl 0 rfl) ?_
  refine lv_iconst (v := (0 : Int32)) hx hb dX11_isLand_1 (by decide) ?_
  refine lv_iconst (v := (3 : Int32)) hx hb dX11_isLand_2 (by decide) ?_
  obtain ⟨r_3, S_1, hc_2, hZ⟩ := jx_b2_some hZ
  refine call_Si SX_ok sameX ⟨hx, hb, hml, hown, hts⟩ (c_X11_within l D q k x0 (0 : Int32) (3 : Int32) S _ (r_3, S_1)  hc_2) (va_cwS 3 hts gX11_isLand_X11_within rfl rfl rfl hd_X11_within ⟨Nat.le_of_ble_eq_true rfl, Nat.le_of_ble_eq_true rfl⟩) hK hP hD hS hA hsp (As := [.int x0, .int (0 : Int32), .int (3 : Int32)]) rfl hl.1 rfl (Nat.le_of_ble_eq_true rfl) dX11_isLand_3 ⟨Nat.zero_le _, Nat.zero_le _⟩ (fun H locs hP hD hS => ?_)
  obtain ⟨hnz, hZ⟩ := jx_z_some hZ
  exact leave_z hx hb hr hlocks hnz hP hS hZ dX11_isLand_6
theorem hd_X11_isLand : yX11_isLand.cls ≠ "java/lang/invoke/MethodHandle" ∧ yX11_isLand.cls ≠ "java/lang/invoke/VarHandle" ∧ (parseMethodDescriptor yX11_isLand.desc).map (fun d => d.parameters.length) = some 1 := by decide +kernel
-- X1_fits
def f_X1_fits (x0 : Int32) (x1 : Int32) (x2 : Int32) (x3 : Int32) (S : St) : Option (Int32 × St) :=
  jx_b2 (f_X11_isLand x0 S) (fun r_3 S_1 => (if r_3 = 0 then some ((0 : Int32), S_1) else jx_b2 (f_X11_within x1 (1 : Int32) (40 : Int32) S_1) (fun r_7 S_5 => (if r_7 = 0 then some ((0 : Int32), S_5) else jx_b2 (f_X11_within x2 (0 : Int32) (99 : Int32) S_5) (fun r_11 S_9 => (if r_11 = 0 then some ((0 : Int32), S_9) else jx_b2 (f_X11_within x3 (0 : Int32) (99 : Int32) S_9) (fun r_15 S_13 => (if r_15 = 0 then some ((0 : Int32), S_13) else some ((1 : Int32), S_13)))))))))
theorem gX1_fits_X11_isLand : GoodIn wsX1_fits wsX11_isLand := goodIn_r _ [3, 4, 5, 2, 6] rfl (by decide +kernel)
theorem gX1_fits_X11_within : GoodIn wsX1_fits wsX11_within := goodIn_r _ [6] rfl (by decide +kernel)
set_option maxHeartbeats 4000000 in
set_option maxRecDepth 100000 in
theorem c_X1_fits (l : Launch) (D : va_G) (q : Nat → Nat) (k : CI) (x0 : Int32) (x1 : Int32) (x2 : Int32) (x3 : Int32) (S : St) (sz : Nat) (Z : Int32 × St) (hZ : f_X1_fits x0 x1 x2 x3 S = some Z) : MetI W_X SX l yX1_fits wsX1_fits { frames := 2, cells := 0, slots := 0, locals := 42 } [.int x0, .int x1, .int x2, .int x3] D q k S sz Z := by
  refine enter (cc := cX1_fits) (maxL := 4) (ret := some .boolean) (by decide) rfl (Nat.le_of_ble_eq_true rfl) ?_
  intro p e s m below meth c A ls hx hb hr hts hown hlocks hml hP hK hD hA hS hsp hAe hl
  have hown : s.vm.findClass RX1 = some m.cls := hown
  have hl : lv_has ls 4 [(0, .int x0), (1, .int x1), (2, .int x2), (3, .int x3)] := hl
  unfold f_X1_fits at hZ
  refine lv_iload_n hx hb dX1_fits_0 rfl (lv_at hl 0 rfl) ?_
  obtain ⟨r_3, S_1, hc_2, hZ⟩ := jx_b2_some hZ
  refine call_Ni SX_ok sameX ⟨hx, hb, hml, hown, hts⟩ (c_X11_isLand l D q k x0 S _ (r_3, S_1)  hc_2) (va_cnB 1 hts gX1_fits_X11_isLand rfl rfl rfl (hsp.1 _ (List.mem_of_getElem? (i := 66) rfl)) (hts _ (List.mem_of_getElem? (i := 2) rfl)) hd_X11_isLand ⟨Nat.le_of_ble_eq_true rfl, Nat.le_of_ble_eq_true rfl⟩) (hts _ (List.mem_of_getElem? (i := 1) rfl)) hK hP hD hS hA hsp (As := [.int x0]) rfl hl.1 rfl (Nat.le_of_ble_eq_true rfl) dX1_fits_1 ⟨Nat.zero_le _, Nat.zero_le _⟩ (fun H locs hP hD hS => ?_)
  refine lv_if_eq (tgt := 41) hx hb dX1_fits_4 (by decide) (fun c_4 => ?_) (fun c_4 => ?_)
  · have hZ := jx_i_pos c_4 hZ
    refine lv_iconst (v := (0 : Int32)) hx hb dX1_fits_41 (by decide) ?_
    exact leave_z hx hb hr hlocks rfl hP hS hZ dX1_fits_42
  · have hZ := jx_i_neg c_4 hZ
    refine lv_iload_n hx hb dX1_fits_7 rfl (lv_at hl 1 rfl) ?_
    refine lv_iconst (v := (1 : Int32)) hx hb dX1_fits_8 (by decide) ?_
    refine lv_bipush (v := (40 : Int32)) hx hb dX1_fits_9 (by decide) ?_
    obtain ⟨r_7, S_5, hc_6, hZ⟩ := jx_b2_some hZ
    refine call_Ni SX_ok sameX ⟨hx, hb, hml, hown, hts⟩ (c_X11_within l D q k x1 (1 : Int32) (40 : Int32) S_1 _ (r_7, S_5)  hc_6) (va_cnB 3 hts gX1_fits_X11_within rfl rfl rfl (hsp.1 _ (List.mem_of_getElem? (i := 67) rfl)) (hts _ (List.mem_of_getElem? (i := 2) rfl)) hd_X11_within ⟨Nat.le_of_ble_eq_true rfl, Nat.le_of_ble_eq_true rfl⟩) (hts _ (List.mem_of_getElem? (i := 5) rfl)) hK hP hD hS hA hsp (As := [.int x1, .int (1 : Int32), .int (40 : Int32)]) rfl hl.1 rfl (Nat.le_of_ble_eq_true rfl) dX1_fits_11 ⟨Nat.zero_le _, Nat.zero_le _⟩ (fun H locs hP hD hS => ?_)
    refine lv_if_eq (tgt := 41) hx hb dX1_fits_14 (by decide) (fun c_8 => ?_) (fun c_8 => ?_)
    · have hZ := jx_i_pos c_8 hZ
      refine lv_iconst (v := (0 : Int32)) hx hb dX1_fits_41 (by decide) ?_
      exact leave_z hx hb hr hlocks rfl hP hS hZ dX1_fits_42
    · have hZ := jx_i_neg c_8 hZ
      refine lv_iload_n hx hb dX1_fits_17 rfl (lv_at hl 2 rfl) ?_
      refine lv_iconst (v := (0 : Int32)) hx hb dX1_fits_18 (by decide) ?_
      refine lv_bipush (v := (99 : Int32)) hx hb dX1_fits_19 (by decide) ?_
      obtain ⟨r_11, S_9, hc_10, hZ⟩ := jx_b2_some hZ
      refine call_Ni SX_ok sameX ⟨hx, hb, hml, hown, hts⟩ (c_X11_within l D q k x2 (0 : Int32) (99 : Int32) S_5 _ (r_11, S_9)  hc_10) (va_cnB 3 hts gX1_fits_X11_within rfl rfl rfl (hsp.1 _ (List.mem_of_getElem? (i := 67) rfl)) (hts _ (List.mem_of_getElem? (i := 2) rfl)) hd_X11_within ⟨Nat.le_of_ble_eq_true rfl, Nat.le_of_ble_eq_true rfl⟩) (hts _ (List.mem_of_getElem? (i := 5) rfl)) hK hP hD hS hA hsp (As := [.int x2, .int (0 : Int32), .int (99 : Int32)]) rfl hl.1 rfl (Nat.le_of_ble_eq_true rfl) dX1_fits_21 ⟨Nat.zero_le _, Nat.zero_le _⟩ (fun H locs hP hD hS => ?_)
      refine lv_if_eq (tgt := 41) hx hb dX1_fits_24 (by decide) (fun c_12 => ?_) (fun c_12 => ?_)
      · have hZ := jx_i_pos c_12 hZ
        refine lv_iconst (v := (0 : Int32)) hx hb dX1_fits_41 (by decide) ?_
        exact leave_z hx hb hr hlocks rfl hP hS hZ dX1_fits_42
      · have hZ := jx_i_neg c_12 hZ
        refine lv_iload_n hx hb dX1_fits_27 rfl (lv_at hl 3 rfl) ?_
        refine lv_iconst (v := (0 : Int32)) hx hb dX1_fits_28 (by decide) ?_
        refine lv_bipush (v := (99 : Int32)) hx hb dX1_fits_29 (by decide) ?_
        obtain ⟨r_15, S_13, hc_14, hZ⟩ := jx_b2_some hZ
        refine call_Ni SX_ok sameX ⟨hx, hb, hml, hown, hts⟩ (c_X11_within l D q k x3 (0 : Int32) (99 : Int32) S_9 _ (r_15, S_13)  hc_14) (va_cnB 3 hts gX1_fits_X11_within rfl rfl rfl (hsp.1 _ (List.mem_of_getElem? (i := 67) rfl)) (hts _ (List.mem_of_getElem? (i := 2) rfl)) hd_X11_within ⟨Nat.le_of_ble_eq_true rfl, Nat.le_of_ble_eq_true rfl⟩) (hts _ (List.mem_of_getElem? (i := 5) rfl)) hK hP hD hS hA hsp (As := [.int x3, .int (0 : Int32), .int (99 : Int32)]) rfl hl.1 rfl (Nat.le_of_ble_eq_true rfl) dX1_fits_31 ⟨Nat.zero_le _, Nat.zero_le _⟩ (fun H locs hP hD hS => ?_)
        refine lv_if_eq (tgt := 41) hx hb dX1_fits_34 (by decide) (fun c_16 => ?_) (fun c_16 => ?_)
        · have hZ := jx_i_pos c_16 hZ
          refine lv_iconst (v := (0 : Int32)) hx hb dX1_fits_41 (by decide) ?_
          exact leave_z hx hb hr hlocks rfl hP hS hZ dX1_fits_42
        · have hZ := jx_i_neg c_16 hZ
          refine lv_iconst (v := (1 : Int32)) hx hb dX1_fits_37 (by decide) ?_
          refine lv_goto (tgt := 42) hx hb dX1_fits_38 (by decide) ?_
          exact leave_z hx hb hr hlocks rfl hP hS hZ dX1_fits_42
-- X1_knows
def f_X1_knows (x1 : Int32) (S : St) : Option (Int32 × St) :=
  (if x1 < 0 then some ((0 : Int32), S) else (if (S.1 1 5) ≤ x1 then some ((0 : Int32), S) else some ((1 : Int32), S)))
set_option maxHeartbeats 4000000 in
set_option maxRecDepth 100000 in
theorem c_X1_knows (l : Launch) (D : va_G) (q : Nat → Nat) (k : CI) (x1 : Int32) (S : St) (sz : Nat) (Z : Int32 × St) (hZ : f_X1_knows x1 S = some Z) : MetI W_X SX l yX1_knows wsX1_knows { frames := 0, cells := 0, slots := 0, locals := 0 } [.ref (q 1), .int x1] D q k S sz Z := by
  refine enter (cc := cX1_knows) (maxL := 2) (ret := some .boolean) (by decide) rfl (Nat.le_of_ble_eq_true rfl) ?_
  intro p e s m below meth c A ls hx hb hr hts hown hlocks hml hP hK hD hA hS hsp hAe hl
  have hown : s.vm.findClass RX1 = some m.cls := hown
  have hl : lv_has ls 2 [(0, .ref (q 1)), (1, .int x1)] := hl
  have in1 : ∀ w ∈ wsX10, w ∈ wsX1_knows := fun _ h => (List.mem_cons_of_mem _ (List.mem_append_right _ h))
  unfold f_X1_knows at hZ
  refine lv_iload_n hx hb dX1_knows_0 rfl (lv_at hl 1 rfl) ?_
  refine lv_if_lt (tgt := 16) hx hb dX1_knows_1 (by decide) (fun c_1 => ?_) (fun c_1 => ?_)
  · have hZ := jx_i_pos c_1 hZ
    refine lv_iconst (v := (0 : Int32)) hx hb dX1_knows_16 (by decide) ?_
    exact leave_z hx hb hr hlocks rfl hP hS hZ dX1_knows_17
  · have hZ := jx_i_neg c_1 hZ
    refine lv_iload_n hx hb dX1_knows_4 rfl (lv_at hl 1 rfl) ?_
    refine lv_aload_n hx hb dX1_knows_5 rfl (lv_at hl 0 rfl) ?_
    refine gf_1_known hx hb hts in1 hown hK hP (hts (.fieldLink RX1 35 "CoinsOfLast$Coins" "known" "I") (List.mem_of_getElem? (i := 1) rfl)) dX1_knows_6 ?_
    refine lv_icmp_ge (tgt := 16) hx hb dX1_knows_9 (by decide) (fun c_2 => ?_) (fun c_2 => ?_)
    · have hZ := jx_i_pos c_2 hZ
      refine lv_iconst (v := (0 : Int32)) hx hb dX1_knows_16 (by decide) ?_
      exact leave_z hx hb hr hlocks rfl hP hS hZ dX1_knows_17
    · have hZ := jx_i_neg c_2 hZ
      refine lv_iconst (v := (1 : Int32)) hx hb dX1_knows_12 (by decide) ?_
      refine lv_goto (tgt := 17) hx hb dX1_knows_13 (by decide) ?_
      exact leave_z hx hb hr hlocks rfl hP hS hZ dX1_knows_17
-- X1_add
def f_X1_add (x1 : Int32) (x2 : Int32) (x3 : Int32) (x4 : Int32) (S : St) : Option (Int32 × St) :=
  (if (S.1 1 5) < (8 : Int32) then jx_a (S.1 1 5) 8 (jx_l (u1 S 2 (Int32.toNatClampNeg (S.1 1 5)) x1) (fun S_3 => jx_a (S_3.1 1 5) 8 (jx_l (u1 S_3 3 (Int32.toNatClampNeg (S_3.1 1 5)) x2) (fun S_5 => jx_a (S_5.1 1 5) 8 (jx_l (u1 S_5 4 (Int32.toNatClampNeg (S_5.1 1 5)) x3) (fun S_7 => jx_a (S_7.1 1 5) 8 (jx_l (u1 S_7 5 (Int32.toNatClampNeg (S_7.1 1 5)) x4) (fun S_9 => jx_a (S_9.1 1 5) 8 (jx_l (u1 S_9 6 (Int32.toNatClampNeg (S_9.1 1 5)) (0 : Int32)) (fun S_11 => jx_l (u1 S_11 1 5 ((S_11.1 1 5) + (1 : Int32))) (fun S_12 => some ((1 : Int32), S_12)))))))))))) else some ((0 : Int32), S))
set_option maxHeartbeats 4000000 in
set_option maxRecDepth 100000 in
theorem c_X1_add (l : Launch) (D : va_G) (q : Nat → Nat) (k : CI) (x1 : Int32) (x2 : Int32) (x3 : Int32) (x4 : Int32) (S : St) (sz : Nat) (Z : Int32 × St) (hZ : f_X1_add x1 x2 x3 x4 S = some Z) : MetI W_X SX l yX1_add wsX1_add { frames := 0, cells := 0, slots := 0, locals := 0 } [.ref (q 1), .int x1, .int x2, .int x3, .int x4] D q k S sz Z := by
  refine enter (cc := cX1_add) (maxL := 5) (ret := some .boolean) (by decide) rfl (Nat.le_of_ble_eq_true rfl) ?_
  intro p e s m below meth c A ls hx hb hr hts hown hlocks hml hP hK hD hA hS hsp hAe hl
  have hown : s.vm.findClass RX1 = some m.cls := hown
  have hl : lv_has ls 5 [(0, .ref (q 1)), (1, .int x1), (2, .int x2), (3, .int x3), (4, .int x4)] := hl
  have in1 : ∀ w ∈ wsX10, w ∈ wsX1_add := fun _ h => (List.mem_cons_of_mem _ (List.mem_append_right _ h))
  unfold f_X1_add at hZ
  refine lv_aload_n hx hb dX1_add_0 rfl (lv_at hl 0 rfl) ?_
  refine gf_1_known hx hb hts in1 hown hK hP (hts (.fieldLink RX1 35 "CoinsOfLast$Coins" "known" "I") (List.mem_of_getElem? (i := 1) rfl)) dX1_add_1 ?_
  refine lv_bipush (v := (8 : Int32)) hx hb dX1_add_4 (by decide) ?_
  refine lv_icmp_lt (tgt := 11) hx hb dX1_add_6 (by decide) (fun c_1 => ?_) (fun c_1 => ?_)
  · have hZ := jx_i_pos c_1 hZ
    refine lv_aload_n hx hb dX1_add_11 rfl (lv_at hl 0 rfl) ?_
    refine gf_1_land hx hb hts in1 hown hK hP (hts (.fieldLink RX1 9 "CoinsOfLast$Coins" "land" "[I") (List.mem_of_getElem? (i := 2) rfl)) dX1_add_12 ?_
    refine lv_aload_n hx hb dX1_add_15 rfl (lv_at hl 0 rfl) ?_
    refine gf_1_known hx hb hts in1 hown hK hP (hts (.fieldLink RX1 35 "CoinsOfLast$Coins" "known" "I") (List.mem_of_getElem? (i := 1) rfl)) dX1_add_16 ?_
    refine lv_iload_n hx hb dX1_add_19 rfl (lv_at hl 1 rfl) ?_
    obtain ⟨c_2, hZ⟩ := jx_a_some hZ
    obtain ⟨S_3, e_S_3, hZ⟩ := jx_l_some hZ
    refine X_iast hx hb hK hP hD hS wX_2 (fun _ => wXs_2) c_2 e_S_3 dX1_add_20 (fun H locs hP hD hS => ?_)
    refine lv_aload_n hx hb dX1_add_21 rfl (lv_at hl 0 rfl) ?_
    refine gf_1_worth hx hb hts in1 hown hK hP (hts (.fieldLink RX1 15 "CoinsOfLast$Coins" "worth" "[I") (List.mem_of_getElem? (i := 3) rfl)) dX1_add_22 ?_
    refine lv_aload_n hx hb dX1_add_25 rfl (lv_at hl 0 rfl) ?_
    refine gf_1_known hx hb hts in1 hown hK hP (hts (.fieldLink RX1 35 "CoinsOfLast$Coins" "known" "I") (List.mem_of_getElem? (i := 1) rfl)) dX1_add_26 ?_
    refine lv_iload_n hx hb dX1_add_29 rfl (lv_at hl 2 rfl) ?_
    obtain ⟨c_4, hZ⟩ := jx_a_some hZ
    obtain ⟨S_5, e_S_5, hZ⟩ := jx_l_some hZ
    refine X_iast hx hb hK hP hD hS wX_3 (fun _ => wXs_3) c_4 e_S_5 dX1_add_30 (fun H locs hP hD hS => ?_)
    refine lv_aload_n hx hb dX1_add_31 rfl (lv_at hl 0 rfl) ?_
    refine gf_1_size hx hb hts in1 hown hK hP (hts (.fieldLink RX1 18 "CoinsOfLast$Coins" "size" "[I") (List.mem_of_getElem? (i := 4) rfl)) dX1_add_32 ?_
    refine lv_aload_n hx hb dX1_add_35 rfl (lv_at hl 0 rfl) ?_
    refine gf_1_known hx hb hts in1 hown hK hP (hts (.fieldLink RX1 35 "CoinsOfLast$Coins" "known" "I") (List.mem_of_getElem? (i := 1) rfl)) dX1_add_36 ?_
    refine lv_iload_n hx hb dX1_add_39 rfl (lv_at hl 3 rfl) ?_
    obtain ⟨c_6, hZ⟩ := jx_a_some hZ
    obtain ⟨S_7, e_S_7, hZ⟩ := jx_l_some hZ
    refine X_iast hx hb hK hP hD hS wX_4 (fun _ => wXs_4) c_6 e_S_7 dX1_add_40 (fun H locs hP hD hS => ?_)
    refine lv_aload_n hx hb dX1_add_41 rfl (lv_at hl 0 rfl) ?_
    refine gf_1_weight hx hb hts in1 hown hK hP (hts (.fieldLink RX1 21 "CoinsOfLast$Coins" "weight" "[I") (List.mem_of_getElem? (i := 5) rfl)) dX1_add_42 ?_
    refine lv_aload_n hx hb dX1_add_45 rfl (lv_at hl 0 rfl) ?_
    refine gf_1_known hx hb hts in1 hown hK hP (hts (.fieldLink RX1 35 "CoinsOfLast$Coins" "known" "I") (List.mem_of_getElem? (i := 1) rfl)) dX1_add_46 ?_
    refine lv_iload hx hb dX1_add_49 (lv_at hl 4 rfl) ?_
    obtain ⟨c_8, hZ⟩ := jx_a_some hZ
    obtain ⟨S_9, e_S_9, hZ⟩ := jx_l_some hZ
    refine X_iast hx hb hK hP hD hS wX_5 (fun _ => wXs_5) c_8 e_S_9 dX1_add_51 (fun H locs hP hD hS => ?_)
    refine lv_aload_n hx hb dX1_add_52 rfl (lv_at hl 0 rfl) ?_
    refine gf_1_held hx hb hts in1 hown hK hP (hts (.fieldLink RX1 24 "CoinsOfLast$Coins" "held" "[I") (List.mem_of_getElem? (i := 6) rfl)) dX1_add_53 ?_
    refine lv_aload_n hx hb dX1_add_56 rfl (lv_at hl 0 rfl) ?_
    refine gf_1_known hx hb hts in1 hown hK hP (hts (.fieldLink RX1 35 "CoinsOfLast$Coins" "known" "I") (List.mem_of_getElem? (i := 1) rfl)) dX1_add_57 ?_
    refine lv_iconst (v := (0 : Int32)) hx hb dX1_add_60 (by decide) ?_
    obtain ⟨c_10, hZ⟩ := jx_a_some hZ
    obtain ⟨S_11, e_S_11, hZ⟩ := jx_l_some hZ
    refine X_iast hx hb hK hP hD hS wX_6 (fun _ => wXs_6) c_10 e_S_11 dX1_add_61 (fun H locs hP hD hS => ?_)
    refine lv_aload_n hx hb dX1_add_62 rfl (lv_at hl 0 rfl) ?_
    refine lv_dup hx hb dX1_add_63 rfl ?_
    refine gf_1_known hx hb hts in1 hown hK hP (hts (.fieldLink RX1 35 "CoinsOfLast$Coins" "known" "I") (List.mem_of_getElem? (i := 1) rfl)) dX1_add_64 ?_
    refine lv_iconst (v := (1 : Int32)) hx hb dX1_add_67 (by decide) ?_
    refine lv_iadd hx hb dX1_add_68 ?_
    obtain ⟨S_12, e_S_12, hZ⟩ := jx_l_some hZ
    refine pf_1_known hx hb hts in1 hown hK hP hD hS (hts (.fieldLink RX1 35 "CoinsOfLast$Coins" "known" "I") (List.mem_of_getElem? (i := 1) rfl)) e_S_12 dX1_add_69 (fun H locs hP hD hS => ?_)
    refine lv_iconst (v := (1 : Int32)) hx hb dX1_add_72 (by decide) ?_
    exact leave_z hx hb hr hlocks rfl hP hS hZ dX1_add_73
  · have hZ := jx_i_neg c_1 hZ
    refine lv_iconst (v := (0 : Int32)) hx hb dX1_add_9 (by decide) ?_
    exact leave_z hx hb hr hlocks rfl hP hS hZ dX1_add_10
-- X1_worthOf
def f_X1_worthOf_48 (x2_4 : Int32) (S_4 : St) : Option (Int32 × St) :=
  some (x2_4, S_4)
def f_X1_worthOf_40i4 (x1 : Int32) (S : St) (x3_10 : Int32) (s0_10 : Int32) (s1_10 : Int32) : Option ((Int32 × Int32) ⊕ (Int32)) :=
  jx_l (s0_10 + s1_10) (fun x2_11 => jx_l (x3_10 + 1) (fun x3_12 => some (.inl (x2_11, x3_12))))
def b_X1_worthOf_4 (x1 : Int32) (x2 : Int32) (x3 : Int32) (S : St) : Option ((Int32 × Int32) ⊕ (Int32)) :=
  (if (S.1 1 5) ≤ x3 then some (.inr x2) else jx_a x3 8 ((if (S.1 2 (Int32.toNatClampNeg x3)) = x1 then jx_a x3 8 (jx_a x3 8 (f_X1_worthOf_40i4 x1 S x3 x2 ((S.1 3 (Int32.toNatClampNeg x3)) * (S.1 6 (Int32.toNatClampNeg x3))))) else f_X1_worthOf_40i4 x1 S x3 x2 (0 : Int32))))
def g_X1_worthOf_4 (x1 : Int32) (S : St) : (Int32 × Int32) → Option ((Int32 × Int32) ⊕ (Int32)) := fun z => b_X1_worthOf_4 x1 z.1 z.2 S
def f_X1_worthOf (x1 : Int32) (S : St) : Option (Int32 × St) :=
  jx_b (jx_w (g_X1_worthOf_4 x1 S) FU ((0 : Int32), (0 : Int32))) (fun z => f_X1_worthOf_48 z S)
set_option maxHeartbeats 4000000 in
set_option maxRecDepth 100000 in
theorem c_X1_worthOf (l : Launch) (D : va_G) (q : Nat → Nat) (k : CI) (x1 : Int32) (S : St) (sz : Nat) (Z : Int32 × St) (hZ : f_X1_worthOf x1 S = some Z) : MetI W_X SX l yX1_worthOf wsX1_worthOf { frames := 0, cells := 0, slots := 0, locals := 0 } [.ref (q 1), .int x1] D q k S sz Z := by
  refine enter (cc := cX1_worthOf) (maxL := 4) (ret := some .int) (by decide) rfl (Nat.le_of_ble_eq_true rfl) ?_
  intro p e s m below meth c A ls hx hb hr hts hown hlocks hml hP hK hD hA hS hsp hAe hl
  have hown : s.vm.findClass RX1 = some m.cls := hown
  have hl : lv_has ls 4 [(0, .ref (q 1)), (1, .int x1)] := hl
  have in1 : ∀ w ∈ wsX10, w ∈ wsX1_worthOf := fun _ h => (List.mem_cons_of_mem _ (List.mem_append_right _ h))
  have j48 : ∀ (x2_4 : Int32) (S_4 : St)  (H : Heap) (locs : List Loc) (hZ : f_X1_worthOf_48 x2_4 S_4 = some Z) (hP : va_P D vwCl (W_X q k S_4) H) (hD : va_D A (W_X q k S_4)) (hS : va_S A s.heap H locs) (ls : Array Slot) (hl : lv_has ls 4 [(2, .int x2_4)]), W p l e ({ frames := 0, cells := 0, slots := 0, locals := 0 } : Room) s m ([.ref (q 1), .int x1] : List Value).toArray below meth c H locs 0 0 (MQ below (va_Qi (fun r u => (r, u) = Z) (fun u t => va_P D vwCl (W_X q k u) t.heap) A) ([.ref (q 1), .int x1] : List Value).toArray s 0 0 A) (F0 m 48 ls []) := by
    intro x2_4 S_4   H locs hZ hP hD hS ls hl
    unfold f_X1_worthOf_48 at hZ
    refine lv_iload_n hx hb dX1_worthOf_48 rfl (lv_at hl 0 rfl) ?_
    exact leave_i hx hb hr hlocks hP hS hZ dX1_worthOf_49
  unfold f_X1_worthOf at hZ
  refine lv_iconst (v := (0 : Int32)) hx hb dX1_worthOf_0 (by decide) ?_
  refine lv_istore_n (lv' := [(2, .int (0 : Int32)), (0, .ref (q 1)), (1, .int x1)]) hx hb dX1_worthOf_1 rfl hl (by decide) rfl (fun ls hl => ?_)
  refine lv_iconst (v := (0 : Int32)) hx hb dX1_worthOf_2 (by decide) ?_
  refine lv_istore_n (lv' := [(3, .int (0 : Int32)), (2, .int (0 : Int32)), (0, .ref (q 1)), (1, .int x1)]) hx hb dX1_worthOf_3 rfl hl (by decide) rfl (fun ls hl => ?_)
  obtain ⟨r_3, hw, hza_3⟩ := jx_b_some hZ
  have l_3 : ∀ (nn : Nat) (x2_1 : Int32) (x3_2 : Int32) (H : Heap) (locs : List Loc) (hw : jx_w (g_X1_worthOf_4 x1 S) nn (x2_1, x3_2) = some r_3) (hP : va_P D vwCl (W_X q k S) H) (hD : va_D A (W_X q k S)) (hS : va_S A s.heap H locs) (ls : Array Slot) (hl : lv_has ls 4 [(0, .ref (q 1)), (1, .int x1), (2, .int x2_1), (3, .int x3_2)]), W p l e ({ frames := 0, cells := 0, slots := 0, locals := 0 } : Room) s m ([.ref (q 1), .int x1] : List Value).toArray below meth c H locs 0 0 (MQ below (va_Qi (fun r u => (r, u) = Z) (fun u t => va_P D vwCl (W_X q k u) t.heap) A) ([.ref (q 1), .int x1] : List Value).toArray s 0 0 A) (F0 m 4 ls []) := by
    intro nn
    induction nn with
    | zero =>
      intro x2_1 x3_2 H locs hw hP hD hS ls hl
      exact jx_w_zero hw
    | succ n_3 ih_3 =>
      intro x2_1 x3_2 H locs hw hP hD hS ls hl
      obtain ⟨o_3, hZ, hk_3⟩ := jx_w_succ hw
      have hZ : b_X1_worthOf_4 x1 x2_1 x3_2 S = some o_3 := hZ
      have j40i4 : ∀ (x3_21 : Int32) (s0_21 : Int32) (s1_21 : Int32)  (o_3 : (Int32 × Int32) ⊕ (Int32)) (hk_3 : jx_k (g_X1_worthOf_4 x1 S) n_3 r_3 o_3) (H : Heap) (locs : List Loc) (hZ : f_X1_worthOf_40i4 x1 S x3_21 s0_21 s1_21 = some o_3) (hP : va_P D vwCl (W_X q k S) H) (hD : va_D A (W_X q k S)) (hS : va_S A s.heap H locs) (ls : Array Slot) (hl : lv_has ls 4 [(0, .ref (q 1)), (1, .int x1), (3, .int x3_21)]), W p l e ({ frames := 0, cells := 0, slots := 0, locals := 0 } : Room) s m ([.ref (q 1), .int x1] : List Value).toArray below meth c H locs 0 0 (MQ below (va_Qi (fun r u => (r, u) = Z) (fun u t => va_P D vwCl (W_X q k u) t.heap) A) ([.ref (q 1), .int x1] : List Value).toArray s 0 0 A) (F0 m 40 ls [.int s1_21, .int s0_21]) := by
        intro x3_21 s0_21 s1_21  o_3 hk_3 H locs hZ hP hD hS ls hl
        unfold f_X1_worthOf_40i4 at hZ
        refine lv_iadd hx hb dX1_worthOf_40 ?_
        obtain ⟨x2_22, e_x2_22, hZ⟩ := jx_l_some hZ
        refine tx_i e_x2_22 ?_
        refine lv_istore_n (lv' := [(2, .int x2_22), (0, .ref (q 1)), (1, .int x1), (3, .int x3_21)]) hx hb dX1_worthOf_41 rfl hl (by decide) rfl (fun ls hl => ?_)
        obtain ⟨x3_23, e_x3_23, hZ⟩ := jx_l_some hZ
        refine lv_iinc (v := x3_23) (lv' := [(3, .int x3_23), (2, .int x2_22), (0, .ref (q 1)), (1, .int x1)]) hx hb dX1_worthOf_42 hl (k := 3) rfl (by rw [e_x3_23]; rfl) (by decide) rfl (fun ls hl => ?_)
        refine lv_goto (tgt := 4) hx hb dX1_worthOf_45 (by decide) ?_
        have ho := Option.some.inj hZ
        subst ho
        exact ih_3 x2_22 x3_23 _ _ hk_3 hP hD hS _ (lv_sub hl [2, 3, 1, 0] rfl)
      unfold b_X1_worthOf_4 at hZ
      refine lv_iload_n hx hb dX1_worthOf_4 rfl (lv_at hl 3 rfl) ?_
      refine lv_aload_n hx hb dX1_worthOf_5 rfl (lv_at hl 0 rfl) ?_
      refine gf_1_known hx hb hts in1 hown hK hP (hts (.fieldLink RX1 35 "CoinsOfLast$Coins" "known" "I") (List.mem_of_getElem? (i := 1) rfl)) dX1_worthOf_6 ?_
      refine lv_icmp_ge (tgt := 48) hx hb dX1_worthOf_9 (by decide) (fun c_17 => ?_) (fun c_17 => ?_)
      · have hZ := jx_i_pos c_17 hZ
        have ho := Option.some.inj hZ
        subst ho
        have hE := hza_3
        rw [← (show x2_1 = r_3 from hk_3)] at hE
        have hZ : f_X1_worthOf_48 x2_1 S = some Z := hE
        exact j48 x2_1 S _ _ hZ hP hD hS _ (lv_sub hl [2] rfl)
      · have hZ := jx_i_neg c_17 hZ
        refine lv_iload_n hx hb dX1_worthOf_12 rfl (lv_at hl 2 rfl) ?_
        refine lv_aload_n hx hb dX1_worthOf_13 rfl (lv_at hl 0 rfl) ?_
        refine gf_1_land hx hb hts in1 hown hK hP (hts (.fieldLink RX1 9 "CoinsOfLast$Coins" "land" "[I") (List.mem_of_getElem? (i := 2) rfl)) dX1_worthOf_14 ?_
        refine lv_iload_n hx hb dX1_worthOf_17 rfl (lv_at hl 3 rfl) ?_
        obtain ⟨c_19, hZ⟩ := jx_a_some hZ
        refine X_iald hx hb hK hP wX_2 c_19 dX1_worthOf_18 ?_
        refine lv_iload_n hx hb dX1_worthOf_19 rfl (lv_at hl 1 rfl) ?_
        refine lv_icmp_ne (tgt := 39) hx hb dX1_worthOf_20 (by decide) (fun c_20 => ?_) (fun c_20 => ?_)
        · have hZ := jx_i_neg c_20 hZ
          refine lv_iconst (v := (0 : Int32)) hx hb dX1_worthOf_39 (by decide) ?_
          exact j40i4 x3_2 x2_1 (0 : Int32) _ hk_3 _ _ hZ hP hD hS _ (lv_sub hl [0, 1, 3] rfl)
        · have hZ := jx_i_pos c_20 hZ
          refine lv_aload_n hx hb dX1_worthOf_23 rfl (lv_at hl 0 rfl) ?_
          refine gf_1_worth hx hb hts in1 hown hK hP (hts (.fieldLink RX1 15 "CoinsOfLast$Coins" "worth" "[I") (List.mem_of_getElem? (i := 3) rfl)) dX1_worthOf_24 ?_
          refine lv_iload_n hx hb dX1_worthOf_27 rfl (lv_at hl 3 rfl) ?_
          obtain ⟨c_25, hZ⟩ := jx_a_some hZ
          refine X_iald hx hb hK hP wX_3 c_25 dX1_worthOf_28 ?_
          refine lv_aload_n hx hb dX1_worthOf_29 rfl (lv_at hl 0 rfl) ?_
          refine gf_1_held hx hb hts in1 hown hK hP (hts (.fieldLink RX1 24 "CoinsOfLast$Coins" "held" "[I") (List.mem_of_getElem? (i := 4) rfl)) dX1_worthOf_30 ?_
          refine lv_iload_n hx hb dX1_worthOf_33 rfl (lv_at hl 3 rfl) ?_
          obtain ⟨c_26, hZ⟩ := jx_a_some hZ
          refine X_iald hx hb hK hP wX_6 c_26 dX1_worthOf_34 ?_
          refine lv_imul hx hb dX1_worthOf_35 ?_
          refine lv_goto (tgt := 40) hx hb dX1_worthOf_36 (by decide) ?_
          exact j40i4 x3_2 x2_1 ((S.1 3 (Int32.toNatClampNeg x3_2)) * (S.1 6 (Int32.toNatClampNeg x3_2))) _ hk_3 _ _ hZ hP hD hS _ (lv_sub hl [0, 1, 3] rfl)
  exact l_3 FU (0 : Int32) (0 : Int32) _ _ hw hP hD hS _ (lv_sub hl [2, 3, 1, 0] rfl)
-- X1_heldInAll
def f_X1_heldInAll_27 (x1_4 : Int32) (S_4 : St) : Option (Int32 × St) :=
  some (x1_4, S_4)
def b_X1_heldInAll_4 (x1 : Int32) (x2 : Int32) (S : St) : Option ((Int32 × Int32) ⊕ (Int32)) :=
  (if (S.1 1 5) ≤ x2 then some (.inr x1) else jx_a x2 8 (jx_l (x1 + (S.1 6 (Int32.toNatClampNeg x2))) (fun x1_9 => jx_l (x2 + 1) (fun x2_10 => some (.inl (x1_9, x2_10))))))
def g_X1_heldInAll_4 (S : St) : (Int32 × Int32) → Option ((Int32 × Int32) ⊕ (Int32)) := fun z => b_X1_heldInAll_4 z.1 z.2 S
def f_X1_heldInAll (S : St) : Option (Int32 × St) :=
  jx_b (jx_w (g_X1_heldInAll_4 S) FU ((0 : Int32), (0 : Int32))) (fun z => f_X1_heldInAll_27 z S)
set_option maxHeartbeats 4000000 in
set_option maxRecDepth 100000 in
theorem c_X1_heldInAll (l : Launch) (D : va_G) (q : Nat → Nat) (k : CI) (S : St) (sz : Nat) (Z : Int32 × St) (hZ : f_X1_heldInAll S = some Z) : MetI W_X SX l yX1_heldInAll wsX1_heldInAll { frames := 0, cells := 0, slots := 0, locals := 0 } [.ref (q 1)] D q k S sz Z := by
  refine enter (cc := cX1_heldInAll) (maxL := 3) (ret := some .int) (by decide) rfl (Nat.le_of_ble_eq_true rfl) ?_
  intro p e s m below meth c A ls hx hb hr hts hown hlocks hml hP hK hD hA hS hsp hAe hl
  have hown : s.vm.findClass RX1 = some m.cls := hown
  have hl : lv_has ls 3 [(0, .ref (q 1))] := hl
  have in1 : ∀ w ∈ wsX10, w ∈ wsX1_heldInAll := fun _ h => (List.mem_cons_of_mem _ (List.mem_append_right _ h))
  have j27 : ∀ (x1_4 : Int32) (S_4 : St)  (H : Heap) (locs : List Loc) (hZ : f_X1_heldInAll_27 x1_4 S_4 = some Z) (hP : va_P D vwCl (W_X q k S_4) H) (hD : va_D A (W_X q k S_4)) (hS : va_S A s.heap H locs) (ls : Array Slot) (hl : lv_has ls 3 [(1, .int x1_4)]), W p l e ({ frames := 0, cells := 0, slots := 0, locals := 0 } : Room) s m ([.ref (q 1)] : List Value).toArray below meth c H locs 0 0 (MQ below (va_Qi (fun r u => (r, u) = Z) (fun u t => va_P D vwCl (W_X q k u) t.heap) A) ([.ref (q 1)] : List Value).toArray s 0 0 A) (F0 m 27 ls []) := by
    intro x1_4 S_4   H locs hZ hP hD hS ls hl
    unfold f_X1_heldInAll_27 at hZ
    refine lv_iload_n hx hb dX1_heldInAll_27 rfl (lv_at hl 0 rfl) ?_
    exact leave_i hx hb hr hlocks hP hS hZ dX1_heldInAll_28
  unfold f_X1_heldInAll at hZ
  refine lv_iconst (v := (0 : Int32)) hx hb dX1_heldInAll_0 (by decide) ?_
  refine lv_istore_n (lv' := [(1, .int (0 : Int32)), (0, .ref (q 1))]) hx hb dX1_heldInAll_1 rfl hl (by decide) rfl (fun ls hl => ?_)
  refine lv_iconst (v := (0 : Int32)) hx hb dX1_heldInAll_2 (by decide) ?_
  refine lv_istore_n (lv' := [(2, .int (0 : Int32)), (1, .int (0 : Int32)), (0, .ref (q 1))]) hx hb dX1_heldInAll_3 rfl hl (by decide) rfl (fun ls hl => ?_)
  obtain ⟨r_3, hw, hza_3⟩ := jx_b_some hZ
  have l_3 : ∀ (nn : Nat) (x1_1 : Int32) (x2_2 : Int32) (H : Heap) (locs : List Loc) (hw : jx_w (g_X1_heldInAll_4 S) nn (x1_1, x2_2) = some r_3) (hP : va_P D vwCl (W_X q k S) H) (hD : va_D A (W_X q k S)) (hS : va_S A s.heap H locs) (ls : Array Slot) (hl : lv_has ls 3 [(0, .ref (q 1)), (1, .int x1_1), (2, .int x2_2)]), W p l e ({ frames := 0, cells := 0, slots := 0, locals := 0 } : Room) s m ([.ref (q 1)] : List Value).toArray below meth c H locs 0 0 (MQ below (va_Qi (fun r u => (r, u) = Z) (fun u t => va_P D vwCl (W_X q k u) t.heap) A) ([.ref (q 1)] : List Value).toArray s 0 0 A) (F0 m 4 ls []) := by
    intro nn
    induction nn with
    | zero =>
      intro x1_1 x2_2 H locs hw hP hD hS ls hl
      exact jx_w_zero hw
    | succ n_3 ih_3 =>
      intro x1_1 x2_2 H locs hw hP hD hS ls hl
      obtain ⟨o_3, hZ, hk_3⟩ := jx_w_succ hw
      have hZ : b_X1_heldInAll_4 x1_1 x2_2 S = some o_3 := hZ
      unfold b_X1_heldInAll_4 at hZ
      refine lv_iload_n hx hb dX1_heldInAll_4 rfl (lv_at hl 2 rfl) ?_
      refine lv_aload_n hx hb dX1_heldInAll_5 rfl (lv_at hl 0 rfl) ?_
      refine gf_1_known hx hb hts in1 hown hK hP (hts (.fieldLink RX1 35 "CoinsOfLast$Coins" "known" "I") (List.mem_of_getElem? (i := 1) rfl)) dX1_heldInAll_6 ?_
      refine lv_icmp_ge (tgt := 27) hx hb dX1_heldInAll_9 (by decide) (fun c_11 => ?_) (fun c_11 => ?_)
      · have hZ := jx_i_pos c_11 hZ
        have ho := Option.some.inj hZ
        subst ho
        have hE := hza_3
        rw [← (show x1_1 = r_3 from hk_3)] at hE
        have hZ : f_X1_heldInAll_27 x1_1 S = some Z := hE
        exact j27 x1_1 S _ _ hZ hP hD hS _ (lv_sub hl [1] rfl)
      · have hZ := jx_i_neg c_11 hZ
        refine lv_iload_n hx hb dX1_heldInAll_12 rfl (lv_at hl 1 rfl) ?_
        refine lv_aload_n hx hb dX1_heldInAll_13 rfl (lv_at hl 0 rfl) ?_
        refine gf_1_held hx hb hts in1 hown hK hP (hts (.fieldLink RX1 24 "CoinsOfLast$Coins" "held" "[I") (List.mem_of_getElem? (i := 2) rfl)) dX1_heldInAll_14 ?_
        refine lv_iload_n hx hb dX1_heldInAll_17 rfl (lv_at hl 2 rfl) ?_
        obtain ⟨c_13, hZ⟩ := jx_a_some hZ
        refine X_iald hx hb hK hP wX_6 c_13 dX1_heldInAll_18 ?_
        refine lv_iadd hx hb dX1_heldInAll_19 ?_
        obtain ⟨x1_14, e_x1_14, hZ⟩ := jx_l_some hZ
        refine tx_i e_x1_14 ?_
        refine lv_istore_n (lv' := [(1, .int x1_14), (0, .ref (q 1)), (2, .int x2_2)]) hx hb dX1_heldInAll_20 rfl hl (by decide) rfl (fun ls hl => ?_)
        obtain ⟨x2_15, e_x2_15, hZ⟩ := jx_l_some hZ
        refine lv_iinc (v := x2_15) (lv' := [(2, .int x2_15), (1, .int x1_14), (0, .ref (q 1))]) hx hb dX1_heldInAll_21 hl (k := 2) rfl (by rw [e_x2_15]; rfl) (by decide) rfl (fun ls hl => ?_)
        refine lv_goto (tgt := 4) hx hb dX1_heldInAll_24 (by decide) ?_
        have ho := Option.some.inj hZ
        subst ho
        exact ih_3 x1_14 x2_15 _ _ hk_3 hP hD hS _ (lv_sub hl [2, 1, 0] rfl)
  exact l_3 FU (0 : Int32) (0 : Int32) _ _ hw hP hD hS _ (lv_sub hl [2, 1, 0] rfl)
-- X1_alike
def f_X1_alike_69 (x3_4 : Int32) (S_4 : St) : Option (Int32 × St) :=
  some (x3_4, S_4)
def f_X1_alike_63i5 (x1 : Int32) (x2 : Int32) (S : St) (x3_11 : Int32) (x4_11 : Int32) : Option ((Int32 × Int32) ⊕ (Int32)) :=
  jx_l (x4_11 + 1) (fun x4_12 => some (.inl (x3_11, x4_12)))
def b_X1_alike_5 (x1 : Int32) (x2 : Int32) (x3 : Int32) (x4 : Int32) (S : St) : Option ((Int32 × Int32) ⊕ (Int32)) :=
  (if (S.1 1 5) ≤ x4 then some (.inr x3) else jx_a x4 8 (jx_a x1 8 ((if x2 < (if 0 ≤ ((S.1 4 (Int32.toNatClampNeg x4)) - (S.1 4 (Int32.toNatClampNeg x1))) then ((S.1 4 (Int32.toNatClampNeg x4)) - (S.1 4 (Int32.toNatClampNeg x1))) else 0 - ((S.1 4 (Int32.toNatClampNeg x4)) - (S.1 4 (Int32.toNatClampNeg x1)))) then f_X1_alike_63i5 x1 x2 S x3 x4 else jx_a x4 8 (jx_a x1 8 ((if x2 < (if 0 ≤ ((S.1 5 (Int32.toNatClampNeg x4)) - (S.1 5 (Int32.toNatClampNeg x1))) then ((S.1 5 (Int32.toNatClampNeg x4)) - (S.1 5 (Int32.toNatClampNeg x1))) else 0 - ((S.1 5 (Int32.toNatClampNeg x4)) - (S.1 5 (Int32.toNatClampNeg x1)))) then f_X1_alike_63i5 x1 x2 S x3 x4 else jx_l (x3 ||| ((1 : Int32) <<< (x4 &&& 31))) (fun x3_18 => f_X1_alike_63i5 x1 x2 S x3_18 x4))))))))
def g_X1_alike_5 (x1 : Int32) (x2 : Int32) (S : St) : (Int32 × Int32) → Option ((Int32 × Int32) ⊕ (Int32)) := fun z => b_X1_alike_5 x1 x2 z.1 z.2 S
def f_X1_alike (x1 : Int32) (x2 : Int32) (S : St) : Option (Int32 × St) :=
  jx_b (jx_w (g_X1_alike_5 x1 x2 S) FU ((0 : Int32), (0 : Int32))) (fun z => f_X1_alike_69 z S)
set_option maxHeartbeats 4000000 in
set_option maxRecDepth 100000 in
theorem c_X1_alike (l : Launch) (D : va_G) (q : Nat → Nat) (k : CI) (x1 : Int32) (x2 : Int32) (S : St) (sz : Nat) (Z : Int32 × St) (hZ : f_X1_alike x1 x2 S = some Z) : MetI W_X SX l yX1_alike wsX1_alike { frames := 1, cells := 0, slots := 0, locals := 21 } [.ref (q 1), .int x1, .int x2] D q k S sz Z := by
  refine enter (cc := cX1_alike) (maxL := 5) (ret := some .int) (by decide) rfl (Nat.le_of_ble_eq_true rfl) ?_
  intro p e s m below meth c A ls hx hb hr hts hown hlocks hml hP hK hD hA hS hsp hAe hl
  have hown : s.vm.findClass RX1 = some m.cls := hown
  have hl : lv_has ls 5 [(0, .ref (q 1)), (1, .int x1), (2, .int x2)] := hl
  have in1 : ∀ w ∈ wsX10, w ∈ wsX1_alike := fun _ h => (List.mem_cons_of_mem _ (List.mem_append_right _ h))
  have j69 : ∀ (x3_4 : Int32) (S_4 : St)  (H : Heap) (locs : List Loc) (hZ : f_X1_alike_69 x3_4 S_4 = some Z) (hP : va_P D vwCl (W_X q k S_4) H) (hD : va_D A (W_X q k S_4)) (hS : va_S A s.heap H locs) (ls : Array Slot) (hl : lv_has ls 5 [(3, .int x3_4)]), W p l e ({ frames := 1, cells := 0, slots := 0, locals := 21 } : Room) s m ([.ref (q 1), .int x1, .int x2] : List Value).toArray below meth c H locs 0 0 (MQ below (va_Qi (fun r u => (r, u) = Z) (fun u t => va_P D vwCl (W_X q k u) t.heap) A) ([.ref (q 1), .int x1, .int x2] : List Value).toArray s 0 0 A) (F0 m 69 ls []) := by
    intro x3_4 S_4   H locs hZ hP hD hS ls hl
    unfold f_X1_alike_69 at hZ
    refine lv_iload_n hx hb dX1_alike_69 rfl (lv_at hl 0 rfl) ?_
    exact leave_i hx hb hr hlocks hP hS hZ dX1_alike_70
  unfold f_X1_alike at hZ
  refine lv_iconst (v := (0 : Int32)) hx hb dX1_alike_0 (by decide) ?_
  refine lv_istore_n (lv' := [(3, .int (0 : Int32)), (0, .ref (q 1)), (1, .int x1), (2, .int x2)]) hx hb dX1_alike_1 rfl hl (by decide) rfl (fun ls hl => ?_)
  refine lv_iconst (v := (0 : Int32)) hx hb dX1_alike_2 (by decide) ?_
  refine lv_istore (lv' := [(4, .int (0 : Int32)), (3, .int (0 : Int32)), (0, .ref (q 1)), (1, .int x1), (2, .int x2)]) hx hb dX1_alike_3 hl (by decide) rfl (fun ls hl => ?_)
  obtain ⟨r_3, hw, hza_3⟩ := jx_b_some hZ
  have l_3 : ∀ (nn : Nat) (x3_1 : Int32) (x4_2 : Int32) (H : Heap) (locs : List Loc) (hw : jx_w (g_X1_alike_5 x1 x2 S) nn (x3_1, x4_2) = some r_3) (hP : va_P D vwCl (W_X q k S) H) (hD : va_D A (W_X q k S)) (hS : va_S A s.heap H locs) (ls : Array Slot) (hl : lv_has ls 5 [(0, .ref (q 1)), (1, .int x1), (2, .int x2), (3, .int x3_1), (4, .int x4_2)]), W p l e ({ frames := 1, cells := 0, slots := 0, locals := 21 } : Room) s m ([.ref (q 1), .int x1, .int x2] : List Value).toArray below meth c H locs 0 0 (MQ below (va_Qi (fun r u => (r, u) = Z) (fun u t => va_P D vwCl (W_X q k u) t.heap) A) ([.ref (q 1), .int x1, .int x2] : List Value).toArray s 0 0 A) (F0 m 5 ls []) := by
    intro nn
    induction nn with
    | zero =>
      intro x3_1 x4_2 H locs hw hP hD hS ls hl
      exact jx_w_zero hw
    | succ n_3 ih_3 =>
      intro x3_1 x4_2 H locs hw hP hD hS ls hl
      obtain ⟨o_3, hZ, hk_3⟩ := jx_w_succ hw
      have hZ : b_X1_alike_5 x1 x2 x3_1 x4_2 S = some o_3 := hZ
      have j63i5 : ∀ (x3_25 : Int32) (x4_25 : Int32)  (o_3 : (Int32 × Int32) ⊕ (Int32)) (hk_3 : jx_k (g_X1_alike_5 x1 x2 S) n_3 r_3 o_3) (H : Heap) (locs : List Loc) (hZ : f_X1_alike_63i5 x1 x2 S x3_25 x4_25 = some o_3) (hP : va_P D vwCl (W_X q k S) H) (hD : va_D A (W_X q k S)) (hS : va_S A s.heap H locs) (ls : Array Slot) (hl : lv_has ls 5 [(0, .ref (q 1)), (1, .int x1), (2, .int x2), (3, .int x3_25), (4, .int x4_25)]), W p l e ({ frames := 1, cells := 0, slots := 0, locals := 21 } : Room) s m ([.ref (q 1), .int x1, .int x2] : List Value).toArray below meth c H locs 0 0 (MQ below (va_Qi (fun r u => (r, u) = Z) (fun u t => va_P D vwCl (W_X q k u) t.heap) A) ([.ref (q 1), .int x1, .int x2] : List Value).toArray s 0 0 A) (F0 m 63 ls []) := by
        intro x3_25 x4_25  o_3 hk_3 H locs hZ hP hD hS ls hl
        unfold f_X1_alike_63i5 at hZ
        obtain ⟨x4_26, e_x4_26, hZ⟩ := jx_l_some hZ
        refine lv_iinc (v := x4_26) (lv' := [(4, .int x4_26), (0, .ref (q 1)), (1, .int x1), (2, .int x2), (3, .int x3_25)]) hx hb dX1_alike_63 hl (k := 4) rfl (by rw [e_x4_26]; rfl) (by decide) rfl (fun ls hl => ?_)
        refine lv_goto (tgt := 5) hx hb dX1_alike_66 (by decide) ?_
        have ho := Option.some.inj hZ
        subst ho
        exact ih_3 x3_25 x4_26 _ _ hk_3 hP hD hS _ (lv_sub hl [1, 2, 3, 4, 0] rfl)
      unfold b_X1_alike_5 at hZ
      refine lv_iload hx hb dX1_alike_5 (lv_at hl 4 rfl) ?_
      refine lv_aload_n hx hb dX1_alike_7 rfl (lv_at hl 0 rfl) ?_
      refine gf_1_known hx hb hts in1 hown hK hP (hts (.fieldLink RX1 35 "CoinsOfLast$Coins" "known" "I") (List.mem_of_getElem? (i := 1) rfl)) dX1_alike_8 ?_
      refine lv_icmp_ge (tgt := 69) hx hb dX1_alike_11 (by decide) (fun c_20 => ?_) (fun c_20 => ?_)
      · have hZ := jx_i_pos c_20 hZ
        have ho := Option.some.inj hZ
        subst ho
        have hE := hza_3
        rw [← (show x3_1 = r_3 from hk_3)] at hE
        have hZ : f_X1_alike_69 x3_1 S = some Z := hE
        exact j69 x3_1 S _ _ hZ hP hD hS _ (lv_sub hl [3] rfl)
      · have hZ := jx_i_neg c_20 hZ
        refine lv_aload_n hx hb dX1_alike_14 rfl (lv_at hl 0 rfl) ?_
        refine gf_1_size hx hb hts in1 hown hK hP (hts (.fieldLink RX1 18 "CoinsOfLast$Coins" "size" "[I") (List.mem_of_getElem? (i := 2) rfl)) dX1_alike_15 ?_
        refine lv_iload hx hb dX1_alike_18 (lv_at hl 4 rfl) ?_
        obtain ⟨c_22, hZ⟩ := jx_a_some hZ
        refine X_iald hx hb hK hP wX_4 c_22 dX1_alike_20 ?_
        refine lv_aload_n hx hb dX1_alike_21 rfl (lv_at hl 0 rfl) ?_
        refine gf_1_size hx hb hts in1 hown hK hP (hts (.fieldLink RX1 18 "CoinsOfLast$Coins" "size" "[I") (List.mem_of_getElem? (i := 2) rfl)) dX1_alike_22 ?_
        refine lv_iload_n hx hb dX1_alike_25 rfl (lv_at hl 1 rfl) ?_
        obtain ⟨c_23, hZ⟩ := jx_a_some hZ
        refine X_iald hx hb hK hP wX_4 c_23 dX1_alike_26 ?_
        refine lv_isub hx hb dX1_alike_27 ?_
        refine va_mabs hx hb (hml.trans hl.1.symm) hown (hts _ (List.mem_of_getElem? (i := 3) rfl)) (hts _ (List.mem_of_getElem? (i := 4) rfl)) (hts _ (List.mem_of_getElem? (i := 5) rfl)) (hts _ (List.mem_of_getElem? (i := 6) rfl)) (Nat.le_of_ble_eq_true rfl) (Nat.le_of_ble_eq_true rfl) (Nat.zero_le _) (Nat.zero_le _) dX1_alike_28 ?_
        refine lv_iload_n hx hb dX1_alike_31 rfl (lv_at hl 2 rfl) ?_
        refine lv_icmp_gt (tgt := 63) hx hb dX1_alike_32 (by decide) (fun c_24 => ?_) (fun c_24 => ?_)
        · have hZ := jx_i_pos c_24 hZ
          exact j63i5 x3_1 x4_2 _ hk_3 _ _ hZ hP hD hS _ (lv_sub hl [0, 1, 2, 3, 4] rfl)
        · have hZ := jx_i_neg c_24 hZ
          refine lv_aload_n hx hb dX1_alike_35 rfl (lv_at hl 0 rfl) ?_
          refine gf_1_weight hx hb hts in1 hown hK hP (hts (.fieldLink RX1 21 "CoinsOfLast$Coins" "weight" "[I") (List.mem_of_getElem? (i := 7) rfl)) dX1_alike_36 ?_
          refine lv_iload hx hb dX1_alike_39 (lv_at hl 4 rfl) ?_
          obtain ⟨c_28, hZ⟩ := jx_a_some hZ
          refine X_iald hx hb hK hP wX_5 c_28 dX1_alike_41 ?_
          refine lv_aload_n hx hb dX1_alike_42 rfl (lv_at hl 0 rfl) ?_
          refine gf_1_weight hx hb hts in1 hown hK hP (hts (.fieldLink RX1 21 "CoinsOfLast$Coins" "weight" "[I") (List.mem_of_getElem? (i := 7) rfl)) dX1_alike_43 ?_
          refine lv_iload_n hx hb dX1_alike_46 rfl (lv_at hl 1 rfl) ?_
          obtain ⟨c_29, hZ⟩ := jx_a_some hZ
          refine X_iald hx hb hK hP wX_5 c_29 dX1_alike_47 ?_
          refine lv_isub hx hb dX1_alike_48 ?_
          refine va_mabs hx hb (hml.trans hl.1.symm) hown (hts _ (List.mem_of_getElem? (i := 3) rfl)) (hts _ (List.mem_of_getElem? (i := 4) rfl)) (hts _ (List.mem_of_getElem? (i := 5) rfl)) (hts _ (List.mem_of_getElem? (i := 6) rfl)) (Nat.le_of_ble_eq_true rfl) (Nat.le_of_ble_eq_true rfl) (Nat.zero_le _) (Nat.zero_le _) dX1_alike_49 ?_
          refine lv_iload_n hx hb dX1_alike_52 rfl (lv_at hl 2 rfl) ?_
          refine lv_icmp_gt (tgt := 63) hx hb dX1_alike_53 (by decide) (fun c_30 => ?_) (fun c_30 => ?_)
          · have hZ := jx_i_pos c_30 hZ
            exact j63i5 x3_1 x4_2 _ hk_3 _ _ hZ hP hD hS _ (lv_sub hl [0, 1, 2, 3, 4] rfl)
          · have hZ := jx_i_neg c_30 hZ
            refine lv_iload_n hx hb dX1_alike_56 rfl (lv_at hl 3 rfl) ?_
            refine lv_iconst (v := (1 : Int32)) hx hb dX1_alike_57 (by decide) ?_
            refine lv_iload hx hb dX1_alike_58 (lv_at hl 4 rfl) ?_
            refine lv_ishl hx hb dX1_alike_60 ?_
            refine lv_ior hx hb dX1_alike_61 ?_
            obtain ⟨x3_32, e_x3_32, hZ⟩ := jx_l_some hZ
            refine tx_i e_x3_32 ?_
            refine lv_istore_n (lv' := [(3, .int x3_32), (0, .ref (q 1)), (1, .int x1), (2, .int x2), (4, .int x4_2)]) hx hb dX1_alike_62 rfl hl (by decide) rfl (fun ls hl => ?_)
            exact j63i5 x3_32 x4_2 _ hk_3 _ _ hZ hP hD hS _ (lv_sub hl [1, 2, 3, 0, 4] rfl)
  exact l_3 FU (0 : Int32) (0 : Int32) _ _ hw hP hD hS _ (lv_sub hl [2, 3, 4, 1, 0] rfl)
-- X1_takeOut
def f_X1_takeOut_34 (S_4 : St) : Option (St) :=
  some S_4
def b_X1_takeOut_2 (x2 : Int32) (S : St) : Option ((Int32 × St) ⊕ (St)) :=
  (if (S.1 1 5) ≤ x2 then some (.inr S) else (if (8 : Int32) ≤ x2 then some (.inr S) else jx_a x2 8 (jx_a x2 8 (jx_a x2 8 (jx_l (u1 S 6 (Int32.toNatClampNeg x2) ((S.1 6 (Int32.toNatClampNeg x2)) - (S.1 16 (Int32.toNatClampNeg x2)))) (fun S_13 => jx_l (x2 + 1) (fun x2_14 => some (.inl (x2_14, S_13)))))))))
def g_X1_takeOut_2 : (Int32 × St) → Option ((Int32 × St) ⊕ (St)) := fun z => b_X1_takeOut_2 z.1 z.2
def f_X1_takeOut (S : St) : Option (St) :=
  jx_b (jx_w (g_X1_takeOut_2) FU ((0 : Int32), S)) (fun z => f_X1_takeOut_34 z)
set_option maxHeartbeats 4000000 in
set_option maxRecDepth 100000 in
theorem c_X1_takeOut (l : Launch) (D : va_G) (q : Nat → Nat) (k : CI) (S : St) (sz : Nat) (Z : St) (hZ : f_X1_takeOut S = some Z) : MetV W_X SX l yX1_takeOut wsX1_takeOut { frames := 0, cells := 0, slots := 0, locals := 0 } [.ref (q 1), .ref (q 16)] D q k S sz Z := by
  refine enter (cc := cX1_takeOut) (maxL := 3) (ret := none) (by decide) rfl (Nat.le_of_ble_eq_true rfl) ?_
  intro p e s m below meth c A ls hx hb hr hts hown hlocks hml hP hK hD hA hS hsp hAe hl
  have hown : s.vm.findClass RX1 = some m.cls := hown
  have hl : lv_has ls 3 [(0, .ref (q 1)), (1, .ref (q 16))] := hl
  have in1 : ∀ w ∈ wsX10, w ∈ wsX1_takeOut := fun _ h => (List.mem_cons_of_mem _ (List.mem_append_right _ h))
  have j34 : ∀ (S_4 : St)  (H : Heap) (locs : List Loc) (hZ : f_X1_takeOut_34 S_4 = some Z) (hP : va_P D vwCl (W_X q k S_4) H) (hD : va_D A (W_X q k S_4)) (hS : va_S A s.heap H locs) (ls : Array Slot) (hl : lv_has ls 3 []), W p l e ({ frames := 0, cells := 0, slots := 0, locals := 0 } : Room) s m ([.ref (q 1), .ref (q 16)] : List Value).toArray below meth c H locs 0 0 (MQ below (va_Qv (fun u => u = Z) (fun u t => va_P D vwCl (W_X q k u) t.heap) A) ([.ref (q 1), .ref (q 16)] : List Value).toArray s 0 0 A) (F0 m 34 ls []) := by
    intro S_4   H locs hZ hP hD hS ls hl
    unfold f_X1_takeOut_34 at hZ
    exact leave_v hx hb hr hlocks hP hS hZ dX1_takeOut_34
  unfold f_X1_takeOut at hZ
  refine lv_iconst (v := (0 : Int32)) hx hb dX1_takeOut_0 (by decide) ?_
  refine lv_istore_n (lv' := [(2, .int (0 : Int32)), (0, .ref (q 1)), (1, .ref (q 16))]) hx hb dX1_takeOut_1 rfl hl (by decide) rfl (fun ls hl => ?_)
  obtain ⟨r_3, hw, hza_3⟩ := jx_b_some hZ
  have l_3 : ∀ (nn : Nat) (x2_1 : Int32) (S_2 : St) (H : Heap) (locs : List Loc) (hw : jx_w (g_X1_takeOut_2) nn (x2_1, S_2) = some r_3) (hP : va_P D vwCl (W_X q k S_2) H) (hD : va_D A (W_X q k S_2)) (hS : va_S A s.heap H locs) (ls : Array Slot) (hl : lv_has ls 3 [(0, .ref (q 1)), (1, .ref (q 16)), (2, .int x2_1)]), W p l e ({ frames := 0, cells := 0, slots := 0, locals := 0 } : Room) s m ([.ref (q 1), .ref (q 16)] : List Value).toArray below meth c H locs 0 0 (MQ below (va_Qv (fun u => u = Z) (fun u t => va_P D vwCl (W_X q k u) t.heap) A) ([.ref (q 1), .ref (q 16)] : List Value).toArray s 0 0 A) (F0 m 2 ls []) := by
    intro nn
    induction nn with
    | zero =>
      intro x2_1 S_2 H locs hw hP hD hS ls hl
      exact jx_w_zero hw
    | succ n_3 ih_3 =>
      intro x2_1 S_2 H locs hw hP hD hS ls hl
      obtain ⟨o_3, hZ, hk_3⟩ := jx_w_succ hw
      have hZ : b_X1_takeOut_2 x2_1 S_2 = some o_3 := hZ
      unfold b_X1_takeOut_2 at hZ
      refine lv_iload_n hx hb dX1_takeOut_2 rfl (lv_at hl 2 rfl) ?_
      refine lv_aload_n hx hb dX1_takeOut_3 rfl (lv_at hl 0 rfl) ?_
      refine gf_1_known hx hb hts in1 hown hK hP (hts (.fieldLink RX1 35 "CoinsOfLast$Coins" "known" "I") (List.mem_of_getElem? (i := 1) rfl)) dX1_takeOut_4 ?_
      refine lv_icmp_ge (tgt := 34) hx hb dX1_takeOut_7 (by decide) (fun c_15 => ?_) (fun c_15 => ?_)
      · have hZ := jx_i_pos c_15 hZ
        have ho := Option.some.inj hZ
        subst ho
        have hE := hza_3
        rw [← (show S_2 = r_3 from hk_3)] at hE
        have hZ : f_X1_takeOut_34 S_2 = some Z := hE
        exact j34 S_2 _ _ hZ hP hD hS _ (lv_sub hl [] rfl)
      · have hZ := jx_i_neg c_15 hZ
        refine lv_iload_n hx hb dX1_takeOut_10 rfl (lv_at hl 2 rfl) ?_
        refine lv_aload_n hx hb dX1_takeOut_11 rfl (lv_at hl 1 rfl) ?_
        refine X_alen (v := (8 : Int32)) (t0 := 0) hx hb hK hP wX_16 rfl rfl dX1_takeOut_12 ?_
        refine lv_icmp_ge (tgt := 34) hx hb dX1_takeOut_13 (by decide) (fun c_17 => ?_) (fun c_17 => ?_)
        · have hZ := jx_i_pos c_17 hZ
          have ho := Option.some.inj hZ
          subst ho
          have hE := hza_3
          rw [← (show S_2 = r_3 from hk_3)] at hE
          have hZ : f_X1_takeOut_34 S_2 = some Z := hE
          exact j34 S_2 _ _ hZ hP hD hS _ (lv_sub hl [] rfl)
        · have hZ := jx_i_neg c_17 hZ
          refine lv_aload_n hx hb dX1_takeOut_16 rfl (lv_at hl 0 rfl) ?_
          refine gf_1_held hx hb hts in1 hown hK hP (hts (.fieldLink RX1 24 "CoinsOfLast$Coins" "held" "[I") (List.mem_of_getElem? (i := 2) rfl)) dX1_takeOut_17 ?_
          refine lv_iload_n hx hb dX1_takeOut_20 rfl (lv_at hl 2 rfl) ?_
          refine lv_dup2_11 hx hb dX1_takeOut_21 rfl rfl ?_
          obtain ⟨c_19, hZ⟩ := jx_a_some hZ
          refine X_iald hx hb hK hP wX_6 c_19 dX1_takeOut_22 ?_
          refine lv_aload_n hx hb dX1_takeOut_23 rfl (lv_at hl 1 rfl) ?_
          refine lv_iload_n hx hb dX1_takeOut_24 rfl (lv_at hl 2 rfl) ?_
          obtain ⟨c_20, hZ⟩ := jx_a_some hZ
          refine X_iald hx hb hK hP wX_16 c_20 dX1_takeOut_25 ?_
          refine lv_isub hx hb dX1_takeOut_26 ?_
          obtain ⟨c_21, hZ⟩ := jx_a_some hZ
          obtain ⟨S_22, e_S_22, hZ⟩ := jx_l_some hZ
          refine X_iast hx hb hK hP hD hS wX_6 (fun _ => wXs_6) c_21 e_S_22 dX1_takeOut_27 (fun H locs hP hD hS => ?_)
          obtain ⟨x2_23, e_x2_23, hZ⟩ := jx_l_some hZ
          refine lv_iinc (v := x2_23) (lv' := [(2, .int x2_23), (0, .ref (q 1)), (1, .ref (q 16))]) hx hb dX1_takeOut_28 hl (k := 2) rfl (by rw [e_x2_23]; rfl) (by decide) rfl (fun ls hl => ?_)
          refine lv_goto (tgt := 2) hx hb dX1_takeOut_31 (by decide) ?_
          have ho := Option.some.inj hZ
          subst ho
          exact ih_3 x2_23 S_22 _ _ hk_3 hP hD hS _ (lv_sub hl [1, 2, 0] rfl)
  exact l_3 FU (0 : Int32) S _ _ hw hP hD hS _ (lv_sub hl [1, 2, 0] rfl)
-- X1_emptyOut
def f_X1_emptyOut_44 (x2_5 : Int32) (S_5 : St) : Option (Int32 × St) :=
  some (x2_5, S_5)
def f_X1_emptyOut_38i4 (x1 : Int32) (x2_11 : Int32) (x3_11 : Int32) (S_11 : St) : Option ((Int32 × Int32 × St) ⊕ ((Int32 × St))) :=
  jx_l (x3_11 + 1) (fun x3_12 => some (.inl (x2_11, x3_12, S_11)))
def b_X1_emptyOut_4 (x1 : Int32) (x2 : Int32) (x3 : Int32) (S : St) : Option ((Int32 × Int32 × St) ⊕ ((Int32 × St))) :=
  (if (S.1 1 5) ≤ x3 then some (.inr (x2, S)) else jx_a x3 8 ((if (S.1 2 (Int32.toNatClampNeg x3)) = x1 then jx_a x3 8 (jx_l (x2 + (S.1 6 (Int32.toNatClampNeg x3))) (fun x2_15 => jx_a x3 8 (jx_l (u1 S 6 (Int32.toNatClampNeg x3) (0 : Int32)) (fun S_17 => f_X1_emptyOut_38i4 x1 x2_15 x3 S_17)))) else f_X1_emptyOut_38i4 x1 x2 x3 S)))
def g_X1_emptyOut_4 (x1 : Int32) : (Int32 × Int32 × St) → Option ((Int32 × Int32 × St) ⊕ ((Int32 × St))) := fun z => b_X1_emptyOut_4 x1 z.1 z.2.1 z.2.2
def f_X1_emptyOut (x1 : Int32) (S : St) : Option (Int32 × St) :=
  jx_b (jx_w (g_X1_emptyOut_4 x1) FU ((0 : Int32), (0 : Int32), S)) (fun z => f_X1_emptyOut_44 z.1 z.2)
set_option maxHeartbeats 4000000 in
set_option maxRecDepth 100000 in
theorem c_X1_emptyOut (l : Launch) (D : va_G) (q : Nat → Nat) (k : CI) (x1 : Int32) (S : St) (sz : Nat) (Z : Int32 × St) (hZ : f_X1_emptyOut x1 S = some Z) : MetI W_X SX l yX1_emptyOut wsX1_emptyOut { frames := 0, cells := 0, slots := 0, locals := 0 } [.ref (q 1), .int x1] D q k S sz Z := by
  refine enter (cc := cX1_emptyOut) (maxL := 4) (ret := some .int) (by decide) rfl (Nat.le_of_ble_eq_true rfl) ?_
  intro p e s m below meth c A ls hx hb hr hts hown hlocks hml hP hK hD hA hS hsp hAe hl
  have hown : s.vm.findClass RX1 = some m.cls := hown
  have hl : lv_has ls 4 [(0, .ref (q 1)), (1, .int x1)] := hl
  have in1 : ∀ w ∈ wsX10, w ∈ wsX1_emptyOut := fun _ h => (List.mem_cons_of_mem _ (List.mem_append_right _ h))
  have j44 : ∀ (x2_5 : Int32) (S_5 : St)  (H : Heap) (locs : List Loc) (hZ : f_X1_emptyOut_44 x2_5 S_5 = some Z) (hP : va_P D vwCl (W_X q k S_5) H) (hD : va_D A (W_X q k S_5)) (hS : va_S A s.heap H locs) (ls : Array Slot) (hl : lv_has ls 4 [(2, .int x2_5)]), W p l e ({ frames := 0, cells := 0, slots := 0, locals := 0 } : Room) s m ([.ref (q 1), .int x1] : List Value).toArray below meth c H locs 0 0 (MQ below (va_Qi (fun r u => (r, u) = Z) (fun u t => va_P D vwCl (W_X q k u) t.heap) A) ([.ref (q 1), .int x1] : List Value).toArray s 0 0 A) (F0 m 44 ls []) := by
    intro x2_5 S_5   H locs hZ hP hD hS ls hl
    unfold f_X1_emptyOut_44 at hZ
    refine lv_iload_n hx hb dX1_emptyOut_44 rfl (lv_at hl 0 rfl) ?_
    exact leave_i hx hb hr hlocks hP hS hZ dX1_emptyOut_45
  unfold f_X1_emptyOut at hZ
  refine lv_iconst (v := (0 : Int32)) hx hb dX1_emptyOut_0 (by decide) ?_
  refine lv_istore_n (lv' := [(2, .int (0 : Int32)), (0, .ref (q 1)), (1, .int x1)]) hx hb dX1_emptyOut_1 rfl hl (by decide) rfl (fun ls hl => ?_)
  refine lv_iconst (v := (0 : Int32)) hx hb dX1_emptyOut_2 (by decide) ?_
  refine lv_istore_n (lv' := [(3, .int (0 : Int32)), (2, .int (0 : Int32)), (0, .ref (q 1)), (1, .int x1)]) hx hb dX1_emptyOut_3 rfl hl (by decide) rfl (fun ls hl => ?_)
  obtain ⟨r_4, hw, hza_4⟩ := jx_b_some hZ
  have l_4 : ∀ (nn : Nat) (x2_1 : Int32) (x3_2 : Int32) (S_3 : St) (H : Heap) (locs : List Loc) (hw : jx_w (g_X1_emptyOut_4 x1) nn (x2_1, x3_2, S_3) = some r_4) (hP : va_P D vwCl (W_X q k S_3) H) (hD : va_D A (W_X q k S_3)) (hS : va_S A s.heap H locs) (ls : Array Slot) (hl : lv_has ls 4 [(0, .ref (q 1)), (1, .int x1), (2, .int x2_1), (3, .int x3_2)]), W p l e ({ frames := 0, cells := 0, slots := 0, locals := 0 } : Room) s m ([.ref (q 1), .int x1] : List Value).toArray below meth c H locs 0 0 (MQ below (va_Qi (fun r u => (r, u) = Z) (fun u t => va_P D vwCl (W_X q k u) t.heap) A) ([.ref (q 1), .int x1] : List Value).toArray s 0 0 A) (F0 m 4 ls []) := by
    intro nn
    induction nn with
    | zero =>
      intro x2_1 x3_2 S_3 H locs hw hP hD hS ls hl
      exact jx_w_zero hw
    | succ n_4 ih_4 =>
      intro x2_1 x3_2 S_3 H locs hw hP hD hS ls hl
      obtain ⟨o_4, hZ, hk_4⟩ := jx_w_succ hw
      have hZ : b_X1_emptyOut_4 x1 x2_1 x3_2 S_3 = some o_4 := hZ
      have j38i4 : ∀ (x2_23 : Int32) (x3_23 : Int32) (S_23 : St)  (o_4 : (Int32 × Int32 × St) ⊕ ((Int32 × St))) (hk_4 : jx_k (g_X1_emptyOut_4 x1) n_4 r_4 o_4) (H : Heap) (locs : List Loc) (hZ : f_X1_emptyOut_38i4 x1 x2_23 x3_23 S_23 = some o_4) (hP : va_P D vwCl (W_X q k S_23) H) (hD : va_D A (W_X q k S_23)) (hS : va_S A s.heap H locs) (ls : Array Slot) (hl : lv_has ls 4 [(0, .ref (q 1)), (1, .int x1), (2, .int x2_23), (3, .int x3_23)]), W p l e ({ frames := 0, cells := 0, slots := 0, locals := 0 } : Room) s m ([.ref (q 1), .int x1] : List Value).toArray below meth c H locs 0 0 (MQ below (va_Qi (fun r u => (r, u) = Z) (fun u t => va_P D vwCl (W_X q k u) t.heap) A) ([.ref (q 1), .int x1] : List Value).toArray s 0 0 A) (F0 m 38 ls []) := by
        intro x2_23 x3_23 S_23  o_4 hk_4 H locs hZ hP hD hS ls hl
        unfold f_X1_emptyOut_38i4 at hZ
        obtain ⟨x3_24, e_x3_24, hZ⟩ := jx_l_some hZ
        refine lv_iinc (v := x3_24) (lv' := [(3, .int x3_24), (0, .ref (q 1)), (1, .int x1), (2, .int x2_23)]) hx hb dX1_emptyOut_38 hl (k := 3) rfl (by rw [e_x3_24]; rfl) (by decide) rfl (fun ls hl => ?_)
        refine lv_goto (tgt := 4) hx hb dX1_emptyOut_41 (by decide) ?_
        have ho := Option.some.inj hZ
        subst ho
        exact ih_4 x2_23 x3_24 S_23 _ _ hk_4 hP hD hS _ (lv_sub hl [1, 2, 3, 0] rfl)
      unfold b_X1_emptyOut_4 at hZ
      refine lv_iload_n hx hb dX1_emptyOut_4 rfl (lv_at hl 3 rfl) ?_
      refine lv_aload_n hx hb dX1_emptyOut_5 rfl (lv_at hl 0 rfl) ?_
      refine gf_1_known hx hb hts in1 hown hK hP (hts (.fieldLink RX1 35 "CoinsOfLast$Coins" "known" "I") (List.mem_of_getElem? (i := 1) rfl)) dX1_emptyOut_6 ?_
      refine lv_icmp_ge (tgt := 44) hx hb dX1_emptyOut_9 (by decide) (fun c_19 => ?_) (fun c_19 => ?_)
      · have hZ := jx_i_pos c_19 hZ
        have ho := Option.some.inj hZ
        subst ho
        have hE := hza_4
        rw [← (show (x2_1, S_3) = r_4 from hk_4)] at hE
        have hZ : f_X1_emptyOut_44 x2_1 S_3 = some Z := hE
        exact j44 x2_1 S_3 _ _ hZ hP hD hS _ (lv_sub hl [2] rfl)
      · have hZ := jx_i_neg c_19 hZ
        refine lv_aload_n hx hb dX1_emptyOut_12 rfl (lv_at hl 0 rfl) ?_
        refine gf_1_land hx hb hts in1 hown hK hP (hts (.fieldLink RX1 9 "CoinsOfLast$Coins" "land" "[I") (List.mem_of_getElem? (i := 2) rfl)) dX1_emptyOut_13 ?_
        refine lv_iload_n hx hb dX1_emptyOut_16 rfl (lv_at hl 3 rfl) ?_
        obtain ⟨c_21, hZ⟩ := jx_a_some hZ
        refine X_iald hx hb hK hP wX_2 c_21 dX1_emptyOut_17 ?_
        refine lv_iload_n hx hb dX1_emptyOut_18 rfl (lv_at hl 1 rfl) ?_
        refine lv_icmp_ne (tgt := 38) hx hb dX1_emptyOut_19 (by decide) (fun c_22 => ?_) (fun c_22 => ?_)
        · have hZ := jx_i_neg c_22 hZ
          exact j38i4 x2_1 x3_2 S_3 _ hk_4 _ _ hZ hP hD hS _ (lv_sub hl [0, 1, 2, 3] rfl)
        · have hZ := jx_i_pos c_22 hZ
          refine lv_iload_n hx hb dX1_emptyOut_22 rfl (lv_at hl 2 rfl) ?_
          refine lv_aload_n hx hb dX1_emptyOut_23 rfl (lv_at hl 0 rfl) ?_
          refine gf_1_held hx hb hts in1 hown hK hP (hts (.fieldLink RX1 24 "CoinsOfLast$Coins" "held" "[I") (List.mem_of_getElem? (i := 3) rfl)) dX1_emptyOut_24 ?_
          refine lv_iload_n hx hb dX1_emptyOut_27 rfl (lv_at hl 3 rfl) ?_
          obtain ⟨c_26, hZ⟩ := jx_a_some hZ
          refine X_iald hx hb hK hP wX_6 c_26 dX1_emptyOut_28 ?_
          refine lv_iadd hx hb dX1_emptyOut_29 ?_
          obtain ⟨x2_27, e_x2_27, hZ⟩ := jx_l_some hZ
          refine tx_i e_x2_27 ?_
          refine lv_istore_n (lv' := [(2, .int x2_27), (0, .ref (q 1)), (1, .int x1), (3, .int x3_2)]) hx hb dX1_emptyOut_30 rfl hl (by decide) rfl (fun ls hl => ?_)
          refine lv_aload_n hx hb dX1_emptyOut_31 rfl (lv_at hl 1 rfl) ?_
          refine gf_1_held hx hb hts in1 hown hK hP (hts (.fieldLink RX1 24 "CoinsOfLast$Coins" "held" "[I") (List.mem_of_getElem? (i := 3) rfl)) dX1_emptyOut_32 ?_
          refine lv_iload_n hx hb dX1_emptyOut_35 rfl (lv_at hl 3 rfl) ?_
          refine lv_iconst (v := (0 : Int32)) hx hb dX1_emptyOut_36 (by decide) ?_
          obtain ⟨c_28, hZ⟩ := jx_a_some hZ
          obtain ⟨S_29, e_S_29, hZ⟩ := jx_l_some hZ
          refine X_iast hx hb hK hP hD hS wX_6 (fun _ => wXs_6) c_28 e_S_29 dX1_emptyOut_37 (fun H locs hP hD hS => ?_)
          exact j38i4 x2_27 x3_2 S_29 _ hk_4 _ _ hZ hP hD hS _ (lv_sub hl [1, 2, 0, 3] rfl)
  exact l_4 FU (0 : Int32) (0 : Int32) S _ _ hw hP hD hS _ (lv_sub hl [2, 3, 1, 0] rfl)
-- X1_greatestWithin
def f_X1_greatestWithin_89 (x3_4 : Int32) (S_4 : St) : Option (Int32 × St) :=
  some (x3_4, S_4)
def f_X1_greatestWithin_83i5 (x1 : Int32) (x2 : Int32) (S : St) (x3_13 : Int32) (x4_13 : Int32) : Option ((Int32 × Int32) ⊕ (Int32)) :=
  jx_l (x4_13 + 1) (fun x4_14 => some (.inl (x3_13, x4_14)))
def f_X1_greatestWithin_80i5 (x1 : Int32) (x2 : Int32) (S : St) (x4_17 : Int32) : Option ((Int32 × Int32) ⊕ (Int32)) :=
  f_X1_greatestWithin_83i5 x1 x2 S x4_17 x4_17
def f_X1_greatestWithin_53i5 (x1 : Int32) (x2 : Int32) (S : St) (x3_11 : Int32) (x4_11 : Int32) (s0_11 : Int32) : Option ((Int32 × Int32) ⊕ (Int32)) :=
  (if s0_11 = 0 then f_X1_greatestWithin_83i5 x1 x2 S x3_11 x4_11 else (if x3_11 < 0 then f_X1_greatestWithin_80i5 x1 x2 S x4_11 else jx_a x4_11 8 (jx_a x3_11 8 ((if (S.1 3 (Int32.toNatClampNeg x4_11)) ≤ (S.1 3 (Int32.toNatClampNeg x3_11)) then f_X1_greatestWithin_83i5 x1 x2 S x3_11 x4_11 else f_X1_greatestWithin_80i5 x1 x2 S x4_11)))))
def f_X1_greatestWithin_52i5 (x1 : Int32) (x2 : Int32) (S : St) (x3_10 : Int32) (x4_10 : Int32) : Option ((Int32 × Int32) ⊕ (Int32)) :=
  f_X1_greatestWithin_53i5 x1 x2 S x3_10 x4_10 (0 : Int32)
def b_X1_greatestWithin_5 (x1 : Int32) (x2 : Int32) (x3 : Int32) (x4 : Int32) (S : St) : Option ((Int32 × Int32) ⊕ (Int32)) :=
  (if (S.1 1 5) ≤ x4 then some (.inr x3) else jx_a x4 8 ((if (S.1 2 (Int32.toNatClampNeg x4)) = x1 then jx_a x4 8 ((if x2 < (S.1 3 (Int32.toNatClampNeg x4)) then f_X1_greatestWithin_52i5 x1 x2 S x3 x4 else jx_a x4 8 ((if (6 : Int32) ≤ (S.1 6 (Int32.toNatClampNeg x4)) then f_X1_greatestWithin_52i5 x1 x2 S x3 x4 else f_X1_greatestWithin_53i5 x1 x2 S x3 x4 (1 : Int32))))) else f_X1_greatestWithin_52i5 x1 x2 S x3 x4)))
def g_X1_greatestWithin_5 (x1 : Int32) (x2 : Int32) (S : St) : (Int32 × Int32) → Option ((Int32 × Int32) ⊕ (Int32)) := fun z => b_X1_greatestWithin_5 x1 x2 z.1 z.2 S
def f_X1_greatestWithin (x1 : Int32) (x2 : Int32) (S : St) : Option (Int32 × St) :=
  jx_b (jx_w (g_X1_greatestWithin_5 x1 x2 S) FU ((-1 : Int32), (0 : Int32))) (fun z => f_X1_greatestWithin_89 z S)
set_option maxHeartbeats 4000000 in
set_option maxRecDepth 100000 in
theorem c_X1_greatestWithin (l : Launch) (D : va_G) (q : Nat → Nat) (k : CI) (x1 : Int32) (x2 : Int32) (S : St) (sz : Nat) (Z : Int32 × St) (hZ : f_X1_greatestWithin x1 x2 S = some Z) : MetI W_X SX l yX1_greatestWithin wsX1_greatestWithin { frames := 0, cells := 0, slots := 0, locals := 0 } [.ref (q 1), .int x1, .int x2] D q k S sz Z := by
  refine enter (cc := cX1_greatestWithin) (maxL := 6) (ret := some .int) (by decide) rfl (Nat.le_of_ble_eq_true rfl) ?_
  intro p e s m below meth c A ls hx hb hr hts hown hlocks hml hP hK hD hA hS hsp hAe hl
  have hown : s.vm.findClass RX1 = some m.cls := hown
  have hl : lv_has ls 6 [(0, .ref (q 1)), (1, .int x1), (2, .int x2)] := hl
  have in1 : ∀ w ∈ wsX10, w ∈ wsX1_greatestWithin := fun _ h => (List.mem_cons_of_mem _ (List.mem_append_right _ h))
  have j89 : ∀ (x3_4 : Int32) (S_4 : St)  (H : Heap) (locs : List Loc) (hZ : f_X1_greatestWithin_89 x3_4 S_4 = some Z) (hP : va_P D vwCl (W_X q k S_4) H) (hD : va_D A (W_X q k S_4)) (hS : va_S A s.heap H locs) (ls : Array Slot) (hl : lv_has ls 6 [(3, .int x3_4)]), W p l e ({ frames := 0, cells := 0, slots := 0, locals := 0 } : Room) s m ([.ref (q 1), .int x1, .int x2] : List Value).toArray below meth c H locs 0 0 (MQ below (va_Qi (fun r u => (r, u) = Z) (fun u t => va_P D vwCl (W_X q k u) t.heap) A) ([.ref (q 1), .int x1, .int x2] : List Value).toArray s 0 0 A) (F0 m 89 ls []) := by
    intro x3_4 S_4   H locs hZ hP hD hS ls hl
    unfold f_X1_greatestWithin_89 at hZ
    refine lv_iload_n hx hb dX1_greatestWithin_89 rfl (lv_at hl 0 rfl) ?_
    exact leave_i hx hb hr hlocks hP hS hZ dX1_greatestWithin_90
  unfold f_X1_greatestWithin at hZ
  refine lv_iconst (v := (-1 : Int32)) hx hb dX1_greatestWithin_0 (by decide) ?_
  refine lv_istore_n (lv' := [(3, .int (-1 : Int32)), (0, .ref (q 1)), (1, .int x1), (2, .int x2)]) hx hb dX1_greatestWithin_1 rfl hl (by decide) rfl (fun ls hl => ?_)
  refine lv_iconst (v := (0 : Int32)) hx hb dX1_greatestWithin_2 (by decide) ?_
  refine lv_istore (lv' := [(4, .int (0 : Int32)), (3, .int (-1 : Int32)), (0, .ref (q 1)), (1, .int x1), (2, .int x2)]) hx hb dX1_greatestWithin_3 hl (by decide) rfl (fun ls hl => ?_)
  obtain ⟨r_3, hw, hza_3⟩ := jx_b_some hZ
  have l_3 : ∀ (nn : Nat) (x3_1 : Int32) (x4_2 : Int32) (H : Heap) (locs : List Loc) (hw : jx_w (g_X1_greatestWithin_5 x1 x2 S) nn (x3_1, x4_2) = some r_3) (hP : va_P D vwCl (W_X q k S) H) (hD : va_D A (W_X q k S)) (hS : va_S A s.heap H locs) (ls : Array Slot) (hl : lv_has ls 6 [(0, .ref (q 1)), (1, .int x1), (2, .int x2), (3, .int x3_1), (4, .int x4_2)]), W p l e ({ frames := 0, cells := 0, slots := 0, locals := 0 } : Room) s m ([.ref (q 1), .int x1, .int x2] : List Value).toArray below meth c H locs 0 0 (MQ below (va_Qi (fun r u => (r, u) = Z) (fun u t => va_P D vwCl (W_X q k u) t.heap) A) ([.ref (q 1), .int x1, .int x2] : List Value).toArray s 0 0 A) (F0 m 5 ls []) := by
    intro nn
    induction nn with
    | zero =>
      intro x3_1 x4_2 H locs hw hP hD hS ls hl
      exact jx_w_zero hw
    | succ n_3 ih_3 =>
      intro x3_1 x4_2 H locs hw hP hD hS ls hl
      obtain ⟨o_3, hZ, hk_3⟩ := jx_w_succ hw
      have hZ : b_X1_greatestWithin_5 x1 x2 x3_1 x4_2 S = some o_3 := hZ
      have j83i5 : ∀ (x3_41 : Int32) (x4_41 : Int32)  (o_3 : (Int32 × Int32) ⊕ (Int32)) (hk_3 : jx_k (g_X1_greatestWithin_5 x1 x2 S) n_3 r_3 o_3) (H : Heap) (locs : List Loc) (hZ : f_X1_greatestWithin_83i5 x1 x2 S x3_41 x4_41 = some o_3) (hP : va_P D vwCl (W_X q k S) H) (hD : va_D A (W_X q k S)) (hS : va_S A s.heap H locs) (ls : Array Slot) (hl : lv_has ls 6 [(0, .ref (q 1)), (1, .int x1), (2, .int x2), (3, .int x3_41), (4, .int x4_41)]), W p l e ({ frames := 0, cells := 0, slots := 0, locals := 0 } : Room) s m ([.ref (q 1), .int x1, .int x2] : List Value).toArray below meth c H locs 0 0 (MQ below (va_Qi (fun r u => (r, u) = Z) (fun u t => va_P D vwCl (W_X q k u) t.heap) A) ([.ref (q 1), .int x1, .int x2] : List Value).toArray s 0 0 A) (F0 m 83 ls []) := by
        intro x3_41 x4_41  o_3 hk_3 H locs hZ hP hD hS ls hl
        unfold f_X1_greatestWithin_83i5 at hZ
        obtain ⟨x4_42, e_x4_42, hZ⟩ := jx_l_some hZ
        refine lv_iinc (v := x4_42) (lv' := [(4, .int x4_42), (0, .ref (q 1)), (1, .int x1), (2, .int x2), (3, .int x3_41)]) hx hb dX1_greatestWithin_83 hl (k := 4) rfl (by rw [e_x4_42]; rfl) (by decide) rfl (fun ls hl => ?_)
        refine lv_goto (tgt := 5) hx hb dX1_greatestWithin_86 (by decide) ?_
        have ho := Option.some.inj hZ
        subst ho
        exact ih_3 x3_41 x4_42 _ _ hk_3 hP hD hS _ (lv_sub hl [1, 2, 3, 4, 0] rfl)
      have j80i5 : ∀ (x4_45 : Int32)  (o_3 : (Int32 × Int32) ⊕ (Int32)) (hk_3 : jx_k (g_X1_greatestWithin_5 x1 x2 S) n_3 r_3 o_3) (H : Heap) (locs : List Loc) (hZ : f_X1_greatestWithin_80i5 x1 x2 S x4_45 = some o_3) (hP : va_P D vwCl (W_X q k S) H) (hD : va_D A (W_X q k S)) (hS : va_S A s.heap H locs) (ls : Array Slot) (hl : lv_has ls 6 [(0, .ref (q 1)), (1, .int x1), (2, .int x2), (4, .int x4_45)]), W p l e ({ frames := 0, cells := 0, slots := 0, locals := 0 } : Room) s m ([.ref (q 1), .int x1, .int x2] : List Value).toArray below meth c H locs 0 0 (MQ below (va_Qi (fun r u => (r, u) = Z) (fun u t => va_P D vwCl (W_X q k u) t.heap) A) ([.ref (q 1), .int x1, .int x2] : List Value).toArray s 0 0 A) (F0 m 80 ls []) := by
        intro x4_45  o_3 hk_3 H locs hZ hP hD hS ls hl
        unfold f_X1_greatestWithin_80i5 at hZ
        refine lv_iload hx hb dX1_greatestWithin_80 (lv_at hl 3 rfl) ?_
        refine lv_istore_n (lv' := [(3, .int x4_45), (0, .ref (q 1)), (1, .int x1), (2, .int x2), (4, .int x4_45)]) hx hb dX1_greatestWithin_82 rfl hl (by decide) rfl (fun ls hl => ?_)
        exact j83i5 x4_45 x4_45 _ hk_3 _ _ hZ hP hD hS _ (lv_sub hl [1, 2, 3, 0, 4] rfl)
      have j53i5 : ∀ (x3_39 : Int32) (x4_39 : Int32) (s0_39 : Int32)  (o_3 : (Int32 × Int32) ⊕ (Int32)) (hk_3 : jx_k (g_X1_greatestWithin_5 x1 x2 S) n_3 r_3 o_3) (H : Heap) (locs : List Loc) (hZ : f_X1_greatestWithin_53i5 x1 x2 S x3_39 x4_39 s0_39 = some o_3) (hP : va_P D vwCl (W_X q k S) H) (hD : va_D A (W_X q k S)) (hS : va_S A s.heap H locs) (ls : Array Slot) (hl : lv_has ls 6 [(0, .ref (q 1)), (1, .int x1), (2, .int x2), (3, .int x3_39), (4, .int x4_39)]), W p l e ({ frames := 0, cells := 0, slots := 0, locals := 0 } : Room) s m ([.ref (q 1), .int x1, .int x2] : List Value).toArray below meth c H locs 0 0 (MQ below (va_Qi (fun r u => (r, u) = Z) (fun u t => va_P D vwCl (W_X q k u) t.heap) A) ([.ref (q 1), .int x1, .int x2] : List Value).toArray s 0 0 A) (F0 m 53 ls [.int s0_39]) := by
        intro x3_39 x4_39 s0_39  o_3 hk_3 H locs hZ hP hD hS ls hl
        unfold f_X1_greatestWithin_53i5 at hZ
        refine lv_istore (lv' := [(5, .int s0_39), (0, .ref (q 1)), (1, .int x1), (2, .int x2), (3, .int x3_39), (4, .int x4_39)]) hx hb dX1_greatestWithin_53 hl (by decide) rfl (fun ls hl => ?_)
        refine lv_iload hx hb dX1_greatestWithin_55 (lv_at hl 0 rfl) ?_
        refine lv_if_eq (tgt := 83) hx hb dX1_greatestWithin_57 (by decide) (fun c_40 => ?_) (fun c_40 => ?_)
        · have hZ := jx_i_pos c_40 hZ
          exact j83i5 x3_39 x4_39 _ hk_3 _ _ hZ hP hD hS _ (lv_sub hl [1, 2, 3, 4, 5] rfl)
        · have hZ := jx_i_neg c_40 hZ
          refine lv_iload_n hx hb dX1_greatestWithin_60 rfl (lv_at hl 4 rfl) ?_
          refine lv_if_lt (tgt := 80) hx hb dX1_greatestWithin_61 (by decide) (fun c_44 => ?_) (fun c_44 => ?_)
          · have hZ := jx_i_pos c_44 hZ
            exact j80i5 x4_39 _ hk_3 _ _ hZ hP hD hS _ (lv_sub hl [1, 2, 3, 5] rfl)
          · have hZ := jx_i_neg c_44 hZ
            refine lv_aload_n hx hb dX1_greatestWithin_64 rfl (lv_at hl 1 rfl) ?_
            refine gf_1_worth hx hb hts in1 hown hK hP (hts (.fieldLink RX1 15 "CoinsOfLast$Coins" "worth" "[I") (List.mem_of_getElem? (i := 3) rfl)) dX1_greatestWithin_65 ?_
            refine lv_iload hx hb dX1_greatestWithin_68 (lv_at hl 5 rfl) ?_
            obtain ⟨c_48, hZ⟩ := jx_a_some hZ
            refine X_iald hx hb hK hP wX_3 c_48 dX1_greatestWithin_70 ?_
            refine lv_aload_n hx hb dX1_greatestWithin_71 rfl (lv_at hl 1 rfl) ?_
            refine gf_1_worth hx hb hts in1 hown hK hP (hts (.fieldLink RX1 15 "CoinsOfLast$Coins" "worth" "[I") (List.mem_of_getElem? (i := 3) rfl)) dX1_greatestWithin_72 ?_
            refine lv_iload_n hx hb dX1_greatestWithin_75 rfl (lv_at hl 4 rfl) ?_
            obtain ⟨c_49, hZ⟩ := jx_a_some hZ
            refine X_iald hx hb hK hP wX_3 c_49 dX1_greatestWithin_76 ?_
            refine lv_icmp_le (tgt := 83) hx hb dX1_greatestWithin_77 (by decide) (fun c_50 => ?_) (fun c_50 => ?_)
            · have hZ := jx_i_pos c_50 hZ
              exact j83i5 x3_39 x4_39 _ hk_3 _ _ hZ hP hD hS _ (lv_sub hl [1, 2, 3, 4, 5] rfl)
            · have hZ := jx_i_neg c_50 hZ
              exact j80i5 x4_39 _ hk_3 _ _ hZ hP hD hS _ (lv_sub hl [1, 2, 3, 5] rfl)
      have j52i5 : ∀ (x3_38 : Int32) (x4_38 : Int32)  (o_3 : (Int32 × Int32) ⊕ (Int32)) (hk_3 : jx_k (g_X1_greatestWithin_5 x1 x2 S) n_3 r_3 o_3) (H : Heap) (locs : List Loc) (hZ : f_X1_greatestWithin_52i5 x1 x2 S x3_38 x4_38 = some o_3) (hP : va_P D vwCl (W_X q k S) H) (hD : va_D A (W_X q k S)) (hS : va_S A s.heap H locs) (ls : Array Slot) (hl : lv_has ls 6 [(0, .ref (q 1)), (1, .int x1), (2, .int x2), (3, .int x3_38), (4, .int x4_38)]), W p l e ({ frames := 0, cells := 0, slots := 0, locals := 0 } : Room) s m ([.ref (q 1), .int x1, .int x2] : List Value).toArray below meth c H locs 0 0 (MQ below (va_Qi (fun r u => (r, u) = Z) (fun u t => va_P D vwCl (W_X q k u) t.heap) A) ([.ref (q 1), .int x1, .int x2] : List Value).toArray s 0 0 A) (F0 m 52 ls []) := by
        intro x3_38 x4_38  o_3 hk_3 H locs hZ hP hD hS ls hl
        unfold f_X1_greatestWithin_52i5 at hZ
        refine lv_iconst (v := (0 : Int32)) hx hb dX1_greatestWithin_52 (by decide) ?_
        exact j53i5 x3_38 x4_38 (0 : Int32) _ hk_3 _ _ hZ hP hD hS _ (lv_sub hl [0, 1, 2, 3, 4] rfl)
      unfold b_X1_greatestWithin_5 at hZ
      refine lv_iload hx hb dX1_greatestWithin_5 (lv_at hl 4 rfl) ?_
      refine lv_aload_n hx hb dX1_greatestWithin_7 rfl (lv_at hl 0 rfl) ?_
      refine gf_1_known hx hb hts in1 hown hK hP (hts (.fieldLink RX1 35 "CoinsOfLast$Coins" "known" "I") (List.mem_of_getElem? (i := 1) rfl)) dX1_greatestWithin_8 ?_
      refine lv_icmp_ge (tgt := 89) hx hb dX1_greatestWithin_11 (by decide) (fun c_34 => ?_) (fun c_34 => ?_)
      · have hZ := jx_i_pos c_34 hZ
        have ho := Option.some.inj hZ
        subst ho
        have hE := hza_3
        rw [← (show x3_1 = r_3 from hk_3)] at hE
        have hZ : f_X1_greatestWithin_89 x3_1 S = some Z := hE
        exact j89 x3_1 S _ _ hZ hP hD hS _ (lv_sub hl [3] rfl)
      · have hZ := jx_i_neg c_34 hZ
        refine lv_aload_n hx hb dX1_greatestWithin_14 rfl (lv_at hl 0 rfl) ?_
        refine gf_1_land hx hb hts in1 hown hK hP (hts (.fieldLink RX1 9 "CoinsOfLast$Coins" "land" "[I") (List.mem_of_getElem? (i := 2) rfl)) dX1_greatestWithin_15 ?_
        refine lv_iload hx hb dX1_greatestWithin_18 (lv_at hl 4 rfl) ?_
        obtain ⟨c_36, hZ⟩ := jx_a_some hZ
        refine X_iald hx hb hK hP wX_2 c_36 dX1_greatestWithin_20 ?_
        refine lv_iload_n hx hb dX1_greatestWithin_21 rfl (lv_at hl 1 rfl) ?_
        refine lv_icmp_ne (tgt := 52) hx hb dX1_greatestWithin_22 (by decide) (fun c_37 => ?_) (fun c_37 => ?_)
        · have hZ := jx_i_neg c_37 hZ
          exact j52i5 x3_1 x4_2 _ hk_3 _ _ hZ hP hD hS _ (lv_sub hl [0, 1, 2, 3, 4] rfl)
        · have hZ := jx_i_pos c_37 hZ
          refine lv_aload_n hx hb dX1_greatestWithin_25 rfl (lv_at hl 0 rfl) ?_
          refine gf_1_worth hx hb hts in1 hown hK hP (hts (.fieldLink RX1 15 "CoinsOfLast$Coins" "worth" "[I") (List.mem_of_getElem? (i := 3) rfl)) dX1_greatestWithin_26 ?_
          refine lv_iload hx hb dX1_greatestWithin_29 (lv_at hl 4 rfl) ?_
          obtain ⟨c_55, hZ⟩ := jx_a_some hZ
          refine X_iald hx hb hK hP wX_3 c_55 dX1_greatestWithin_31 ?_
          refine lv_iload_n hx hb dX1_greatestWithin_32 rfl (lv_at hl 2 rfl) ?_
          refine lv_icmp_gt (tgt := 52) hx hb dX1_greatestWithin_33 (by decide) (fun c_56 => ?_) (fun c_56 => ?_)
          · have hZ := jx_i_pos c_56 hZ
            exact j52i5 x3_1 x4_2 _ hk_3 _ _ hZ hP hD hS _ (lv_sub hl [0, 1, 2, 3, 4] rfl)
          · have hZ := jx_i_neg c_56 hZ
            refine lv_aload_n hx hb dX1_greatestWithin_36 rfl (lv_at hl 0 rfl) ?_
            refine gf_1_held hx hb hts in1 hown hK hP (hts (.fieldLink RX1 24 "CoinsOfLast$Coins" "held" "[I") (List.mem_of_getElem? (i := 4) rfl)) dX1_greatestWithin_37 ?_
            refine lv_iload hx hb dX1_greatestWithin_40 (lv_at hl 4 rfl) ?_
            obtain ⟨c_58, hZ⟩ := jx_a_some hZ
            refine X_iald hx hb hK hP wX_6 c_58 dX1_greatestWithin_42 ?_
            refine lv_bipush (v := (6 : Int32)) hx hb dX1_greatestWithin_43 (by decide) ?_
            refine lv_icmp_ge (tgt := 52) hx hb dX1_greatestWithin_45 (by decide) (fun c_59 => ?_) (fun c_59 => ?_)
            · have hZ := jx_i_pos c_59 hZ
              exact j52i5 x3_1 x4_2 _ hk_3 _ _ hZ hP hD hS _ (lv_sub hl [0, 1, 2, 3, 4] rfl)
            · have hZ := jx_i_neg c_59 hZ
              refine lv_iconst (v := (1 : Int32)) hx hb dX1_greatestWithin_48 (by decide) ?_
              refine lv_goto (tgt := 53) hx hb dX1_greatestWithin_49 (by decide) ?_
              exact j53i5 x3_1 x4_2 (1 : Int32) _ hk_3 _ _ hZ hP hD hS _ (lv_sub hl [0, 1, 2, 3, 4] rfl)
  exact l_3 FU (-1 : Int32) (0 : Int32) _ _ hw hP hD hS _ (lv_sub hl [2, 3, 4, 1, 0] rfl)
theorem hd_X1_greatestWithin : yX1_greatestWithin.cls = RX1 ∧ yX1_greatestWithin.cls ≠ "java/lang/invoke/MethodHandle" ∧ yX1_greatestWithin.cls ≠ "java/lang/invoke/VarHandle" ∧ (parseMethodDescriptor yX1_greatestWithin.desc).map (fun d => d.parameters.length) = some 2 := by decide +kernel
-- X1_bringBack
def f_X1_bringBack_57 (x3_5 : Int32) (S_5 : St) : Option (Int32 × St) :=
  some (x3_5, S_5)
def f_X1_bringBack_27 (x3_7 : Int32) (S_7 : St) : Option (Int32 × St) :=
  f_X1_bringBack_57 x3_7 S_7
def b_X1_bringBack_5 (x1 : Int32) (x2 : Int32) (x3 : Int32) (x4 : Int32) (S : St) : Option ((Int32 × Int32 × St) ⊕ ((Int32 × St) ⊕ ((Int32 × St)))) :=
  (if (48 : Int32) ≤ x4 then some (.inr (.inl (x3, S))) else jx_b2 (f_X1_greatestWithin x1 (x2 - x3) S) (fun r_14 S_12 => (if 0 ≤ r_14 then jx_a r_14 8 (jx_a r_14 8 (jx_l (u1 S_12 6 (Int32.toNatClampNeg r_14) ((S_12.1 6 (Int32.toNatClampNeg r_14)) + (1 : Int32))) (fun S_18 => jx_a r_14 8 (jx_l (x3 + (S_18.1 3 (Int32.toNatClampNeg r_14))) (fun x3_20 => jx_l (x4 + 1) (fun x4_21 => some (.inl (x3_20, x4_21, S_18)))))))) else some (.inr (.inr (x3, S_12))))))
def g_X1_bringBack_5 (x1 : Int32) (x2 : Int32) : (Int32 × Int32 × St) → Option ((Int32 × Int32 × St) ⊕ ((Int32 × St) ⊕ ((Int32 × St)))) := fun z => b_X1_bringBack_5 x1 x2 z.1 z.2.1 z.2.2
def f_X1_bringBack (x1 : Int32) (x2 : Int32) (S : St) : Option (Int32 × St) :=
  jx_b (jx_w (g_X1_bringBack_5 x1 x2) FU ((0 : Int32), (0 : Int32), S)) (fun z => Sum.elim (fun z => f_X1_bringBack_57 z.1 z.2) (fun z => f_X1_bringBack_27 z.1 z.2) z)
set_option maxHeartbeats 4000000 in
set_option maxRecDepth 100000 in
theorem c_X1_bringBack (l : Launch) (D : va_G) (q : Nat → Nat) (k : CI) (x1 : Int32) (x2 : Int32) (S : St) (sz : Nat) (Z : Int32 × St) (hZ : f_X1_bringBack x1 x2 S = some Z) : MetI W_X SX l yX1_bringBack wsX1_bringBack { frames := 1, cells := 0, slots := 0, locals := 25 } [.ref (q 1), .int x1, .int x2] D q k S sz Z := by
  refine enter (cc := cX1_bringBack) (maxL := 6) (ret := some .int) (by decide) rfl (Nat.le_of_ble_eq_true rfl) ?_
  intro p e s m below meth c A ls hx hb hr hts hown hlocks hml hP hK hD hA hS hsp hAe hl
  have hown : s.vm.findClass RX1 = some m.cls := hown
  have hl : lv_has ls 6 [(0, .ref (q 1)), (1, .int x1), (2, .int x2)] := hl
  have in1 : ∀ w ∈ wsX10, w ∈ wsX1_bringBack := fun _ h => (List.mem_cons_of_mem _ (List.mem_append_right _ h))
  have j57 : ∀ (x3_5 : Int32) (S_5 : St)  (H : Heap) (locs : List Loc) (hZ : f_X1_bringBack_57 x3_5 S_5 = some Z) (hP : va_P D vwCl (W_X q k S_5) H) (hD : va_D A (W_X q k S_5)) (hS : va_S A s.heap H locs) (ls : Array Slot) (hl : lv_has ls 6 [(3, .int x3_5)]), W p l e ({ frames := 1, cells := 0, slots := 0, locals := 25 } : Room) s m ([.ref (q 1), .int x1, .int x2] : List Value).toArray below meth c H locs 0 0 (MQ below (va_Qi (fun r u => (r, u) = Z) (fun u t => va_P D vwCl (W_X q k u) t.heap) A) ([.ref (q 1), .int x1, .int x2] : List Value).toArray s 0 0 A) (F0 m 57 ls []) := by
    intro x3_5 S_5   H locs hZ hP hD hS ls hl
    unfold f_X1_bringBack_57 at hZ
    refine lv_iload_n hx hb dX1_bringBack_57 rfl (lv_at hl 0 rfl) ?_
    exact leave_i hx hb hr hlocks hP hS hZ dX1_bringBack_58
  have j27 : ∀ (x3_7 : Int32) (S_7 : St)  (H : Heap) (locs : List Loc) (hZ : f_X1_bringBack_27 x3_7 S_7 = some Z) (hP : va_P D vwCl (W_X q k S_7) H) (hD : va_D A (W_X q k S_7)) (hS : va_S A s.heap H locs) (ls : Array Slot) (hl : lv_has ls 6 [(3, .int x3_7)]), W p l e ({ frames := 1, cells := 0, slots := 0, locals := 25 } : Room) s m ([.ref (q 1), .int x1, .int x2] : List Value).toArray below meth c H locs 0 0 (MQ below (va_Qi (fun r u => (r, u) = Z) (fun u t => va_P D vwCl (W_X q k u) t.heap) A) ([.ref (q 1), .int x1, .int x2] : List Value).toArray s 0 0 A) (F0 m 27 ls []) := by
    intro x3_7 S_7   H locs hZ hP hD hS ls hl
    unfold f_X1_bringBack_27 at hZ
    refine lv_goto (tgt := 57) hx hb dX1_bringBack_27 (by decide) ?_
    exact j57 x3_7 S_7 _ _ hZ hP hD hS _ (lv_sub hl [0] rfl)
  unfold f_X1_bringBack at hZ
  refine lv_iconst (v := (0 : Int32)) hx hb dX1_bringBack_0 (by decide) ?_
  refine lv_istore_n (lv' := [(3, .int (0 : Int32)), (0, .ref (q 1)), (1, .int x1), (2, .int x2)]) hx hb dX1_bringBack_1 rfl hl (by decide) rfl (fun ls hl => ?_)
  refine lv_iconst (v := (0 : Int32)) hx hb dX1_bringBack_2 (by decide) ?_
  refine lv_istore (lv' := [(4, .int (0 : Int32)), (3, .int (0 : Int32)), (0, .ref (q 1)), (1, .int x1), (2, .int x2)]) hx hb dX1_bringBack_3 hl (by decide) rfl (fun ls hl => ?_)
  obtain ⟨r_4, hw, hza_4⟩ := jx_b_some hZ
  have l_4 : ∀ (nn : Nat) (x3_1 : Int32) (x4_2 : Int32) (S_3 : St) (H : Heap) (locs : List Loc) (hw : jx_w (g_X1_bringBack_5 x1 x2) nn (x3_1, x4_2, S_3) = some r_4) (hP : va_P D vwCl (W_X q k S_3) H) (hD : va_D A (W_X q k S_3)) (hS : va_S A s.heap H locs) (ls : Array Slot) (hl : lv_has ls 6 [(0, .ref (q 1)), (1, .int x1), (2, .int x2), (3, .int x3_1), (4, .int x4_2)]), W p l e ({ frames := 1, cells := 0, slots := 0, locals := 25 } : Room) s m ([.ref (q 1), .int x1, .int x2] : List Value).toArray below meth c H locs 0 0 (MQ below (va_Qi (fun r u => (r, u) = Z) (fun u t => va_P D vwCl (W_X q k u) t.heap) A) ([.ref (q 1), .int x1, .int x2] : List Value).toArray s 0 0 A) (F0 m 5 ls []) := by
    intro nn
    induction nn with
    | zero =>
      intro x3_1 x4_2 S_3 H locs hw hP hD hS ls hl
      exact jx_w_zero hw
    | succ n_4 ih_4 =>
      intro x3_1 x4_2 S_3 H locs hw hP hD hS ls hl
      obtain ⟨o_4, hZ, hk_4⟩ := jx_w_succ hw
      have hZ : b_X1_bringBack_5 x1 x2 x3_1 x4_2 S_3 = some o_4 := hZ
      unfold b_X1_bringBack_5 at hZ
      refine lv_iload hx hb dX1_bringBack_5 (lv_at hl 4 rfl) ?_
      refine lv_bipush (v := (48 : Int32)) hx hb dX1_bringBack_7 (by decide) ?_
      refine lv_icmp_ge (tgt := 57) hx hb dX1_bringBack_9 (by decide) (fun c_23 => ?_) (fun c_23 => ?_)
      · have hZ := jx_i_pos c_23 hZ
        have ho := Option.some.inj hZ
        subst ho
        have hE := hza_4
        rw [← (show .inl (x3_1, S_3) = r_4 from hk_4)] at hE
        have hZ : f_X1_bringBack_57 x3_1 S_3 = some Z := hE
        exact j57 x3_1 S_3 _ _ hZ hP hD hS _ (lv_sub hl [3] rfl)
      · have hZ := jx_i_neg c_23 hZ
        refine lv_aload_n hx hb dX1_bringBack_12 rfl (lv_at hl 0 rfl) ?_
        refine lv_iload_n hx hb dX1_bringBack_13 rfl (lv_at hl 1 rfl) ?_
        refine lv_iload_n hx hb dX1_bringBack_14 rfl (lv_at hl 2 rfl) ?_
        refine lv_iload_n hx hb dX1_bringBack_15 rfl (lv_at hl 3 rfl) ?_
        refine lv_isub hx hb dX1_bringBack_16 ?_
        obtain ⟨r_27, S_25, hc_26, hZ⟩ := jx_b2_some hZ
        refine call_Vi SX_ok sameX ⟨hx, hb, hml, hown, hts⟩ (c_X1_greatestWithin l D q k x1 (x2 - x3_1) S_3 _ (r_27, S_25)  hc_26) (cwV 2 hts gX1_bringBack_X1_greatestWithin rfl rfl rfl hd_X1_greatestWithin ⟨Nat.le_of_ble_eq_true rfl, Nat.le_of_ble_eq_true rfl⟩) hK hP hD hS hA hsp (va_recv hK hP (ci := 1) (q0 := 1) rfl wX_1) (As := [.int x1, .int (x2 - x3_1)]) rfl hl.1 rfl (Nat.le_of_ble_eq_true rfl) dX1_bringBack_17 ⟨Nat.zero_le _, Nat.zero_le _⟩ (fun H locs hP hD hS => ?_)
        refine lv_istore (lv' := [(5, .int r_27), (0, .ref (q 1)), (1, .int x1), (2, .int x2), (3, .int x3_1), (4, .int x4_2)]) hx hb dX1_bringBack_20 hl (by decide) rfl (fun ls hl => ?_)
        refine lv_iload hx hb dX1_bringBack_22 (lv_at hl 0 rfl) ?_
        refine lv_if_ge (tgt := 30) hx hb dX1_bringBack_24 (by decide) (fun c_28 => ?_) (fun c_28 => ?_)
        · have hZ := jx_i_pos c_28 hZ
          refine lv_aload_n hx hb dX1_bringBack_30 rfl (lv_at hl 1 rfl) ?_
          refine gf_1_held hx hb hts in1 hown hK hP (hts (.fieldLink RX1 24 "CoinsOfLast$Coins" "held" "[I") (List.mem_of_getElem? (i := 1) rfl)) dX1_bringBack_31 ?_
          refine lv_iload hx hb dX1_bringBack_34 (lv_at hl 0 rfl) ?_
          refine lv_dup2_11 hx hb dX1_bringBack_36 rfl rfl ?_
          obtain ⟨c_29, hZ⟩ := jx_a_some hZ
          refine X_iald hx hb hK hP wX_6 c_29 dX1_bringBack_37 ?_
          refine lv_iconst (v := (1 : Int32)) hx hb dX1_bringBack_38 (by decide) ?_
          refine lv_iadd hx hb dX1_bringBack_39 ?_
          obtain ⟨c_30, hZ⟩ := jx_a_some hZ
          obtain ⟨S_31, e_S_31, hZ⟩ := jx_l_some hZ
          refine X_iast hx hb hK hP hD hS wX_6 (fun _ => wXs_6) c_30 e_S_31 dX1_bringBack_40 (fun H locs hP hD hS => ?_)
          refine lv_iload_n hx hb dX1_bringBack_41 rfl (lv_at hl 4 rfl) ?_
          refine lv_aload_n hx hb dX1_bringBack_42 rfl (lv_at hl 1 rfl) ?_
          refine gf_1_worth hx hb hts in1 hown hK hP (hts (.fieldLink RX1 15 "CoinsOfLast$Coins" "worth" "[I") (List.mem_of_getElem? (i := 2) rfl)) dX1_bringBack_43 ?_
          refine lv_iload hx hb dX1_bringBack_46 (lv_at hl 0 rfl) ?_
          obtain ⟨c_32, hZ⟩ := jx_a_some hZ
          refine X_iald hx hb hK hP wX_3 c_32 dX1_bringBack_48 ?_
          refine lv_iadd hx hb dX1_bringBack_49 ?_
          obtain ⟨x3_33, e_x3_33, hZ⟩ := jx_l_some hZ
          refine tx_i e_x3_33 ?_
          refine lv_istore_n (lv' := [(3, .int x3_33), (5, .int r_27), (0, .ref (q 1)), (1, .int x1), (2, .int x2), (4, .int x4_2)]) hx hb dX1_bringBack_50 rfl hl (by decide) rfl (fun ls hl => ?_)
          obtain ⟨x4_34, e_x4_34, hZ⟩ := jx_l_some hZ
          refine lv_iinc (v := x4_34) (lv' := [(4, .int x4_34), (3, .int x3_33), (5, .int r_27), (0, .ref (q 1)), (1, .int x1), (2, .int x2)]) hx hb dX1_bringBack_51 hl (k := 5) rfl (by rw [e_x4_34]; rfl) (by decide) rfl (fun ls hl => ?_)
          refine lv_goto (tgt := 5) hx hb dX1_bringBack_54 (by decide) ?_
          have ho := Option.some.inj hZ
          subst ho
          exact ih_4 x3_33 x4_34 S_31 _ _ hk_4 hP hD hS _ (lv_sub hl [3, 4, 5, 1, 0] rfl)
        · have hZ := jx_i_neg c_28 hZ
          have ho := Option.some.inj hZ
          subst ho
          have hE := hza_4
          rw [← (show .inr (x3_1, S_25) = r_4 from hk_4)] at hE
          have hZ : f_X1_bringBack_27 x3_1 S_25 = some Z := hE
          exact j27 x3_1 S_25 _ _ hZ hP hD hS _ (lv_sub hl [4] rfl)
  exact l_4 FU (0 : Int32) (0 : Int32) S _ _ hw hP hD hS _ (lv_sub hl [2, 3, 4, 1, 0] rfl)
-- X2_knows
def f_X2_knows (x1 : Int32) (S : St) : Option (Int32 × St) :=
  (if x1 < 0 then some ((0 : Int32), S) else (if (S.1 34 2) ≤ x1 then some ((0 : Int32), S) else some ((1 : Int32), S)))
set_option maxHeartbeats 4000000 in
set_option maxRecDepth 100000 in
theorem c_X2_knows (l : Launch) (D : va_G) (q : Nat → Nat) (k : CI) (x1 : Int32) (S : St) (sz : Nat) (Z : Int32 × St) (hZ : f_X2_knows x1 S = some Z) : MetI W_X SX l yX2_knows wsX2_knows { frames := 0, cells := 0, slots := 0, locals := 0 } [.ref (q 34), .int x1] D q k S sz Z := by
  refine enter (cc := cX2_knows) (maxL := 2) (ret := some .boolean) (by decide) rfl (Nat.le_of_ble_eq_true rfl) ?_
  intro p e s m below meth c A ls hx hb hr hts hown hlocks hml hP hK hD hA hS hsp hAe hl
  have hown : s.vm.findClass RX2 = some m.cls := hown
  have hl : lv_has ls 2 [(0, .ref (q 34)), (1, .int x1)] := hl
  have in2 : ∀ w ∈ wsX20, w ∈ wsX2_knows := fun _ h => (List.mem_cons_of_mem _ (List.mem_append_right _ h))
  unfold f_X2_knows at hZ
  refine lv_iload_n hx hb dX2_knows_0 rfl (lv_at hl 1 rfl) ?_
  refine lv_if_lt (tgt := 16) hx hb dX2_knows_1 (by decide) (fun c_1 => ?_) (fun c_1 => ?_)
  · have hZ := jx_i_pos c_1 hZ
    refine lv_iconst (v := (0 : Int32)) hx hb dX2_knows_16 (by decide) ?_
    exact leave_z hx hb hr hlocks rfl hP hS hZ dX2_knows_17
  · have hZ := jx_i_neg c_1 hZ
    refine lv_iload_n hx hb dX2_knows_4 rfl (lv_at hl 1 rfl) ?_
    refine lv_aload_n hx hb dX2_knows_5 rfl (lv_at hl 0 rfl) ?_
    refine gf_2_known hx hb hts in2 hown hK hP (hts (.fieldLink RX2 18 "CoinsOfLast$Deeds" "known" "I") (List.mem_of_getElem? (i := 1) rfl)) dX2_knows_6 ?_
    refine lv_icmp_ge (tgt := 16) hx hb dX2_knows_9 (by decide) (fun c_2 => ?_) (fun c_2 => ?_)
    · have hZ := jx_i_pos c_2 hZ
      refine lv_iconst (v := (0 : Int32)) hx hb dX2_knows_16 (by decide) ?_
      exact leave_z hx hb hr hlocks rfl hP hS hZ dX2_knows_17
    · have hZ := jx_i_neg c_2 hZ
      refine lv_iconst (v := (1 : Int32)) hx hb dX2_knows_12 (by decide) ?_
      refine lv_goto (tgt := 17) hx hb dX2_knows_13 (by decide) ?_
      exact leave_z hx hb hr hlocks rfl hP hS hZ dX2_knows_17
-- X2_add
def f_X2_add (x1 : Int32) (S : St) : Option (Int32 × St) :=
  (if (S.1 34 2) < (50 : Int32) then jx_a (S.1 34 2) 50 (jx_l (u1 S 35 (Int32.toNatClampNeg (S.1 34 2)) x1) (fun S_3 => jx_l (u1 S_3 34 2 ((S_3.1 34 2) + (1 : Int32))) (fun S_4 => some (((S_4.1 34 2) - (1 : Int32)), S_4)))) else some ((-3 : Int32), S))
set_option maxHeartbeats 4000000 in
set_option maxRecDepth 100000 in
theorem c_X2_add (l : Launch) (D : va_G) (q : Nat → Nat) (k : CI) (x1 : Int32) (S : St) (sz : Nat) (Z : Int32 × St) (hZ : f_X2_add x1 S = some Z) : MetI W_X SX l yX2_add wsX2_add { frames := 0, cells := 0, slots := 0, locals := 0 } [.ref (q 34), .int x1] D q k S sz Z := by
  refine enter (cc := cX2_add) (maxL := 2) (ret := some .int) (by decide) rfl (Nat.le_of_ble_eq_true rfl) ?_
  intro p e s m below meth c A ls hx hb hr hts hown hlocks hml hP hK hD hA hS hsp hAe hl
  have hown : s.vm.findClass RX2 = some m.cls := hown
  have hl : lv_has ls 2 [(0, .ref (q 34)), (1, .int x1)] := hl
  have in2 : ∀ w ∈ wsX20, w ∈ wsX2_add := fun _ h => (List.mem_cons_of_mem _ (List.mem_append_right _ h))
  unfold f_X2_add at hZ
  refine lv_aload_n hx hb dX2_add_0 rfl (lv_at hl 0 rfl) ?_
  refine gf_2_known hx hb hts in2 hown hK hP (hts (.fieldLink RX2 18 "CoinsOfLast$Deeds" "known" "I") (List.mem_of_getElem? (i := 1) rfl)) dX2_add_1 ?_
  refine lv_bipush (v := (50 : Int32)) hx hb dX2_add_4 (by decide) ?_
  refine lv_icmp_lt (tgt := 12) hx hb dX2_add_6 (by decide) (fun c_1 => ?_) (fun c_1 => ?_)
  · have hZ := jx_i_pos c_1 hZ
    refine lv_aload_n hx hb dX2_add_12 rfl (lv_at hl 0 rfl) ?_
    refine gf_2_kinds hx hb hts in2 hown hK hP (hts (.fieldLink RX2 9 "CoinsOfLast$Deeds" "kinds" "[I") (List.mem_of_getElem? (i := 2) rfl)) dX2_add_13 ?_
    refine lv_aload_n hx hb dX2_add_16 rfl (lv_at hl 0 rfl) ?_
    refine gf_2_known hx hb hts in2 hown hK hP (hts (.fieldLink RX2 18 "CoinsOfLast$Deeds" "known" "I") (List.mem_of_getElem? (i := 1) rfl)) dX2_add_17 ?_
    refine lv_iload_n hx hb dX2_add_20 rfl (lv_at hl 1 rfl) ?_
    obtain ⟨c_2, hZ⟩ := jx_a_some hZ
    obtain ⟨S_3, e_S_3, hZ⟩ := jx_l_some hZ
    refine X_iast hx hb hK hP hD hS wX_35 (fun _ => wXs_35) c_2 e_S_3 dX2_add_21 (fun H locs hP hD hS => ?_)
    refine lv_aload_n hx hb dX2_add_22 rfl (lv_at hl 0 rfl) ?_
    refine lv_dup hx hb dX2_add_23 rfl ?_
    refine gf_2_known hx hb hts in2 hown hK hP (hts (.fieldLink RX2 18 "CoinsOfLast$Deeds" "known" "I") (List.mem_of_getElem? (i := 1) rfl)) dX2_add_24 ?_
    refine lv_iconst (v := (1 : Int32)) hx hb dX2_add_27 (by decide) ?_
    refine lv_iadd hx hb dX2_add_28 ?_
    obtain ⟨S_4, e_S_4, hZ⟩ := jx_l_some hZ
    refine pf_2_known hx hb hts in2 hown hK hP hD hS (hts (.fieldLink RX2 18 "CoinsOfLast$Deeds" "known" "I") (List.mem_of_getElem? (i := 1) rfl)) e_S_4 dX2_add_29 (fun H locs hP hD hS => ?_)
    refine lv_aload_n hx hb dX2_add_32 rfl (lv_at hl 0 rfl) ?_
    refine gf_2_known hx hb hts in2 hown hK hP (hts (.fieldLink RX2 18 "CoinsOfLast$Deeds" "known" "I") (List.mem_of_getElem? (i := 1) rfl)) dX2_add_33 ?_
    refine lv_iconst (v := (1 : Int32)) hx hb dX2_add_36 (by decide) ?_
    refine lv_isub hx hb dX2_add_37 ?_
    exact leave_i hx hb hr hlocks hP hS hZ dX2_add_38
  · have hZ := jx_i_neg c_1 hZ
    refine lv_bipush (v := (-3 : Int32)) hx hb dX2_add_9 (by decide) ?_
    exact leave_i hx hb hr hlocks hP hS hZ dX2_add_11
theorem hd_X2_knows : yX2_knows.cls = RX2 ∧ yX2_knows.cls ≠ "java/lang/invoke/MethodHandle" ∧ yX2_knows.cls ≠ "java/lang/invoke/VarHandle" ∧ (parseMethodDescriptor yX2_knows.desc).map (fun d => d.parameters.length) = some 1 := by decide +kernel
-- X2_kindOf
def f_X2_kindOf (x1 : Int32) (S : St) : Option (Int32 × St) :=
  jx_b2 (f_X2_knows x1 S) (fun r_3 S_1 => (if r_3 = 0 then some ((-1 : Int32), S_1) else jx_a x1 50 (some ((S_1.1 35 (Int32.toNatClampNeg x1)), S_1))))
set_option maxHeartbeats 4000000 in
set_option maxRecDepth 100000 in
theorem c_X2_kindOf (l : Launch) (D : va_G) (q : Nat → Nat) (k : CI) (x1 : Int32) (S : St) (sz : Nat) (Z : Int32 × St) (hZ : f_X2_kindOf x1 S = some Z) : MetI W_X SX l yX2_kindOf wsX2_kindOf { frames := 1, cells := 0, slots := 0, locals := 21 } [.ref (q 34), .int x1] D q k S sz Z := by
  refine enter (cc := cX2_kindOf) (maxL := 2) (ret := some .int) (by decide) rfl (Nat.le_of_ble_eq_true rfl) ?_
  intro p e s m below meth c A ls hx hb hr hts hown hlocks hml hP hK hD hA hS hsp hAe hl
  have hown : s.vm.findClass RX2 = some m.cls := hown
  have hl : lv_has ls 2 [(0, .ref (q 34)), (1, .int x1)] := hl
  have in2 : ∀ w ∈ wsX20, w ∈ wsX2_kindOf := fun _ h => (List.mem_cons_of_mem _ (List.mem_append_right _ h))
  unfold f_X2_kindOf at hZ
  refine lv_aload_n hx hb dX2_kindOf_0 rfl (lv_at hl 0 rfl) ?_
  refine lv_iload_n hx hb dX2_kindOf_1 rfl (lv_at hl 1 rfl) ?_
  obtain ⟨r_3, S_1, hc_2, hZ⟩ := jx_b2_some hZ
  refine call_Vi SX_ok sameX ⟨hx, hb, hml, hown, hts⟩ (c_X2_knows l D q k x1 S _ (r_3, S_1)  hc_2) (cwV 1 hts gX2_kindOf_X2_knows rfl rfl rfl hd_X2_knows ⟨Nat.le_of_ble_eq_true rfl, Nat.le_of_ble_eq_true rfl⟩) hK hP hD hS hA hsp (va_recv hK hP (ci := 2) (q0 := 34) rfl wX_34) (As := [.int x1]) rfl hl.1 rfl (Nat.le_of_ble_eq_true rfl) dX2_kindOf_2 ⟨Nat.zero_le _, Nat.zero_le _⟩ (fun H locs hP hD hS => ?_)
  refine lv_if_eq (tgt := 17) hx hb dX2_kindOf_5 (by decide) (fun c_4 => ?_) (fun c_4 => ?_)
  · have hZ := jx_i_pos c_4 hZ
    refine lv_iconst (v := (-1 : Int32)) hx hb dX2_kindOf_17 (by decide) ?_
    exact leave_i hx hb hr hlocks hP hS hZ dX2_kindOf_18
  · have hZ := jx_i_neg c_4 hZ
    refine lv_aload_n hx hb dX2_kindOf_8 rfl (lv_at hl 0 rfl) ?_
    refine gf_2_kinds hx hb hts in2 hown hK hP (hts (.fieldLink RX2 9 "CoinsOfLast$Deeds" "kinds" "[I") (List.mem_of_getElem? (i := 1) rfl)) dX2_kindOf_9 ?_
    refine lv_iload_n hx hb dX2_kindOf_12 rfl (lv_at hl 1 rfl) ?_
    obtain ⟨c_5, hZ⟩ := jx_a_some hZ
    refine X_iald hx hb hK hP wX_35 c_5 dX2_kindOf_13 ?_
    refine lv_goto (tgt := 18) hx hb dX2_kindOf_14 (by decide) ?_
    exact leave_i hx hb hr hlocks hP hS hZ dX2_kindOf_18
-- X2_isUnder
def f_X2_isUnder_39 (S_4 : St) : Option (Int32 × St) :=
  some ((0 : Int32), S_4)
def f_X2_isUnder_25 (S_6 : St) : Option (Int32 × St) :=
  some ((1 : Int32), S_6)
def b_X2_isUnder_4 (x1 : Int32) (x2 : Int32) (x3 : Int32) (S : St) : Option ((Int32 × Int32) ⊕ ((Unit) ⊕ (Unit))) :=
  (if (8 : Int32) ≤ x3 then some (.inr (.inl ())) else (if x2 < 0 then some (.inr (.inl ())) else (if (8 : Int32) ≤ x2 then some (.inr (.inl ())) else (if x2 = x1 then some (.inr (.inr ())) else jx_a x2 8 (jx_l (st_ABOVE (Int32.toNatClampNeg x2)) (fun x2_16 => jx_l (x3 + 1) (fun x3_17 => some (.inl (x2_16, x3_17)))))))))
def g_X2_isUnder_4 (x1 : Int32) (S : St) : (Int32 × Int32) → Option ((Int32 × Int32) ⊕ ((Unit) ⊕ (Unit))) := fun z => b_X2_isUnder_4 x1 z.1 z.2 S
def f_X2_isUnder (x0 : Int32) (x1 : Int32) (S : St) : Option (Int32 × St) :=
  jx_b (jx_w (g_X2_isUnder_4 x1 S) FU (x0, (0 : Int32))) (fun z => Sum.elim (fun z => f_X2_isUnder_39 S) (fun z => f_X2_isUnder_25 S) z)
set_option maxHeartbeats 4000000 in
set_option maxRecDepth 100000 in
theorem c_X2_isUnder (l : Launch) (D : va_G) (q : Nat → Nat) (k : CI) (x0 : Int32) (x1 : Int32) (S : St) (sz : Nat) (Z : Int32 × St) (hZ : f_X2_isUnder x0 x1 S = some Z) : MetI W_X SX l yX2_isUnder wsX2_isUnder { frames := 0, cells := 0, slots := 0, locals := 0 } [.int x0, .int x1] D q k S sz Z := by
  refine enter (cc := cX2_isUnder) (maxL := 4) (ret := some .boolean) (by decide) rfl (Nat.le_of_ble_eq_true rfl) ?_
  intro p e s m below meth c A ls hx hb hr hts hown hlocks hml hP hK hD hA hS hsp hAe hl
  have hown : s.vm.findClass RX2 = some m.cls := hown
  have hl : lv_has ls 4 [(0, .int x0), (1, .int x1)] := hl
  have j39 : ∀ (S_4 : St)  (H : Heap) (locs : List Loc) (hZ : f_X2_isUnder_39 S_4 = some Z) (hP : va_P D vwCl (W_X q k S_4) H) (hD : va_D A (W_X q k S_4)) (hS : va_S A s.heap H locs) (ls : Array Slot) (hl : lv_has ls 4 []), W p l e ({ frames := 0, cells := 0, slots := 0, locals := 0 } : Room) s m ([.int x0, .int x1] : List Value).toArray below meth c H locs 0 0 (MQ below (va_Qi (fun r u => (r, u) = Z) (fun u t => va_P D vwCl (W_X q k u) t.heap) A) ([.int x0, .int x1] : List Value).toArray s 0 0 A) (F0 m 39 ls []) := by
    intro S_4   H locs hZ hP hD hS ls hl
    unfold f_X2_isUnder_39 at hZ
    refine lv_iconst (v := (0 : Int32)) hx hb dX2_isUnder_39 (by decide) ?_
    exact leave_z hx hb hr hlocks rfl hP hS hZ dX2_isUnder_40
  have j25 : ∀ (S_6 : St)  (H : Heap) (locs : List Loc) (hZ : f_X2_isUnder_25 S_6 = some Z) (hP : va_P D vwCl (W_X q k S_6) H) (hD : va_D A (W_X q k S_6)) (hS : va_S A s.heap H locs) (ls : Array Slot) (hl : lv_has ls 4 []), W p l e ({ frames := 0, cells := 0, slots := 0, locals := 0 } : Room) s m ([.int x0, .int x1] : List Value).toArray below meth c H locs 0 0 (MQ below (va_Qi (fun r u => (r, u) = Z) (fun u t => va_P D vwCl (W_X q k u) t.heap) A) ([.int x0, .int x1] : List Value).toArray s 0 0 A) (F0 m 25 ls []) := by
    intro S_6   H locs hZ hP hD hS ls hl
    unfold f_X2_isUnder_25 at hZ
    refine lv_iconst (v := (1 : Int32)) hx hb dX2_isUnder_25 (by decide) ?_
    exact leave_z hx hb hr hlocks rfl hP hS hZ dX2_isUnder_26
  unfold f_X2_isUnder at hZ
  refine lv_iload_n hx hb dX2_isUnder_0 rfl (lv_at hl 0 rfl) ?_
  refine lv_istore_n (lv' := [(2, .int x0), (0, .int x0), (1, .int x1)]) hx hb dX2_isUnder_1 rfl hl (by decide) rfl (fun ls hl => ?_)
  refine lv_iconst (v := (0 : Int32)) hx hb dX2_isUnder_2 (by decide) ?_
  refine lv_istore_n (lv' := [(3, .int (0 : Int32)), (2, .int x0), (0, .int x0), (1, .int x1)]) hx hb dX2_isUnder_3 rfl hl (by decide) rfl (fun ls hl => ?_)
  obtain ⟨r_3, hw, hza_3⟩ := jx_b_some hZ
  have l_3 : ∀ (nn : Nat) (x2_1 : Int32) (x3_2 : Int32) (H : Heap) (locs : List Loc) (hw : jx_w (g_X2_isUnder_4 x1 S) nn (x2_1, x3_2) = some r_3) (hP : va_P D vwCl (W_X q k S) H) (hD : va_D A (W_X q k S)) (hS : va_S A s.heap H locs) (ls : Array Slot) (hl : lv_has ls 4 [(1, .int x1), (2, .int x2_1), (3, .int x3_2)]), W p l e ({ frames := 0, cells := 0, slots := 0, locals := 0 } : Room) s m ([.int x0, .int x1] : List Value).toArray below meth c H locs 0 0 (MQ below (va_Qi (fun r u => (r, u) = Z) (fun u t => va_P D vwCl (W_X q k u) t.heap) A) ([.int x0, .int x1] : List Value).toArray s 0 0 A) (F0 m 4 ls []) := by
    intro nn
    induction nn with
    | zero =>
      intro x2_1 x3_2 H locs hw hP hD hS ls hl
      exact jx_w_zero hw
    | succ n_3 ih_3 =>
      intro x2_1 x3_2 H locs hw hP hD hS ls hl
      obtain ⟨o_3, hZ, hk_3⟩ := jx_w_succ hw
      have hZ : b_X2_isUnder_4 x1 x2_1 x3_2 S = some o_3 := hZ
      unfold b_X2_isUnder_4 at hZ
      refine lv_iload_n hx hb dX2_isUnder_4 rfl (lv_at hl 2 rfl) ?_
      refine lv_bipush (v := (8 : Int32)) hx hb dX2_isUnder_5 (by decide) ?_
      refine lv_icmp_ge (tgt := 39) hx hb dX2_isUnder_7 (by decide) (fun c_19 => ?_) (fun c_19 => ?_)
      · have hZ := jx_i_pos c_19 hZ
        have ho := Option.some.inj hZ
        subst ho
        have hE := hza_3
        rw [← (show .inl () = r_3 from hk_3)] at hE
        have hZ : f_X2_isUnder_39 S = some Z := hE
        exact j39 S _ _ hZ hP hD hS _ (lv_sub hl [] rfl)
      · have hZ := jx_i_neg c_19 hZ
        refine lv_iload_n hx hb dX2_isUnder_10 rfl (lv_at hl 1 rfl) ?_
        refine lv_if_lt (tgt := 39) hx hb dX2_isUnder_11 (by decide) (fun c_21 => ?_) (fun c_21 => ?_)
        · have hZ := jx_i_pos c_21 hZ
          have ho := Option.some.inj hZ
          subst ho
          have hE := hza_3
          rw [← (show .inl () = r_3 from hk_3)] at hE
          have hZ : f_X2_isUnder_39 S = some Z := hE
          exact j39 S _ _ hZ hP hD hS _ (lv_sub hl [] rfl)
        · have hZ := jx_i_neg c_21 hZ
          refine lv_iload_n hx hb dX2_isUnder_14 rfl (lv_at hl 1 rfl) ?_
          refine lv_bipush (v := (8 : Int32)) hx hb dX2_isUnder_15 (by decide) ?_
          refine lv_icmp_ge (tgt := 39) hx hb dX2_isUnder_17 (by decide) (fun c_23 => ?_) (fun c_23 => ?_)
          · have hZ := jx_i_pos c_23 hZ
            have ho := Option.some.inj hZ
            subst ho
            have hE := hza_3
            rw [← (show .inl () = r_3 from hk_3)] at hE
            have hZ : f_X2_isUnder_39 S = some Z := hE
            exact j39 S _ _ hZ hP hD hS _ (lv_sub hl [] rfl)
          · have hZ := jx_i_neg c_23 hZ
            refine lv_iload_n hx hb dX2_isUnder_20 rfl (lv_at hl 1 rfl) ?_
            refine lv_iload_n hx hb dX2_isUnder_21 rfl (lv_at hl 0 rfl) ?_
            refine lv_icmp_ne (tgt := 27) hx hb dX2_isUnder_22 (by decide) (fun c_25 => ?_) (fun c_25 => ?_)
            · have hZ := jx_i_neg c_25 hZ
              refine va_gets hx hb hsp.2.2.2.2.2.1 hS hown (hts (.fieldLink RX2 26 "CoinsOfLast$Deeds" "ABOVE" "[I") (List.mem_of_getElem? (i := 1) rfl)) (fun _ h9 => h9) dX2_isUnder_27 ?_
              refine lv_iload_n hx hb dX2_isUnder_30 rfl (lv_at hl 1 rfl) ?_
              obtain ⟨c_26, hZ⟩ := jx_a_some hZ
              refine va_ti (v := .int (st_ABOVE (Int32.toNatClampNeg x2_1))) hx hb hsp.2.2.2.2.2.2.1 hS c_26 rfl dX2_isUnder_31 ?_
              obtain ⟨x2_27, e_x2_27, hZ⟩ := jx_l_some hZ
              refine tx_i e_x2_27 ?_
              refine lv_istore_n (lv' := [(2, .int x2_27), (1, .int x1), (3, .int x3_2)]) hx hb dX2_isUnder_32 rfl hl (by decide) rfl (fun ls hl => ?_)
              obtain ⟨x3_28, e_x3_28, hZ⟩ := jx_l_some hZ
              refine lv_iinc (v := x3_28) (lv' := [(3, .int x3_28), (2, .int x2_27), (1, .int x1)]) hx hb dX2_isUnder_33 hl (k := 2) rfl (by rw [e_x3_28]; rfl) (by decide) rfl (fun ls hl => ?_)
              refine lv_goto (tgt := 4) hx hb dX2_isUnder_36 (by decide) ?_
              have ho := Option.some.inj hZ
              subst ho
              exact ih_3 x2_27 x3_28 _ _ hk_3 hP hD hS _ (lv_sub hl [2, 1, 0] rfl)
            · have hZ := jx_i_pos c_25 hZ
              have ho := Option.some.inj hZ
              subst ho
              have hE := hza_3
              rw [← (show .inr () = r_3 from hk_3)] at hE
              have hZ : f_X2_isUnder_25 S = some Z := hE
              exact j25 S _ _ hZ hP hD hS _ (lv_sub hl [] rfl)
  exact l_3 FU x0 (0 : Int32) _ _ hw hP hD hS _ (lv_sub hl [3, 1, 0] rfl)
theorem hd_X2_from : yX2_from.cls = RX2 ∧ yX2_from.cls ≠ "java/lang/invoke/MethodHandle" ∧ yX2_from.cls ≠ "java/lang/invoke/VarHandle" ∧ (parseMethodDescriptor yX2_from.desc).map (fun d => d.parameters.length) = some 4 := by decide +kernel
theorem hd_X2_kindOf : yX2_kindOf.cls = RX2 ∧ yX2_kindOf.cls ≠ "java/lang/invoke/MethodHandle" ∧ yX2_kindOf.cls ≠ "java/lang/invoke/VarHandle" ∧ (parseMethodDescriptor yX2_kindOf.desc).map (fun d => d.parameters.length) = some 1 := by decide +kernel
-- X2_own
def f_X2_own (rc : Int32 → Int32 → Int32 → Int32 → St → Option (Int32 × St)) (x1 : Int32) (x2 : Int32) (x3 : Int32) (S : St) : Option (Int32 × St) :=
  jx_b2 (f_X2_kindOf (S.1 34 4) S) (fun r_3 S_1 => jx_b2 (rc r_3 x1 x2 x3 S_1) (fun r_6 S_4 => some (r_6, S_4)))
set_option maxHeartbeats 4000000 in
set_option maxRecDepth 100000 in
theorem c_X2_own (l : Launch) (D : va_G) (q : Nat → Nat) (k : CI) (rc : Int32 → Int32 → Int32 → Int32 → St → Option (Int32 × St)) (fr lo : Nat) (hrc : ∀ (x1 : Int32) (x2 : Int32) (x3 : Int32) (x4 : Int32) (S : St) (sz : Nat) (Z : Int32 × St), rc x1 x2 x3 x4 S = some Z → MetI W_X SX l yX2_from wsX2_from { frames := fr, cells := 0, slots := 0, locals := lo } [.ref (q 34), .int x1, .int x2, .int x3, .int x4] D q k S sz Z) (x1 : Int32) (x2 : Int32) (x3 : Int32) (S : St) (sz : Nat) (Z : Int32 × St) (hZ : f_X2_own rc x1 x2 x3 S = some Z) : MetI W_X SX l yX2_own wsX2_own { frames := fr + 2, cells := 0, slots := 0, locals := lo + 42 } [.ref (q 34), .int x1, .int x2, .int x3] D q k S sz Z := by
  refine enter (cc := cX2_own) (maxL := 4) (ret := some .int) (by decide) rfl (Nat.le_of_ble_eq_true rfl) ?_
  intro p e s m below meth c A ls hx hb hr hts hown hlocks hml hP hK hD hA hS hsp hAe hl
  have hown : s.vm.findClass RX2 = some m.cls := hown
  have hl : lv_has ls 4 [(0, .ref (q 34)), (1, .int x1), (2, .int x2), (3, .int x3)] := hl
  have in2 : ∀ w ∈ wsX20, w ∈ wsX2_own := fun _ h => (List.mem_cons_of_mem _ (List.mem_append_right _ h))
  unfold f_X2_own at hZ
  refine lv_aload_n hx hb dX2_own_0 rfl (lv_at hl 0 rfl) ?_
  refine lv_aload_n hx hb dX2_own_1 rfl (lv_at hl 0 rfl) ?_
  refine lv_aload_n hx hb dX2_own_2 rfl (lv_at hl 0 rfl) ?_
  refine gf_2_actor hx hb hts in2 hown hK hP (hts (.fieldLink RX2 36 "CoinsOfLast$Deeds" "actor" "I") (List.mem_of_getElem? (i := 1) rfl)) dX2_own_3 ?_
  obtain ⟨r_3, S_1, hc_2, hZ⟩ := jx_b2_some hZ
  refine call_Vi SX_ok sameX ⟨hx, hb, hml, hown, hts⟩ (c_X2_kindOf l D q k (S.1 34 4) S _ (r_3, S_1)  hc_2) (cwV 1 hts gX2_own_X2_kindOf rfl rfl rfl hd_X2_kindOf ⟨by dsimp only; omega, by dsimp only; omega⟩) hK hP hD hS hA hsp (va_recv hK hP (ci := 2) (q0 := 34) rfl wX_34) (As := [.int (S.1 34 4)]) rfl hl.1 rfl (Nat.le_of_ble_eq_true rfl) dX2_own_6 ⟨Nat.zero_le _, Nat.zero_le _⟩ (fun H locs hP hD hS => ?_)
  refine lv_iload_n hx hb dX2_own_9 rfl (lv_at hl 1 rfl) ?_
  refine lv_iload_n hx hb dX2_own_10 rfl (lv_at hl 2 rfl) ?_
  refine lv_iload_n hx hb dX2_own_11 rfl (lv_at hl 3 rfl) ?_
  obtain ⟨r_6, S_4, hc_5, hZ⟩ := jx_b2_some hZ
  refine call_Vi SX_ok sameX ⟨hx, hb, hml, hown, hts⟩ (hrc r_3 x1 x2 x3 S_1 _ (r_6, S_4)  hc_5) (cwV 4 hts gX2_own_X2_from rfl rfl rfl hd_X2_from ⟨by dsimp only; omega, by dsimp only; omega⟩) hK hP hD hS hA hsp (va_recv hK hP (ci := 2) (q0 := 34) rfl wX_34) (As := [.int r_3, .int x1, .int x2, .int x3]) rfl hl.1 rfl (Nat.le_of_ble_eq_true rfl) dX2_own_12 ⟨Nat.zero_le _, Nat.zero_le _⟩ (fun H locs hP hD hS => ?_)
  exact leave_i hx hb hr hlocks hP hS hZ dX2_own_15
-- X2_note
def f_X2_note_19 (S_2 : St) : Option (St) :=
  jx_l (u1 S_2 34 3 ((S_2.1 34 3) + (1 : Int32))) (fun S_3 => some S_3)
def f_X2_note (x1 : Int32) (S : St) : Option (St) :=
  (if (24 : Int32) ≤ (S.1 34 3) then f_X2_note_19 S else jx_a (S.1 34 3) 24 (jx_l (u1 S 36 (Int32.toNatClampNeg (S.1 34 3)) x1) (fun S_6 => f_X2_note_19 S_6)))
set_option maxHeartbeats 4000000 in
set_option maxRecDepth 100000 in
theorem c_X2_note (l : Launch) (D : va_G) (q : Nat → Nat) (k : CI) (x1 : Int32) (S : St) (sz : Nat) (Z : St) (hZ : f_X2_note x1 S = some Z) : MetV W_X SX l yX2_note wsX2_note { frames := 0, cells := 0, slots := 0, locals := 0 } [.ref (q 34), .int x1] D q k S sz Z := by
  refine enter (cc := cX2_note) (maxL := 2) (ret := none) (by decide) rfl (Nat.le_of_ble_eq_true rfl) ?_
  intro p e s m below meth c A ls hx hb hr hts hown hlocks hml hP hK hD hA hS hsp hAe hl
  have hown : s.vm.findClass RX2 = some m.cls := hown
  have hl : lv_has ls 2 [(0, .ref (q 34)), (1, .int x1)] := hl
  have in2 : ∀ w ∈ wsX20, w ∈ wsX2_note := fun _ h => (List.mem_cons_of_mem _ (List.mem_append_right _ h))
  have j19 : ∀ (S_2 : St)  (H : Heap) (locs : List Loc) (hZ : f_X2_note_19 S_2 = some Z) (hP : va_P D vwCl (W_X q k S_2) H) (hD : va_D A (W_X q k S_2)) (hS : va_S A s.heap H locs) (ls : Array Slot) (hl : lv_has ls 2 [(0, .ref (q 34))]), W p l e ({ frames := 0, cells := 0, slots := 0, locals := 0 } : Room) s m ([.ref (q 34), .int x1] : List Value).toArray below meth c H locs 0 0 (MQ below (va_Qv (fun u => u = Z) (fun u t => va_P D vwCl (W_X q k u) t.heap) A) ([.ref (q 34), .int x1] : List Value).toArray s 0 0 A) (F0 m 19 ls []) := by
    intro S_2   H locs hZ hP hD hS ls hl
    unfold f_X2_note_19 at hZ
    refine lv_aload_n hx hb dX2_note_19 rfl (lv_at hl 0 rfl) ?_
    refine lv_dup hx hb dX2_note_20 rfl ?_
    refine gf_2_ran hx hb hts in2 hown hK hP (hts (.fieldLink RX2 29 "CoinsOfLast$Deeds" "ran" "I") (List.mem_of_getElem? (i := 1) rfl)) dX2_note_21 ?_
    refine lv_iconst (v := (1 : Int32)) hx hb dX2_note_24 (by decide) ?_
    refine lv_iadd hx hb dX2_note_25 ?_
    obtain ⟨S_3, e_S_3, hZ⟩ := jx_l_some hZ
    refine pf_2_ran hx hb hts in2 hown hK hP hD hS (hts (.fieldLink RX2 29 "CoinsOfLast$Deeds" "ran" "I") (List.mem_of_getElem? (i := 1) rfl)) e_S_3 dX2_note_26 (fun H locs hP hD hS => ?_)
    exact leave_v hx hb hr hlocks hP hS hZ dX2_note_29
  unfold f_X2_note at hZ
  refine lv_aload_n hx hb dX2_note_0 rfl (lv_at hl 0 rfl) ?_
  refine gf_2_ran hx hb hts in2 hown hK hP (hts (.fieldLink RX2 29 "CoinsOfLast$Deeds" "ran" "I") (List.mem_of_getElem? (i := 1) rfl)) dX2_note_1 ?_
  refine lv_bipush (v := (24 : Int32)) hx hb dX2_note_4 (by decide) ?_
  refine lv_icmp_ge (tgt := 19) hx hb dX2_note_6 (by decide) (fun c_1 => ?_) (fun c_1 => ?_)
  · have hZ := jx_i_pos c_1 hZ
    exact j19 S _ _ hZ hP hD hS _ (lv_sub hl [0] rfl)
  · have hZ := jx_i_neg c_1 hZ
    refine lv_aload_n hx hb dX2_note_9 rfl (lv_at hl 0 rfl) ?_
    refine gf_2_bodies hx hb hts in2 hown hK hP (hts (.fieldLink RX2 15 "CoinsOfLast$Deeds" "bodies" "[I") (List.mem_of_getElem? (i := 2) rfl)) dX2_note_10 ?_
    refine lv_aload_n hx hb dX2_note_13 rfl (lv_at hl 0 rfl) ?_
    refine gf_2_ran hx hb hts in2 hown hK hP (hts (.fieldLink RX2 29 "CoinsOfLast$Deeds" "ran" "I") (List.mem_of_getElem? (i := 1) rfl)) dX2_note_14 ?_
    refine lv_iload_n hx hb dX2_note_17 rfl (lv_at hl 1 rfl) ?_
    obtain ⟨c_5, hZ⟩ := jx_a_some hZ
    obtain ⟨S_6, e_S_6, hZ⟩ := jx_l_some hZ
    refine X_iast hx hb hK hP hD hS wX_36 (fun _ => wXs_36) c_5 e_S_6 dX2_note_18 (fun H locs hP hD hS => ?_)
    exact j19 S_6 _ _ hZ hP hD hS _ (lv_sub hl [0] rfl)
