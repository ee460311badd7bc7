theorem hd_X11_yearsWorth : yX11_yearsWorth.cls = RX11 ∧ yX11_yearsWorth.cls ≠ "java/lang/invoke/MethodHandle" ∧ yX11_yearsWorth.cls ≠ "java/lang/invoke/VarHandle" ∧ (parseMethodDescriptor yX11_yearsWorth.desc).map (fun d => d.parameters.length) = some 2 := by decide +kernel
-- X11_purseInYear
def f_X11_purseInYear_77 (x2_5 : Int32) (S_5 : St) : Option (Int32 × St) :=
  some (x2_5, S_5)
def f_X11_purseInYear_56i4 (x1 : Int32) (x2_12 : Int32) (x3_12 : Int32) (x4_12 : Int32) (S_12 : St) : Option ((Int32 × Int32 × St) ⊕ ((Int32 × St))) :=
  jx_a x3_12 8 (jx_l (x2_12 + ((S_12.1 6 (Int32.toNatClampNeg x3_12)) * x4_12)) (fun x2_14 => jx_l (x3_12 + 1) (fun x3_15 => some (.inl (x2_14, x3_15, S_12)))))
def b_X11_purseInYear_4 (x1 : Int32) (x2 : Int32) (x3 : Int32) (S : St) : Option ((Int32 × Int32 × St) ⊕ ((Int32 × St))) :=
  (if (S.1 1 5) ≤ x3 then some (.inr (x2, S)) else jx_a x3 8 (jx_l (S.1 3 (Int32.toNatClampNeg x3)) (fun x4_10 => (if (S.1 (40 + 4 * 1) 4) = 0 then f_X11_purseInYear_56i4 x1 x2 x3 x4_10 S else jx_a x3 8 ((if (S.1 6 (Int32.toNatClampNeg x3)) ≤ 0 then f_X11_purseInYear_56i4 x1 x2 x3 x4_10 S else jx_b2 (f_X11_yearsWorth x3 x1 S) (fun r_22 S_20 => f_X11_purseInYear_56i4 x1 x2 x3 r_22 S_20)))))))
def g_X11_purseInYear_4 (x1 : Int32) : (Int32 × Int32 × St) → Option ((Int32 × Int32 × St) ⊕ ((Int32 × St))) := fun z => b_X11_purseInYear_4 x1 z.1 z.2.1 z.2.2
def f_X11_purseInYear (x1 : Int32) (S : St) : Option (Int32 × St) :=
  jx_b (jx_w (g_X11_purseInYear_4 x1) FU ((0 : Int32), (0 : Int32), S)) (fun z => f_X11_purseInYear_77 z.1 z.2)
set_option maxHeartbeats 4000000 in
set_option maxRecDepth 100000 in
theorem c_X11_purseInYear (l : Launch) (D : va_G) (q : Nat → Nat) (k : CI) (x1 : Int32) (S : St) (sz : Nat) (Z : Int32 × St) (hZ : f_X11_purseInYear x1 S = some Z) : MetI W_X SX l yX11_purseInYear wsX11_purseInYear { frames := 3, cells := 0, slots := 0, locals := 70 } [.ref (q 0), .int x1] D q k S sz Z := by
  refine enter (cc := cX11_purseInYear) (maxL := 5) (ret := some .int) (by decide) rfl (Nat.le_of_ble_eq_true rfl) ?_
  intro p e s m below meth c A ls hx hb hr hts hown hlocks hml hP hK hD hA hS hsp hAe hl
  have hown : s.vm.findClass RX11 = some m.cls := hown
  have hl : lv_has ls 5 [(0, .ref (q 0)), (1, .int x1)] := hl
  have in1 : ∀ w ∈ wsX10, w ∈ wsX11_purseInYear := fun _ h => (List.mem_cons_of_mem _ (List.mem_append_left _ (List.mem_append_right _ h)))
  have in8 : ∀ w ∈ wsX80, w ∈ wsX11_purseInYear := fun _ h => (List.mem_cons_of_mem _ (List.mem_append_right _ h))
  have in11 : ∀ w ∈ wsX110, w ∈ wsX11_purseInYear := fun _ h => (List.mem_cons_of_mem _ (List.mem_append_left _ (List.mem_append_left _ (List.mem_append_right _ h))))
  have j77 : ∀ (x2_5 : Int32) (S_5 : St)  (H : Heap) (locs : List Loc) (hZ : f_X11_purseInYear_77 x2_5 S_5 = some Z) (hP : va_P D vwCl (W_X q k S_5) H) (hD : va_D A (W_X q k S_5)) (hS : va_S A s.heap H locs) (ls : Array Slot) (hl : lv_has ls 5 [(2, .int x2_5)]), W p l e ({ frames := 3, cells := 0, slots := 0, locals := 70 } : Room) s m ([.ref (q 0), .int x1] : List Value).toArray below meth c H locs 0 0 (MQ below (va_Qi (fun r u => (r, u) = Z) (fun u t => va_P D vwCl (W_X q k u) t.heap) A) ([.ref (q 0), .int x1] : List Value).toArray s 0 0 A) (F0 m 77 ls []) := by
    intro x2_5 S_5   H locs hZ hP hD hS ls hl
    unfold f_X11_purseInYear_77 at hZ
    refine lv_iload_n hx hb dX11_purseInYear_77 rfl (lv_at hl 0 rfl) ?_
    exact leave_i hx hb hr hlocks hP hS hZ dX11_purseInYear_78
  unfold f_X11_purseInYear at hZ
  refine lv_iconst (v := (0 : Int32)) hx hb dX11_purseInYear_0 (by decide) ?_
  refine lv_istore_n (lv' := [(2, .int (0 : Int32)), (0, .ref (q 0)), (1, .int x1)]) hx hb dX11_purseInYear_1 rfl hl (by decide) rfl (fun ls hl => ?_)
  refine lv_iconst (v := (0 : Int32)) hx hb dX11_purseInYear_2 (by decide) ?_
  refine lv_istore_n (lv' := [(3, .int (0 : Int32)), (2, .int (0 : Int32)), (0, .ref (q 0)), (1, .int x1)]) hx hb dX11_purseInYear_3 rfl hl (by decide) rfl (fun ls hl => ?_)
  obtain ⟨r_4, hw, hza_4⟩ := jx_b_some hZ
  have l_4 : ∀ (nn : Nat) (x2_1 : Int32) (x3_2 : Int32) (S_3 : St) (H : Heap) (locs : List Loc) (hw : jx_w (g_X11_purseInYear_4 x1) nn (x2_1, x3_2, S_3) = some r_4) (hP : va_P D vwCl (W_X q k S_3) H) (hD : va_D A (W_X q k S_3)) (hS : va_S A s.heap H locs) (ls : Array Slot) (hl : lv_has ls 5 [(0, .ref (q 0)), (1, .int x1), (2, .int x2_1), (3, .int x3_2)]), W p l e ({ frames := 3, cells := 0, slots := 0, locals := 70 } : Room) s m ([.ref (q 0), .int x1] : List Value).toArray below meth c H locs 0 0 (MQ below (va_Qi (fun r u => (r, u) = Z) (fun u t => va_P D vwCl (W_X q k u) t.heap) A) ([.ref (q 0), .int x1] : List Value).toArray s 0 0 A) (F0 m 4 ls []) := by
    intro nn
    induction nn with
    | zero =>
      intro x2_1 x3_2 S_3 H locs hw hP hD hS ls hl
      exact jx_w_zero hw
    | succ n_4 ih_4 =>
      intro x2_1 x3_2 S_3 H locs hw hP hD hS ls hl
      obtain ⟨o_4, hZ, hk_4⟩ := jx_w_succ hw
      have hZ : b_X11_purseInYear_4 x1 x2_1 x3_2 S_3 = some o_4 := hZ
      have j56i4 : ∀ (x2_29 : Int32) (x3_29 : Int32) (x4_29 : Int32) (S_29 : St)  (o_4 : (Int32 × Int32 × St) ⊕ ((Int32 × St))) (hk_4 : jx_k (g_X11_purseInYear_4 x1) n_4 r_4 o_4) (H : Heap) (locs : List Loc) (hZ : f_X11_purseInYear_56i4 x1 x2_29 x3_29 x4_29 S_29 = some o_4) (hP : va_P D vwCl (W_X q k S_29) H) (hD : va_D A (W_X q k S_29)) (hS : va_S A s.heap H locs) (ls : Array Slot) (hl : lv_has ls 5 [(0, .ref (q 0)), (1, .int x1), (2, .int x2_29), (3, .int x3_29), (4, .int x4_29)]), W p l e ({ frames := 3, cells := 0, slots := 0, locals := 70 } : Room) s m ([.ref (q 0), .int x1] : List Value).toArray below meth c H locs 0 0 (MQ below (va_Qi (fun r u => (r, u) = Z) (fun u t => va_P D vwCl (W_X q k u) t.heap) A) ([.ref (q 0), .int x1] : List Value).toArray s 0 0 A) (F0 m 56 ls []) := by
        intro x2_29 x3_29 x4_29 S_29  o_4 hk_4 H locs hZ hP hD hS ls hl
        unfold f_X11_purseInYear_56i4 at hZ
        refine lv_iload_n hx hb dX11_purseInYear_56 rfl (lv_at hl 2 rfl) ?_
        refine lv_aload_n hx hb dX11_purseInYear_57 rfl (lv_at hl 0 rfl) ?_
        refine gf_11_coins hx hb hts in11 hown hK hP (hts (.fieldLink RX11 12 "CoinsOfLast" "coins" "LCoinsOfLast$Coins;") (List.mem_of_getElem? (i := 1) rfl)) dX11_purseInYear_58 ?_
        refine gn_1_held hx hb hts in1 hown hK hP (hsp.1 _ (List.mem_of_getElem? (i := 10) rfl)) dX11_purseInYear_61 ?_
        refine lv_iload_n hx hb dX11_purseInYear_64 rfl (lv_at hl 3 rfl) ?_
        obtain ⟨c_30, hZ⟩ := jx_a_some hZ
        refine X_iald hx hb hK hP wX_6 c_30 dX11_purseInYear_65 ?_
        refine lv_iload hx hb dX11_purseInYear_66 (lv_at hl 4 rfl) ?_
        refine lv_imul hx hb dX11_purseInYear_68 ?_
        refine lv_iadd hx hb dX11_purseInYear_69 ?_
        obtain ⟨x2_31, e_x2_31, hZ⟩ := jx_l_some hZ
        refine tx_i e_x2_31 ?_
        refine lv_istore_n (lv' := [(2, .int x2_31), (0, .ref (q 0)), (1, .int x1), (3, .int x3_29), (4, .int x4_29)]) hx hb dX11_purseInYear_70 rfl hl (by decide) rfl (fun ls hl => ?_)
        obtain ⟨x3_32, e_x3_32, hZ⟩ := jx_l_some hZ
        refine lv_iinc (v := x3_32) (lv' := [(3, .int x3_32), (2, .int x2_31), (0, .ref (q 0)), (1, .int x1), (4, .int x4_29)]) hx hb dX11_purseInYear_71 hl (k := 3) rfl (by rw [e_x3_32]; rfl) (by decide) rfl (fun ls hl => ?_)
        refine lv_goto (tgt := 4) hx hb dX11_purseInYear_74 (by decide) ?_
        have ho := Option.some.inj hZ
        subst ho
        exact ih_4 x2_31 x3_32 S_29 _ _ hk_4 hP hD hS _ (lv_sub hl [2, 3, 1, 0] rfl)
      unfold b_X11_purseInYear_4 at hZ
      refine lv_iload_n hx hb dX11_purseInYear_4 rfl (lv_at hl 3 rfl) ?_
      refine lv_aload_n hx hb dX11_purseInYear_5 rfl (lv_at hl 0 rfl) ?_
      refine gf_11_coins hx hb hts in11 hown hK hP (hts (.fieldLink RX11 12 "CoinsOfLast" "coins" "LCoinsOfLast$Coins;") (List.mem_of_getElem? (i := 1) rfl)) dX11_purseInYear_6 ?_
      refine gn_1_known hx hb hts in1 hown hK hP (hsp.1 _ (List.mem_of_getElem? (i := 15) rfl)) dX11_purseInYear_9 ?_
      refine lv_icmp_ge (tgt := 77) hx hb dX11_purseInYear_12 (by decide) (fun c_24 => ?_) (fun c_24 => ?_)
      · have hZ := jx_i_pos c_24 hZ
        have ho := Option.some.inj hZ
        subst ho
        have hE := hza_4
        rw [← (show (x2_1, S_3) = r_4 from hk_4)] at hE
        have hZ : f_X11_purseInYear_77 x2_1 S_3 = some Z := hE
        exact j77 x2_1 S_3 _ _ hZ hP hD hS _ (lv_sub hl [2] rfl)
      · have hZ := jx_i_neg c_24 hZ
        refine lv_aload_n hx hb dX11_purseInYear_15 rfl (lv_at hl 0 rfl) ?_
        refine gf_11_coins hx hb hts in11 hown hK hP (hts (.fieldLink RX11 12 "CoinsOfLast" "coins" "LCoinsOfLast$Coins;") (List.mem_of_getElem? (i := 1) rfl)) dX11_purseInYear_16 ?_
        refine gn_1_worth hx hb hts in1 hown hK hP (hsp.1 _ (List.mem_of_getElem? (i := 5) rfl)) dX11_purseInYear_19 ?_
        refine lv_iload_n hx hb dX11_purseInYear_22 rfl (lv_at hl 3 rfl) ?_
        obtain ⟨c_26, hZ⟩ := jx_a_some hZ
        refine X_iald hx hb hK hP wX_3 c_26 dX11_purseInYear_23 ?_
        obtain ⟨x4_27, e_x4_27, hZ⟩ := jx_l_some hZ
        refine tx_i e_x4_27 ?_
        refine lv_istore (lv' := [(4, .int x4_27), (0, .ref (q 0)), (1, .int x1), (2, .int x2_1), (3, .int x3_2)]) hx hb dX11_purseInYear_24 hl (by decide) rfl (fun ls hl => ?_)
        refine lv_aload_n hx hb dX11_purseInYear_26 rfl (lv_at hl 1 rfl) ?_
        refine gf_11_years hx hb hts in11 hown hK hP (hts (.fieldLink RX11 47 "CoinsOfLast" "years" "LCoinsOfLast$Text;") (List.mem_of_getElem? (i := 2) rfl)) dX11_purseInYear_27 ?_
        refine gn_8_there (show (1 : Nat) < 2 by decide) hx hb hts in8 hown hK hP (hsp.1 _ (List.mem_of_getElem? (i := 36) rfl)) dX11_purseInYear_30 ?_
        refine lv_if_eq (tgt := 56) hx hb dX11_purseInYear_33 (by decide) (fun c_28 => ?_) (fun c_28 => ?_)
        · have hZ := jx_i_pos c_28 hZ
          exact j56i4 x2_1 x3_2 x4_27 S_3 _ hk_4 _ _ hZ hP hD hS _ (lv_sub hl [1, 2, 3, 4, 0] rfl)
        · have hZ := jx_i_neg c_28 hZ
          refine lv_aload_n hx hb dX11_purseInYear_36 rfl (lv_at hl 1 rfl) ?_
          refine gf_11_coins hx hb hts in11 hown hK hP (hts (.fieldLink RX11 12 "CoinsOfLast" "coins" "LCoinsOfLast$Coins;") (List.mem_of_getElem? (i := 1) rfl)) dX11_purseInYear_37 ?_
          refine gn_1_held hx hb hts in1 hown hK hP (hsp.1 _ (List.mem_of_getElem? (i := 10) rfl)) dX11_purseInYear_40 ?_
          refine lv_iload_n hx hb dX11_purseInYear_43 rfl (lv_at hl 4 rfl) ?_
          obtain ⟨c_34, hZ⟩ := jx_a_some hZ
          refine X_iald hx hb hK hP wX_6 c_34 dX11_purseInYear_44 ?_
          refine lv_if_le (tgt := 56) hx hb dX11_purseInYear_45 (by decide) (fun c_35 => ?_) (fun c_35 => ?_)
          · have hZ := jx_i_pos c_35 hZ
            exact j56i4 x2_1 x3_2 x4_27 S_3 _ hk_4 _ _ hZ hP hD hS _ (lv_sub hl [1, 2, 3, 4, 0] rfl)
          · have hZ := jx_i_neg c_35 hZ
            refine lv_aload_n hx hb dX11_purseInYear_48 rfl (lv_at hl 1 rfl) ?_
            refine lv_iload_n hx hb dX11_purseInYear_49 rfl (lv_at hl 4 rfl) ?_
            refine lv_iload_n hx hb dX11_purseInYear_50 rfl (lv_at hl 2 rfl) ?_
            obtain ⟨r_39, S_37, hc_38, hZ⟩ := jx_b2_some hZ
            refine call_Vi SX_ok sameX ⟨hx, hb, hml, hown, hts⟩ (c_X11_yearsWorth l D q k x3_2 x1 S_3 _ (r_39, S_37)  hc_38) (cwV 2 hts gX11_purseInYear_X11_yearsWorth rfl rfl rfl hd_X11_yearsWorth ⟨Nat.le_of_ble_eq_true rfl, Nat.le_of_ble_eq_true rfl⟩) hK hP hD hS hA hsp (va_recv hK hP (ci := 11) (q0 := 0) rfl wX_0) (As := [.int x3_2, .int x1]) rfl hl.1 rfl (Nat.le_of_ble_eq_true rfl) dX11_purseInYear_51 ⟨Nat.zero_le _, Nat.zero_le _⟩ (fun H locs hP hD hS => ?_)
            refine lv_istore (lv' := [(4, .int r_39), (0, .ref (q 0)), (1, .int x1), (2, .int x2_1), (3, .int x3_2)]) hx hb dX11_purseInYear_54 hl (by decide) rfl (fun ls hl => ?_)
            exact j56i4 x2_1 x3_2 r_39 S_37 _ hk_4 _ _ hZ hP hD hS _ (lv_sub hl [1, 2, 3, 4, 0] rfl)
  exact l_4 FU (0 : Int32) (0 : Int32) S _ _ hw hP hD hS _ (lv_sub hl [2, 3, 1, 0] rfl)
theorem hd_X11_purseInYear : yX11_purseInYear.cls = RX11 ∧ yX11_purseInYear.cls ≠ "java/lang/invoke/MethodHandle" ∧ yX11_purseInYear.cls ≠ "java/lang/invoke/VarHandle" ∧ (parseMethodDescriptor yX11_purseInYear.desc).map (fun d => d.parameters.length) = some 1 := by decide +kernel
-- X11_kept
def f_X11_kept_73 (x1_17 : Int32) (x2_17 : Int32) (x3_17 : Int32) (S_17 : St) : Option (Int32 × St) :=
  (if x1_17 = (100 : Int32) then some (x2_17, S_17) else some (x3_17, S_17))
def f_X11_kept_67i40 (x1 : Int32) (x2_26 : Int32) (x3_26 : Int32) (x4_26 : Int32) (S_26 : St) : Option ((Int32 × Int32 × Int32 × St) ⊕ ((Int32 × Int32 × St))) :=
  jx_l (x4_26 + 1) (fun x4_27 => some (.inl (x2_26, x3_26, x4_27, S_26)))
def b_X11_kept_40 (x1 : Int32) (x2 : Int32) (x3 : Int32) (x4 : Int32) (S : St) : Option ((Int32 × Int32 × Int32 × St) ⊕ ((Int32 × Int32 × St))) :=
  (if (60 : Int32) < x4 then some (.inr (x2, x3, S)) else jx_b2 (f_X11_purseInYear x4 S) (fun r_24 S_22 => (if r_24 ≤ x3 then f_X11_kept_67i40 x1 x2 x3 x4 S_22 else f_X11_kept_67i40 x1 x4 r_24 x4 S_22)))
def g_X11_kept_40 (x1 : Int32) : (Int32 × Int32 × Int32 × St) → Option ((Int32 × Int32 × Int32 × St) ⊕ ((Int32 × Int32 × St))) := fun z => b_X11_kept_40 x1 z.1 z.2.1 z.2.2.1 z.2.2.2
def f_X11_kept (x1 : Int32) (S : St) : Option (Int32 × St) :=
  jx_b2 (f_X11_within x1 (0 : Int32) (60 : Int32) S) (fun r_3 S_1 => (if r_3 = 0 then jx_b2 (f_X11_within x1 (100 : Int32) (101 : Int32) S_1) (fun r_7 S_5 => (if r_7 = 0 then some ((-1 : Int32), S_5) else jx_b2 (f_X11_purseInYear (0 : Int32) S_5) (fun r_11 S_9 => jx_b (jx_w (g_X11_kept_40 x1) FU ((0 : Int32), r_11, (1 : Int32), S_9)) (fun z => f_X11_kept_73 x1 z.1 z.2.1 z.2.2)))) else jx_b2 (f_X11_purseInYear x1 S_1) (fun r_42 S_40 => some (r_42, S_40))))
set_option maxHeartbeats 4000000 in
set_option maxRecDepth 100000 in
theorem c_X11_kept (l : Launch) (D : va_G) (q : Nat → Nat) (k : CI) (x1 : Int32) (S : St) (sz : Nat) (Z : Int32 × St) (hZ : f_X11_kept x1 S = some Z) : MetI W_X SX l yX11_kept wsX11_kept { frames := 4, cells := 0, slots := 0, locals := 94 } [.ref (q 0), .int x1] D q k S sz Z := by
  refine enter (cc := cX11_kept) (maxL := 6) (ret := some .int) (by decide) rfl (Nat.le_of_ble_eq_true rfl) ?_
  intro p e s m below meth c A ls hx hb hr hts hown hlocks hml hP hK hD hA hS hsp hAe hl
  have hown : s.vm.findClass RX11 = some m.cls := hown
  have hl : lv_has ls 6 [(0, .ref (q 0)), (1, .int x1)] := hl
  have j73 : ∀ (x1_17 : Int32) (x2_17 : Int32) (x3_17 : Int32) (S_17 : St)  (H : Heap) (locs : List Loc) (hZ : f_X11_kept_73 x1_17 x2_17 x3_17 S_17 = some Z) (hP : va_P D vwCl (W_X q k S_17) H) (hD : va_D A (W_X q k S_17)) (hS : va_S A s.heap H locs) (ls : Array Slot) (hl : lv_has ls 6 [(1, .int x1_17), (2, .int x2_17), (3, .int x3_17)]), W p l e ({ frames := 4, cells := 0, slots := 0, locals := 94 } : Room) s m ([.ref (q 0), .int x1] : List Value).toArray below meth c H locs 0 0 (MQ below (va_Qi (fun r u => (r, u) = Z) (fun u t => va_P D vwCl (W_X q k u) t.heap) A) ([.ref (q 0), .int x1] : List Value).toArray s 0 0 A) (F0 m 73 ls []) := by
    intro x1_17 x2_17 x3_17 S_17   H locs hZ hP hD hS ls hl
    unfold f_X11_kept_73 at hZ
    refine lv_iload_n hx hb dX11_kept_73 rfl (lv_at hl 0 rfl) ?_
    refine lv_bipush (v := (100 : Int32)) hx hb dX11_kept_74 (by decide) ?_
    refine lv_icmp_ne (tgt := 83) hx hb dX11_kept_76 (by decide) (fun c_18 => ?_) (fun c_18 => ?_)
    · have hZ := jx_i_neg c_18 hZ
      refine lv_iload_n hx hb dX11_kept_83 rfl (lv_at hl 2 rfl) ?_
      exact leave_i hx hb hr hlocks hP hS hZ dX11_kept_84
    · have hZ := jx_i_pos c_18 hZ
      refine lv_iload_n hx hb dX11_kept_79 rfl (lv_at hl 1 rfl) ?_
      refine lv_goto (tgt := 84) hx hb dX11_kept_80 (by decide) ?_
      exact leave_i hx hb hr hlocks hP hS hZ dX11_kept_84
  unfold f_X11_kept at hZ
  refine lv_iload_n hx hb dX11_kept_0 rfl (lv_at hl 1 rfl) ?_
  refine lv_iconst (v := (0 : Int32)) hx hb dX11_kept_1 (by decide) ?_
  refine lv_bipush (v := (60 : Int32)) hx hb dX11_kept_2 (by decide) ?_
  obtain ⟨r_3, S_1, hc_2, hZ⟩ := jx_b2_some hZ
  refine call_Si SX_ok sameX ⟨hx, hb, hml, hown, hts⟩ (c_X11_within l D q k x1 (0 : Int32) (60 : Int32) S _ (r_3, S_1)  hc_2) (va_cwS 3 hts gX11_kept_X11_within rfl rfl rfl hd_X11_within ⟨Nat.le_of_ble_eq_true rfl, Nat.le_of_ble_eq_true rfl⟩) hK hP hD hS hA hsp (As := [.int x1, .int (0 : Int32), .int (60 : Int32)]) rfl hl.1 rfl (Nat.le_of_ble_eq_true rfl) dX11_kept_4 ⟨Nat.zero_le _, Nat.zero_le _⟩ (fun H locs hP hD hS => ?_)
  refine lv_if_eq (tgt := 16) hx hb dX11_kept_7 (by decide) (fun c_4 => ?_) (fun c_4 => ?_)
  · have hZ := jx_i_pos c_4 hZ
    refine lv_iload_n hx hb dX11_kept_16 rfl (lv_at hl 1 rfl) ?_
    refine lv_bipush (v := (100 : Int32)) hx hb dX11_kept_17 (by decide) ?_
    refine lv_bipush (v := (101 : Int32)) hx hb dX11_kept_19 (by decide) ?_
    obtain ⟨r_7, S_5, hc_6, hZ⟩ := jx_b2_some hZ
    refine call_Si SX_ok sameX ⟨hx, hb, hml, hown, hts⟩ (c_X11_within l D q k x1 (100 : Int32) (101 : Int32) S_1 _ (r_7, S_5)  hc_6) (va_cwS 3 hts gX11_kept_X11_within rfl rfl rfl hd_X11_within ⟨Nat.le_of_ble_eq_true rfl, Nat.le_of_ble_eq_true rfl⟩) hK hP hD hS hA hsp (As := [.int x1, .int (100 : Int32), .int (101 : Int32)]) rfl hl.1 rfl (Nat.le_of_ble_eq_true rfl) dX11_kept_21 ⟨Nat.zero_le _, Nat.zero_le _⟩ (fun H locs hP hD hS => ?_)
    refine lv_if_ne (tgt := 29) hx hb dX11_kept_24 (by decide) (fun c_8 => ?_) (fun c_8 => ?_)
    · have hZ := jx_i_neg c_8 hZ
      refine lv_iconst (v := (0 : Int32)) hx hb dX11_kept_29 (by decide) ?_
      refine lv_istore_n (lv' := [(2, .int (0 : Int32)), (0, .ref (q 0)), (1, .int x1)]) hx hb dX11_kept_30 rfl hl (by decide) rfl (fun ls hl => ?_)
      refine lv_aload_n hx hb dX11_kept_31 rfl (lv_at hl 1 rfl) ?_
      refine lv_iconst (v := (0 : Int32)) hx hb dX11_kept_32 (by decide) ?_
      obtain ⟨r_11, S_9, hc_10, hZ⟩ := jx_b2_some hZ
      refine call_Vi SX_ok sameX ⟨hx, hb, hml, hown, hts⟩ (c_X11_purseInYear l D q k (0 : Int32) S_5 _ (r_11, S_9)  hc_10) (cwV 1 hts gX11_kept_X11_purseInYear rfl rfl rfl hd_X11_purseInYear ⟨Nat.le_of_ble_eq_true rfl, Nat.le_of_ble_eq_true rfl⟩) hK hP hD hS hA hsp (va_recv hK hP (ci := 11) (q0 := 0) rfl wX_0) (As := [.int (0 : Int32)]) rfl hl.1 rfl (Nat.le_of_ble_eq_true rfl) dX11_kept_33 ⟨Nat.zero_le _, Nat.zero_le _⟩ (fun H locs hP hD hS => ?_)
      refine lv_istore_n (lv' := [(3, .int r_11), (2, .int (0 : Int32)), (0, .ref (q 0)), (1, .int x1)]) hx hb dX11_kept_36 rfl hl (by decide) rfl (fun ls hl => ?_)
      refine lv_iconst (v := (1 : Int32)) hx hb dX11_kept_37 (by decide) ?_
      refine lv_istore (lv' := [(4, .int (1 : Int32)), (3, .int r_11), (2, .int (0 : Int32)), (0, .ref (q 0)), (1, .int x1)]) hx hb dX11_kept_38 hl (by decide) rfl (fun ls hl => ?_)
      obtain ⟨r_16, hw, hza_16⟩ := jx_b_some hZ
      have l_16 : ∀ (nn : Nat) (x2_12 : Int32) (x3_13 : Int32) (x4_14 : Int32) (S_15 : St) (H : Heap) (locs : List Loc) (hw : jx_w (g_X11_kept_40 x1) nn (x2_12, x3_13, x4_14, S_15) = some r_16) (hP : va_P D vwCl (W_X q k S_15) H) (hD : va_D A (W_X q k S_15)) (hS : va_S A s.heap H locs) (ls : Array Slot) (hl : lv_has ls 6 [(0, .ref (q 0)), (1, .int x1), (2, .int x2_12), (3, .int x3_13), (4, .int x4_14)]), W p l e ({ frames := 4, cells := 0, slots := 0, locals := 94 } : Room) s m ([.ref (q 0), .int x1] : List Value).toArray below meth c H locs 0 0 (MQ below (va_Qi (fun r u => (r, u) = Z) (fun u t => va_P D vwCl (W_X q k u) t.heap) A) ([.ref (q 0), .int x1] : List Value).toArray s 0 0 A) (F0 m 40 ls []) := by
        intro nn
        induction nn with
        | zero =>
          intro x2_12 x3_13 x4_14 S_15 H locs hw hP hD hS ls hl
          exact jx_w_zero hw
        | succ n_16 ih_16 =>
          intro x2_12 x3_13 x4_14 S_15 H locs hw hP hD hS ls hl
          obtain ⟨o_16, hZ, hk_16⟩ := jx_w_succ hw
          have hZ : b_X11_kept_40 x1 x2_12 x3_13 x4_14 S_15 = some o_16 := hZ
          have j67i40 : ∀ (x2_36 : Int32) (x3_36 : Int32) (x4_36 : Int32) (S_36 : St)  (o_16 : (Int32 × Int32 × Int32 × St) ⊕ ((Int32 × Int32 × St))) (hk_16 : jx_k (g_X11_kept_40 x1) n_16 r_16 o_16) (H : Heap) (locs : List Loc) (hZ : f_X11_kept_67i40 x1 x2_36 x3_36 x4_36 S_36 = some o_16) (hP : va_P D vwCl (W_X q k S_36) H) (hD : va_D A (W_X q k S_36)) (hS : va_S A s.heap H locs) (ls : Array Slot) (hl : lv_has ls 6 [(0, .ref (q 0)), (1, .int x1), (2, .int x2_36), (3, .int x3_36), (4, .int x4_36)]), W p l e ({ frames := 4, cells := 0, slots := 0, locals := 94 } : Room) s m ([.ref (q 0), .int x1] : List Value).toArray below meth c H locs 0 0 (MQ below (va_Qi (fun r u => (r, u) = Z) (fun u t => va_P D vwCl (W_X q k u) t.heap) A) ([.ref (q 0), .int x1] : List Value).toArray s 0 0 A) (F0 m 67 ls []) := by
            intro x2_36 x3_36 x4_36 S_36  o_16 hk_16 H locs hZ hP hD hS ls hl
            unfold f_X11_kept_67i40 at hZ
            obtain ⟨x4_37, e_x4_37, hZ⟩ := jx_l_some hZ
            refine lv_iinc (v := x4_37) (lv' := [(4, .int x4_37), (0, .ref (q 0)), (1, .int x1), (2, .int x2_36), (3, .int x3_36)]) hx hb dX11_kept_67 hl (k := 4) rfl (by rw [e_x4_37]; rfl) (by decide) rfl (fun ls hl => ?_)
            refine lv_goto (tgt := 40) hx hb dX11_kept_70 (by decide) ?_
            have ho := Option.some.inj hZ
            subst ho
            exact ih_16 x2_36 x3_36 x4_37 S_36 _ _ hk_16 hP hD hS _ (lv_sub hl [1, 2, 3, 4, 0] rfl)
          unfold b_X11_kept_40 at hZ
          refine lv_iload hx hb dX11_kept_40 (lv_at hl 4 rfl) ?_
          refine lv_bipush (v := (60 : Int32)) hx hb dX11_kept_42 (by decide) ?_
          refine lv_icmp_gt (tgt := 73) hx hb dX11_kept_44 (by decide) (fun c_30 => ?_) (fun c_30 => ?_)
          · have hZ := jx_i_pos c_30 hZ
            have ho := Option.some.inj hZ
            subst ho
            have hE := hza_16
            rw [← (show (x2_12, x3_13, S_15) = r_16 from hk_16)] at hE
            have hZ : f_X11_kept_73 x1 x2_12 x3_13 S_15 = some Z := hE
            exact j73 x1 x2_12 x3_13 S_15 _ _ hZ hP hD hS _ (lv_sub hl [1, 2, 3] rfl)
          · have hZ := jx_i_neg c_30 hZ
            refine lv_aload_n hx hb dX11_kept_47 rfl (lv_at hl 0 rfl) ?_
            refine lv_iload hx hb dX11_kept_48 (lv_at hl 4 rfl) ?_
            obtain ⟨r_34, S_32, hc_33, hZ⟩ := jx_b2_some hZ
            refine call_Vi SX_ok sameX ⟨hx, hb, hml, hown, hts⟩ (c_X11_purseInYear l D q k x4_14 S_15 _ (r_34, S_32)  hc_33) (cwV 1 hts gX11_kept_X11_purseInYear rfl rfl rfl hd_X11_purseInYear ⟨Nat.le_of_ble_eq_true rfl, Nat.le_of_ble_eq_true rfl⟩) hK hP hD hS hA hsp (va_recv hK hP (ci := 11) (q0 := 0) rfl wX_0) (As := [.int x4_14]) rfl hl.1 rfl (Nat.le_of_ble_eq_true rfl) dX11_kept_50 ⟨Nat.zero_le _, Nat.zero_le _⟩ (fun H locs hP hD hS => ?_)
            refine lv_istore (lv' := [(5, .int r_34), (0, .ref (q 0)), (1, .int x1), (2, .int x2_12), (3, .int x3_13), (4, .int x4_14)]) hx hb dX11_kept_53 hl (by decide) rfl (fun ls hl => ?_)
            refine lv_iload hx hb dX11_kept_55 (lv_at hl 0 rfl) ?_
            refine lv_iload_n hx hb dX11_kept_57 rfl (lv_at hl 4 rfl) ?_
            refine lv_icmp_le (tgt := 67) hx hb dX11_kept_58 (by decide) (fun c_35 => ?_) (fun c_35 => ?_)
            · have hZ := jx_i_pos c_35 hZ
              exact j67i40 x2_12 x3_13 x4_14 S_32 _ hk_16 _ _ hZ hP hD hS _ (lv_sub hl [1, 2, 3, 4, 5] rfl)
            · have hZ := jx_i_neg c_35 hZ
              refine lv_iload hx hb dX11_kept_61 (lv_at hl 0 rfl) ?_
              refine lv_istore_n (lv' := [(3, .int r_34), (5, .int r_34), (0, .ref (q 0)), (1, .int x1), (2, .int x2_12), (4, .int x4_14)]) hx hb dX11_kept_63 rfl hl (by decide) rfl (fun ls hl => ?_)
              refine lv_iload hx hb dX11_kept_64 (lv_at hl 5 rfl) ?_
              refine lv_istore_n (lv' := [(2, .int x4_14), (3, .int r_34), (5, .int r_34), (0, .ref (q 0)), (1, .int x1), (4, .int x4_14)]) hx hb dX11_kept_66 rfl hl (by decide) rfl (fun ls hl => ?_)
              exact j67i40 x4_14 r_34 x4_14 S_32 _ hk_16 _ _ hZ hP hD hS _ (lv_sub hl [3, 4, 0, 1, 5] rfl)
      exact l_16 FU (0 : Int32) r_11 (1 : Int32) S_9 _ _ hw hP hD hS _ (lv_sub hl [3, 4, 2, 1, 0] rfl)
    · have hZ := jx_i_pos c_8 hZ
      refine lv_iconst (v := (-1 : Int32)) hx hb dX11_kept_27 (by decide) ?_
      exact leave_i hx hb hr hlocks hP hS hZ dX11_kept_28
  · have hZ := jx_i_neg c_4 hZ
    refine lv_aload_n hx hb dX11_kept_10 rfl (lv_at hl 0 rfl) ?_
    refine lv_iload_n hx hb dX11_kept_11 rfl (lv_at hl 1 rfl) ?_
    obtain ⟨r_42, S_40, hc_41, hZ⟩ := jx_b2_some hZ
    refine call_Vi SX_ok sameX ⟨hx, hb, hml, hown, hts⟩ (c_X11_purseInYear l D q k x1 S_1 _ (r_42, S_40)  hc_41) (cwV 1 hts gX11_kept_X11_purseInYear rfl rfl rfl hd_X11_purseInYear ⟨Nat.le_of_ble_eq_true rfl, Nat.le_of_ble_eq_true rfl⟩) hK hP hD hS hA hsp (va_recv hK hP (ci := 11) (q0 := 0) rfl wX_0) (As := [.int x1]) rfl hl.1 rfl (Nat.le_of_ble_eq_true rfl) dX11_kept_12 ⟨Nat.zero_le _, Nat.zero_le _⟩ (fun H locs hP hD hS => ?_)
    exact leave_i hx hb hr hlocks hP hS hZ dX11_kept_15
theorem hd_X3_ways : yX3_ways.cls = RX3 ∧ yX3_ways.cls ≠ "java/lang/invoke/MethodHandle" ∧ yX3_ways.cls ≠ "java/lang/invoke/VarHandle" ∧ (parseMethodDescriptor yX3_ways.desc).map (fun d => d.parameters.length) = some 5 := by decide +kernel
-- X11_heap
def f_X11_heap (x1 : Int32) (x2 : Int32) (x3 : Int32) (S : St) : Option (Int32 × St) :=
  jx_b2 (f_X11_isAmount x1 S) (fun r_3 S_1 => (if r_3 = 0 then some ((-1 : Int32), S_1) else jx_d (10000 : Int32) ((if (x1 - x1 / (10000 : Int32) * (10000 : Int32)) ≤ (1200 : Int32) then jx_b2 (f_X11_within x2 (0 : Int32) (20 : Int32) S_1) (fun r_9 S_7 => (if r_9 = 0 then some ((-1 : Int32), S_7) else jx_b2 (f_X11_within x3 (0 : Int32) (1980 : Int32) S_7) (fun r_13 S_11 => (if r_13 = 0 then some ((-1 : Int32), S_11) else jx_d (10000 : Int32) (jx_d (10000 : Int32) (jx_b2 (f_X3_ways (x1 / (10000 : Int32)) x2 (x1 - x1 / (10000 : Int32) * (10000 : Int32)) x3 S_11) (fun r_19 S_17 => some (r_19, S_17)))))))) else some ((-1 : Int32), S_1)))))
set_option maxHeartbeats 4000000 in
set_option maxRecDepth 100000 in
theorem c_X11_heap (l : Launch) (D : va_G) (q : Nat → Nat) (k : CI) (x1 : Int32) (x2 : Int32) (x3 : Int32) (S : St) (sz : Nat) (Z : Int32 × St) (hZ : f_X11_heap x1 x2 x3 S = some Z) : MetI W_X SX l yX11_heap wsX11_heap { frames := 26, cells := 0, slots := 0, locals := 664 } [.ref (q 0), .int x1, .int x2, .int x3] D q k S sz Z := by
  refine enter (cc := cX11_heap) (maxL := 4) (ret := some .int) (by decide) rfl (Nat.le_of_ble_eq_true rfl) ?_
  intro p e s m below meth c A ls hx hb hr hts hown hlocks hml hP hK hD hA hS hsp hAe hl
  have hown : s.vm.findClass RX11 = some m.cls := hown
  have hl : lv_has ls 4 [(0, .ref (q 0)), (1, .int x1), (2, .int x2), (3, .int x3)] := hl
  have in11 : ∀ w ∈ wsX110, w ∈ wsX11_heap := fun _ h => (List.mem_cons_of_mem _ (List.mem_append_left _ (List.mem_append_left _ (List.mem_append_right _ h))))
  unfold f_X11_heap at hZ
  refine lv_iload_n hx hb dX11_heap_0 rfl (lv_at hl 1 rfl) ?_
  obtain ⟨r_3, S_1, hc_2, hZ⟩ := jx_b2_some hZ
  refine call_Si SX_ok sameX ⟨hx, hb, hml, hown, hts⟩ (c_X11_isAmount l D q k x1 S _ (r_3, S_1)  hc_2) (va_cwS 1 hts gX11_heap_X11_isAmount rfl rfl rfl hd_X11_isAmount ⟨Nat.le_of_ble_eq_true rfl, Nat.le_of_ble_eq_true rfl⟩) hK hP hD hS hA hsp (As := [.int x1]) rfl hl.1 rfl (Nat.le_of_ble_eq_true rfl) dX11_heap_1 ⟨Nat.zero_le _, Nat.zero_le _⟩ (fun H locs hP hD hS => ?_)
  refine lv_if_eq (tgt := 18) hx hb dX11_heap_4 (by decide) (fun c_4 => ?_) (fun c_4 => ?_)
  · have hZ := jx_i_pos c_4 hZ
    refine lv_iconst (v := (-1 : Int32)) hx hb dX11_heap_18 (by decide) ?_
    exact leave_i hx hb hr hlocks hP hS hZ dX11_heap_19
  · have hZ := jx_i_neg c_4 hZ
    refine lv_iload_n hx hb dX11_heap_7 rfl (lv_at hl 1 rfl) ?_
    refine lv_sipush (v := (10000 : Int32)) hx hb dX11_heap_8 (by decide) ?_
    obtain ⟨c_5, hZ⟩ := jx_d_some hZ
    refine lv_irem hx hb dX11_heap_11 c_5 ?_
    refine lv_sipush (v := (1200 : Int32)) hx hb dX11_heap_12 (by decide) ?_
    refine lv_icmp_le (tgt := 20) hx hb dX11_heap_15 (by decide) (fun c_6 => ?_) (fun c_6 => ?_)
    · have hZ := jx_i_pos c_6 hZ
      refine lv_iload_n hx hb dX11_heap_20 rfl (lv_at hl 2 rfl) ?_
      refine lv_iconst (v := (0 : Int32)) hx hb dX11_heap_21 (by decide) ?_
      refine lv_bipush (v := (20 : Int32)) hx hb dX11_heap_22 (by decide) ?_
      obtain ⟨r_9, S_7, hc_8, hZ⟩ := jx_b2_some hZ
      refine call_Si SX_ok sameX ⟨hx, hb, hml, hown, hts⟩ (c_X11_within l D q k x2 (0 : Int32) (20 : Int32) S_1 _ (r_9, S_7)  hc_8) (va_cwS 3 hts gX11_heap_X11_within rfl rfl rfl hd_X11_within ⟨Nat.le_of_ble_eq_true rfl, Nat.le_of_ble_eq_true rfl⟩) hK hP hD hS hA hsp (As := [.int x2, .int (0 : Int32), .int (20 : Int32)]) rfl hl.1 rfl (Nat.le_of_ble_eq_true rfl) dX11_heap_24 ⟨Nat.zero_le _, Nat.zero_le _⟩ (fun H locs hP hD hS => ?_)
      refine lv_if_eq (tgt := 41) hx hb dX11_heap_27 (by decide) (fun c_10 => ?_) (fun c_10 => ?_)
      · have hZ := jx_i_pos c_10 hZ
        refine lv_iconst (v := (-1 : Int32)) hx hb dX11_heap_41 (by decide) ?_
        exact leave_i hx hb hr hlocks hP hS hZ dX11_heap_42
      · have hZ := jx_i_neg c_10 hZ
        refine lv_iload_n hx hb dX11_heap_30 rfl (lv_at hl 3 rfl) ?_
        refine lv_iconst (v := (0 : Int32)) hx hb dX11_heap_31 (by decide) ?_
        refine lv_sipush (v := (1980 : Int32)) hx hb dX11_heap_32 (by decide) ?_
        obtain ⟨r_13, S_11, hc_12, hZ⟩ := jx_b2_some hZ
        refine call_Si SX_ok sameX ⟨hx, hb, hml, hown, hts⟩ (c_X11_within l D q k x3 (0 : Int32) (1980 : Int32) S_7 _ (r_13, S_11)  hc_12) (va_cwS 3 hts gX11_heap_X11_within rfl rfl rfl hd_X11_within ⟨Nat.le_of_ble_eq_true rfl, Nat.le_of_ble_eq_true rfl⟩) hK hP hD hS hA hsp (As := [.int x3, .int (0 : Int32), .int (1980 : Int32)]) rfl hl.1 rfl (Nat.le_of_ble_eq_true rfl) dX11_heap_35 ⟨Nat.zero_le _, Nat.zero_le _⟩ (fun H locs hP hD hS => ?_)
        refine lv_if_ne (tgt := 43) hx hb dX11_heap_38 (by decide) (fun c_14 => ?_) (fun c_14 => ?_)
        · have hZ := jx_i_neg c_14 hZ
          refine lv_aload_n hx hb dX11_heap_43 rfl (lv_at hl 0 rfl) ?_
          refine gf_11_heaps hx hb hts in11 hown hK hP (hts (.fieldLink RX11 54 "CoinsOfLast" "heaps" "LCoinsOfLast$Heap;") (List.mem_of_getElem? (i := 1) rfl)) dX11_heap_44 ?_
          refine lv_aload_n hx hb dX11_heap_47 rfl (lv_at hl 0 rfl) ?_
          refine gf_11_coins hx hb hts in11 hown hK hP (hts (.fieldLink RX11 12 "CoinsOfLast" "coins" "LCoinsOfLast$Coins;") (List.mem_of_getElem? (i := 2) rfl)) dX11_heap_48 ?_
          refine lv_iload_n hx hb dX11_heap_51 rfl (lv_at hl 1 rfl) ?_
          refine lv_sipush (v := (10000 : Int32)) hx hb dX11_heap_52 (by decide) ?_
          obtain ⟨c_15, hZ⟩ := jx_d_some hZ
          refine lv_idiv hx hb dX11_heap_55 c_15 ?_
          refine lv_iload_n hx hb dX11_heap_56 rfl (lv_at hl 2 rfl) ?_
          refine lv_iload_n hx hb dX11_heap_57 rfl (lv_at hl 1 rfl) ?_
          refine lv_sipush (v := (10000 : Int32)) hx hb dX11_heap_58 (by decide) ?_
          obtain ⟨c_16, hZ⟩ := jx_d_some hZ
          refine lv_irem hx hb dX11_heap_61 c_16 ?_
          refine lv_iload_n hx hb dX11_heap_62 rfl (lv_at hl 3 rfl) ?_
          obtain ⟨r_19, S_17, hc_18, hZ⟩ := jx_b2_some hZ
          refine call_Vi SX_ok sameX ⟨hx, hb, hml, hown, hts⟩ (c_X3_ways l D q k (x1 / (10000 : Int32)) x2 (x1 - x1 / (10000 : Int32) * (10000 : Int32)) x3 S_11 _ (r_19, S_17)  hc_18) (cwV 5 hts gX11_heap_X3_ways rfl rfl rfl hd_X3_ways ⟨Nat.le_of_ble_eq_true rfl, Nat.le_of_ble_eq_true rfl⟩) hK hP hD hS hA hsp (va_recv hK hP (ci := 3) (q0 := 22) rfl wX_22) (As := [.ref (q 1), .int (x1 / (10000 : Int32)), .int x2, .int (x1 - x1 / (10000 : Int32) * (10000 : Int32)), .int x3]) rfl hl.1 rfl (Nat.le_of_ble_eq_true rfl) dX11_heap_63 ⟨Nat.zero_le _, Nat.zero_le _⟩ (fun H locs hP hD hS => ?_)
          exact leave_i hx hb hr hlocks hP hS hZ dX11_heap_66
        · have hZ := jx_i_pos c_14 hZ
          refine lv_iconst (v := (-1 : Int32)) hx hb dX11_heap_41 (by decide) ?_
          exact leave_i hx hb hr hlocks hP hS hZ dX11_heap_42
    · have hZ := jx_i_neg c_6 hZ
      refine lv_iconst (v := (-1 : Int32)) hx hb dX11_heap_18 (by decide) ?_
      exact leave_i hx hb hr hlocks hP hS hZ dX11_heap_19
theorem hd_X1_emptyOut : yX1_emptyOut.cls = RX1 ∧ yX1_emptyOut.cls ≠ "java/lang/invoke/MethodHandle" ∧ yX1_emptyOut.cls ≠ "java/lang/invoke/VarHandle" ∧ (parseMethodDescriptor yX1_emptyOut.desc).map (fun d => d.parameters.length) = some 1 := by decide +kernel
-- X11_give
def f_X11_give (x1 : Int32) (S : St) : Option (Int32 × St) :=
  jx_b2 (f_X11_isLand x1 S) (fun r_3 S_1 => (if r_3 = 0 then some ((-1 : Int32), S_1) else jx_b2 (f_X1_worthOf x1 S_1) (fun r_7 S_5 => jx_a (2 : Int32) 3 (jx_b2 (f_X1_emptyOut x1 S_5) (fun r_11 S_9 => jx_a (2 : Int32) 3 (jx_l (u1 S_9 39 (Int32.toNatClampNeg (2 : Int32)) ((S_5.1 39 (Int32.toNatClampNeg (2 : Int32))) + r_11)) (fun S_13 => some (r_7, S_13))))))))
set_option maxHeartbeats 4000000 in
set_option maxRecDepth 100000 in
theorem c_X11_give (l : Launch) (D : va_G) (q : Nat → Nat) (k : CI) (x1 : Int32) (S : St) (sz : Nat) (Z : Int32 × St) (hZ : f_X11_give x1 S = some Z) : MetI W_X SX l yX11_give wsX11_give { frames := 2, cells := 0, slots := 0, locals := 42 } [.ref (q 0), .int x1] D q k S sz Z := by
  refine enter (cc := cX11_give) (maxL := 3) (ret := some .int) (by decide) rfl (Nat.le_of_ble_eq_true rfl) ?_
  intro p e s m below meth c A ls hx hb hr hts hown hlocks hml hP hK hD hA hS hsp hAe hl
  have hown : s.vm.findClass RX11 = some m.cls := hown
  have hl : lv_has ls 3 [(0, .ref (q 0)), (1, .int x1)] := hl
  have in11 : ∀ w ∈ wsX110, w ∈ wsX11_give := fun _ h => (List.mem_cons_of_mem _ (List.mem_append_left _ (List.mem_append_right _ h)))
  unfold f_X11_give at hZ
  refine lv_iload_n hx hb dX11_give_0 rfl (lv_at hl 1 rfl) ?_
  obtain ⟨r_3, S_1, hc_2, hZ⟩ := jx_b2_some hZ
  refine call_Si SX_ok sameX ⟨hx, hb, hml, hown, hts⟩ (c_X11_isLand l D q k x1 S _ (r_3, S_1)  hc_2) (va_cwS 1 hts gX11_give_X11_isLand rfl rfl rfl hd_X11_isLand ⟨Nat.le_of_ble_eq_true rfl, Nat.le_of_ble_eq_true rfl⟩) hK hP hD hS hA hsp (As := [.int x1]) rfl hl.1 rfl (Nat.le_of_ble_eq_true rfl) dX11_give_1 ⟨Nat.zero_le _, Nat.zero_le _⟩ (fun H locs hP hD hS => ?_)
  refine lv_if_ne (tgt := 9) hx hb dX11_give_4 (by decide) (fun c_4 => ?_) (fun c_4 => ?_)
  · have hZ := jx_i_neg c_4 hZ
    refine lv_aload_n hx hb dX11_give_9 rfl (lv_at hl 0 rfl) ?_
    refine gf_11_coins hx hb hts in11 hown hK hP (hts (.fieldLink RX11 12 "CoinsOfLast" "coins" "LCoinsOfLast$Coins;") (List.mem_of_getElem? (i := 1) rfl)) dX11_give_10 ?_
    refine lv_iload_n hx hb dX11_give_13 rfl (lv_at hl 1 rfl) ?_
    obtain ⟨r_7, S_5, hc_6, hZ⟩ := jx_b2_some hZ
    refine call_Vi SX_ok sameX ⟨hx, hb, hml, hown, hts⟩ (c_X1_worthOf l D q k x1 S_1 _ (r_7, S_5)  hc_6) (cwV 1 hts gX11_give_X1_worthOf rfl rfl rfl hd_X1_worthOf ⟨Nat.le_of_ble_eq_true rfl, Nat.le_of_ble_eq_true rfl⟩) hK hP hD hS hA hsp (va_recv hK hP (ci := 1) (q0 := 1) rfl wX_1) (As := [.int x1]) rfl hl.1 rfl (Nat.le_of_ble_eq_true rfl) dX11_give_14 ⟨Nat.zero_le _, Nat.zero_le _⟩ (fun H locs hP hD hS => ?_)
    refine lv_istore_n (lv' := [(2, .int r_7), (0, .ref (q 0)), (1, .int x1)]) hx hb dX11_give_17 rfl hl (by decide) rfl (fun ls hl => ?_)
    refine lv_aload_n hx hb dX11_give_18 rfl (lv_at hl 1 rfl) ?_
    refine gf_11_ledger hx hb hts in11 hown hK hP (hts (.fieldLink RX11 89 "CoinsOfLast" "ledger" "[I") (List.mem_of_getElem? (i := 2) rfl)) dX11_give_19 ?_
    refine lv_iconst (v := (2 : Int32)) hx hb dX11_give_22 (by decide) ?_
    refine lv_dup2_11 hx hb dX11_give_23 rfl rfl ?_
    obtain ⟨c_8, hZ⟩ := jx_a_some hZ
    refine X_iald hx hb hK hP wX_39 c_8 dX11_give_24 ?_
    refine lv_aload_n hx hb dX11_give_25 rfl (lv_at hl 1 rfl) ?_
    refine gf_11_coins hx hb hts in11 hown hK hP (hts (.fieldLink RX11 12 "CoinsOfLast" "coins" "LCoinsOfLast$Coins;") (List.mem_of_getElem? (i := 1) rfl)) dX11_give_26 ?_
    refine lv_iload_n hx hb dX11_give_29 rfl (lv_at hl 2 rfl) ?_
    obtain ⟨r_11, S_9, hc_10, hZ⟩ := jx_b2_some hZ
    refine call_Vi SX_ok sameX ⟨hx, hb, hml, hown, hts⟩ (c_X1_emptyOut l D q k x1 S_5 _ (r_11, S_9)  hc_10) (cwV 1 hts gX11_give_X1_emptyOut rfl rfl rfl hd_X1_emptyOut ⟨Nat.le_of_ble_eq_true rfl, Nat.le_of_ble_eq_true rfl⟩) hK hP hD hS hA hsp (va_recv hK hP (ci := 1) (q0 := 1) rfl wX_1) (As := [.int x1]) rfl hl.1 rfl (Nat.le_of_ble_eq_true rfl) dX11_give_30 ⟨Nat.zero_le _, Nat.zero_le _⟩ (fun H locs hP hD hS => ?_)
    refine lv_iadd hx hb dX11_give_33 ?_
    obtain ⟨c_12, hZ⟩ := jx_a_some hZ
    obtain ⟨S_13, e_S_13, hZ⟩ := jx_l_some hZ
    refine X_iast hx hb hK hP hD hS wX_39 (fun _ => wXs_39) c_12 e_S_13 dX11_give_34 (fun H locs hP hD hS => ?_)
    refine lv_iload_n hx hb dX11_give_35 rfl (lv_at hl 0 rfl) ?_
    exact leave_i hx hb hr hlocks hP hS hZ dX11_give_36
  · have hZ := jx_i_pos c_4 hZ
    refine lv_iconst (v := (-1 : Int32)) hx hb dX11_give_7 (by decide) ?_
    exact leave_i hx hb hr hlocks hP hS hZ dX11_give_8
-- X11_led
def f_X11_led (x1 : Int32) (S : St) : Option (Int32 × St) :=
  jx_b2 (f_X11_within x1 (0 : Int32) (2 : Int32) S) (fun r_3 S_1 => (if r_3 = 0 then some ((-1 : Int32), S_1) else jx_a x1 3 (some ((S_1.1 39 (Int32.toNatClampNeg x1)), S_1))))
set_option maxHeartbeats 4000000 in
set_option maxRecDepth 100000 in
theorem c_X11_led (l : Launch) (D : va_G) (q : Nat → Nat) (k : CI) (x1 : Int32) (S : St) (sz : Nat) (Z : Int32 × St) (hZ : f_X11_led x1 S = some Z) : MetI W_X SX l yX11_led wsX11_led { frames := 1, cells := 0, slots := 0, locals := 22 } [.ref (q 0), .int x1] D q k S sz Z := by
  refine enter (cc := cX11_led) (maxL := 2) (ret := some .int) (by decide) rfl (Nat.le_of_ble_eq_true rfl) ?_
  intro p e s m below meth c A ls hx hb hr hts hown hlocks hml hP hK hD hA hS hsp hAe hl
  have hown : s.vm.findClass RX11 = some m.cls := hown
  have hl : lv_has ls 2 [(0, .ref (q 0)), (1, .int x1)] := hl
  have in11 : ∀ w ∈ wsX110, w ∈ wsX11_led := fun _ h => (List.mem_cons_of_mem _ (List.mem_append_right _ h))
  unfold f_X11_led at hZ
  refine lv_iload_n hx hb dX11_led_0 rfl (lv_at hl 1 rfl) ?_
  refine lv_iconst (v := (0 : Int32)) hx hb dX11_led_1 (by decide) ?_
  refine lv_iconst (v := (2 : Int32)) hx hb dX11_led_2 (by decide) ?_
  obtain ⟨r_3, S_1, hc_2, hZ⟩ := jx_b2_some hZ
  refine call_Si SX_ok sameX ⟨hx, hb, hml, hown, hts⟩ (c_X11_within l D q k x1 (0 : Int32) (2 : Int32) S _ (r_3, S_1)  hc_2) (va_cwS 3 hts gX11_led_X11_within rfl rfl rfl hd_X11_within ⟨Nat.le_of_ble_eq_true rfl, Nat.le_of_ble_eq_true rfl⟩) hK hP hD hS hA hsp (As := [.int x1, .int (0 : Int32), .int (2 : Int32)]) rfl hl.1 rfl (Nat.le_of_ble_eq_true rfl) dX11_led_3 ⟨Nat.zero_le _, Nat.zero_le _⟩ (fun H locs hP hD hS => ?_)
  refine lv_if_eq (tgt := 18) hx hb dX11_led_6 (by decide) (fun c_4 => ?_) (fun c_4 => ?_)
  · have hZ := jx_i_pos c_4 hZ
    refine lv_iconst (v := (-1 : Int32)) hx hb dX11_led_18 (by decide) ?_
    exact leave_i hx hb hr hlocks hP hS hZ dX11_led_19
  · have hZ := jx_i_neg c_4 hZ
    refine lv_aload_n hx hb dX11_led_9 rfl (lv_at hl 0 rfl) ?_
    refine gf_11_ledger hx hb hts in11 hown hK hP (hts (.fieldLink RX11 89 "CoinsOfLast" "ledger" "[I") (List.mem_of_getElem? (i := 1) rfl)) dX11_led_10 ?_
    refine lv_iload_n hx hb dX11_led_13 rfl (lv_at hl 1 rfl) ?_
    obtain ⟨c_5, hZ⟩ := jx_a_some hZ
    refine X_iald hx hb hK hP wX_39 c_5 dX11_led_14 ?_
    refine lv_goto (tgt := 19) hx hb dX11_led_15 (by decide) ?_
    exact leave_i hx hb hr hlocks hP hS hZ dX11_led_19
theorem hd_X4_take : yX4_take.cls = RX4 ∧ yX4_take.cls ≠ "java/lang/invoke/MethodHandle" ∧ yX4_take.cls ≠ "java/lang/invoke/VarHandle" ∧ (parseMethodDescriptor yX4_take.desc).map (fun d => d.parameters.length) = some 3 := by decide +kernel
-- X11_image
def f_X11_image (S : St) : Option (Int32 × St) :=
  jx_b (f_X4_take S) (fun S_1 => some ((S_1.1 1 5), S_1))
set_option maxHeartbeats 4000000 in
set_option maxRecDepth 100000 in
theorem c_X11_image (l : Launch) (D : va_G) (q : Nat → Nat) (k : CI) (S : St) (sz : Nat) (Z : Int32 × St) (hZ : f_X11_image S = some Z) : MetI W_X SX l yX11_image wsX11_image { frames := 2, cells := 0, slots := 0, locals := 71 } [.ref (q 0)] D q k S sz Z := by
  refine enter (cc := cX11_image) (maxL := 1) (ret := some .int) (by decide) rfl (Nat.le_of_ble_eq_true rfl) ?_
  intro p e s m below meth c A ls hx hb hr hts hown hlocks hml hP hK hD hA hS hsp hAe hl
  have hown : s.vm.findClass RX11 = some m.cls := hown
  have hl : lv_has ls 1 [(0, .ref (q 0))] := hl
  have in1 : ∀ w ∈ wsX10, w ∈ wsX11_image := fun _ h => (List.mem_cons_of_mem _ (List.mem_append_left _ (List.mem_append_left _ (List.mem_append_right _ h))))
  have in11 : ∀ w ∈ wsX110, w ∈ wsX11_image := fun _ h => (List.mem_cons_of_mem _ (List.mem_append_left _ (List.mem_append_left _ (List.mem_append_left _ (List.mem_append_right _ h)))))
  unfold f_X11_image at hZ
  refine lv_aload_n hx hb dX11_image_0 rfl (lv_at hl 0 rfl) ?_
  refine gf_11_picture hx hb hts in11 hown hK hP (hts (.fieldLink RX11 68 "CoinsOfLast" "picture" "LCoinsOfLast$Image;") (List.mem_of_getElem? (i := 1) rfl)) dX11_image_1 ?_
  refine lv_aload_n hx hb dX11_image_4 rfl (lv_at hl 0 rfl) ?_
  refine gf_11_coins hx hb hts in11 hown hK hP (hts (.fieldLink RX11 12 "CoinsOfLast" "coins" "LCoinsOfLast$Coins;") (List.mem_of_getElem? (i := 2) rfl)) dX11_image_5 ?_
  refine lv_aload_n hx hb dX11_image_8 rfl (lv_at hl 0 rfl) ?_
  refine gf_11_things hx hb hts in11 hown hK hP (hts (.fieldLink RX11 19 "CoinsOfLast" "things" "LCoinsOfLast$Things;") (List.mem_of_getElem? (i := 3) rfl)) dX11_image_9 ?_
  refine lv_aload_n hx hb dX11_image_12 rfl (lv_at hl 0 rfl) ?_
  refine gf_11_ledger hx hb hts in11 hown hK hP (hts (.fieldLink RX11 89 "CoinsOfLast" "ledger" "[I") (List.mem_of_getElem? (i := 4) rfl)) dX11_image_13 ?_
  obtain ⟨S_1, hc_2, hZ⟩ := jx_b_some hZ
  refine call_Vv SX_ok sameX ⟨hx, hb, hml, hown, hts⟩ (c_X4_take l D q k  S _ S_1  hc_2) (cwV 3 hts gX11_image_X4_take rfl rfl rfl hd_X4_take ⟨Nat.le_of_ble_eq_true rfl, Nat.le_of_ble_eq_true rfl⟩) hK hP hD hS hA hsp (va_recv hK hP (ci := 4) (q0 := 30) rfl wX_30) (As := [.ref (q 1), .ref (q 7), .ref (q 39)]) rfl hl.1 rfl (Nat.le_of_ble_eq_true rfl) dX11_image_16 ⟨Nat.zero_le _, Nat.zero_le _⟩ (fun H locs hP hD hS => ?_)
  refine lv_aload_n hx hb dX11_image_19 rfl (lv_at hl 0 rfl) ?_
  refine gf_11_coins hx hb hts in11 hown hK hP (hts (.fieldLink RX11 12 "CoinsOfLast" "coins" "LCoinsOfLast$Coins;") (List.mem_of_getElem? (i := 2) rfl)) dX11_image_20 ?_
  refine gn_1_known hx hb hts in1 hown hK hP (hsp.1 _ (List.mem_of_getElem? (i := 15) rfl)) dX11_image_23 ?_
  exact leave_i hx hb hr hlocks hP hS hZ dX11_image_26
theorem hd_X4_restore : yX4_restore.cls = RX4 ∧ yX4_restore.cls ≠ "java/lang/invoke/MethodHandle" ∧ yX4_restore.cls ≠ "java/lang/invoke/VarHandle" ∧ (parseMethodDescriptor yX4_restore.desc).map (fun d => d.parameters.length) = some 3 := by decide +kernel
-- X11_back
def f_X11_back (S : St) : Option (Int32 × St) :=
  (if (S.1 30 5) = 0 then some ((-5 : Int32), S) else jx_b (f_X4_restore S) (fun S_2 => some ((S_2.1 1 5), S_2)))
set_option maxHeartbeats 4000000 in
set_option maxRecDepth 100000 in
theorem c_X11_back (l : Launch) (D : va_G) (q : Nat → Nat) (k : CI) (S : St) (sz : Nat) (Z : Int32 × St) (hZ : f_X11_back S = some Z) : MetI W_X SX l yX11_back wsX11_back { frames := 2, cells := 0, slots := 0, locals := 72 } [.ref (q 0)] D q k S sz Z := by
  refine enter (cc := cX11_back) (maxL := 1) (ret := some .int) (by decide) rfl (Nat.le_of_ble_eq_true rfl) ?_
  intro p e s m below meth c A ls hx hb hr hts hown hlocks hml hP hK hD hA hS hsp hAe hl
  have hown : s.vm.findClass RX11 = some m.cls := hown
  have hl : lv_has ls 1 [(0, .ref (q 0))] := hl
  have in1 : ∀ w ∈ wsX10, w ∈ wsX11_back := fun _ h => (List.mem_cons_of_mem _ (List.mem_append_left _ (List.mem_append_right _ h)))
  have in4 : ∀ w ∈ wsX40, w ∈ wsX11_back := fun _ h => (List.mem_cons_of_mem _ (List.mem_append_left _ (List.mem_append_left _ (List.mem_append_right _ h))))
  have in11 : ∀ w ∈ wsX110, w ∈ wsX11_back := fun _ h => (List.mem_cons_of_mem _ (List.mem_append_left _ (List.mem_append_left _ (List.mem_append_left _ (List.mem_append_right _ h)))))
  unfold f_X11_back at hZ
  refine lv_aload_n hx hb dX11_back_0 rfl (lv_at hl 0 rfl) ?_
  refine gf_11_picture hx hb hts in11 hown hK hP (hts (.fieldLink RX11 68 "CoinsOfLast" "picture" "LCoinsOfLast$Image;") (List.mem_of_getElem? (i := 1) rfl)) dX11_back_1 ?_
  refine gn_4_there hx hb hts in4 hown hK hP (hsp.1 _ (List.mem_of_getElem? (i := 46) rfl)) dX11_back_4 ?_
  refine lv_if_ne (tgt := 13) hx hb dX11_back_7 (by decide) (fun c_1 => ?_) (fun c_1 => ?_)
  · have hZ := jx_i_neg c_1 hZ
    refine lv_aload_n hx hb dX11_back_13 rfl (lv_at hl 0 rfl) ?_
    refine gf_11_picture hx hb hts in11 hown hK hP (hts (.fieldLink RX11 68 "CoinsOfLast" "picture" "LCoinsOfLast$Image;") (List.mem_of_getElem? (i := 1) rfl)) dX11_back_14 ?_
    refine lv_aload_n hx hb dX11_back_17 rfl (lv_at hl 0 rfl) ?_
    refine gf_11_coins hx hb hts in11 hown hK hP (hts (.fieldLink RX11 12 "CoinsOfLast" "coins" "LCoinsOfLast$Coins;") (List.mem_of_getElem? (i := 2) rfl)) dX11_back_18 ?_
    refine lv_aload_n hx hb dX11_back_21 rfl (lv_at hl 0 rfl) ?_
    refine gf_11_things hx hb hts in11 hown hK hP (hts (.fieldLink RX11 19 "CoinsOfLast" "things" "LCoinsOfLast$Things;") (List.mem_of_getElem? (i := 3) rfl)) dX11_back_22 ?_
    refine lv_aload_n hx hb dX11_back_25 rfl (lv_at hl 0 rfl) ?_
    refine gf_11_ledger hx hb hts in11 hown hK hP (hts (.fieldLink RX11 89 "CoinsOfLast" "ledger" "[I") (List.mem_of_getElem? (i := 4) rfl)) dX11_back_26 ?_
    obtain ⟨S_2, hc_3, hZ⟩ := jx_b_some hZ
    refine call_Vv SX_ok sameX ⟨hx, hb, hml, hown, hts⟩ (c_X4_restore l D q k  S _ S_2  hc_3) (cwV 3 hts gX11_back_X4_restore rfl rfl rfl hd_X4_restore ⟨Nat.le_of_ble_eq_true rfl, Nat.le_of_ble_eq_true rfl⟩) hK hP hD hS hA hsp (va_recv hK hP (ci := 4) (q0 := 30) rfl wX_30) (As := [.ref (q 1), .ref (q 7), .ref (q 39)]) rfl hl.1 rfl (Nat.le_of_ble_eq_true rfl) dX11_back_29 ⟨Nat.zero_le _, Nat.zero_le _⟩ (fun H locs hP hD hS => ?_)
    refine lv_aload_n hx hb dX11_back_32 rfl (lv_at hl 0 rfl) ?_
    refine gf_11_coins hx hb hts in11 hown hK hP (hts (.fieldLink RX11 12 "CoinsOfLast" "coins" "LCoinsOfLast$Coins;") (List.mem_of_getElem? (i := 2) rfl)) dX11_back_33 ?_
    refine gn_1_known hx hb hts in1 hown hK hP (hsp.1 _ (List.mem_of_getElem? (i := 15) rfl)) dX11_back_36 ?_
    exact leave_i hx hb hr hlocks hP hS hZ dX11_back_39
  · have hZ := jx_i_pos c_1 hZ
    refine lv_bipush (v := (-5 : Int32)) hx hb dX11_back_10 (by decide) ?_
    exact leave_i hx hb hr hlocks hP hS hZ dX11_back_12
theorem hd_X0_stepBack : yX0_stepBack.cls = RX0 ∧ yX0_stepBack.cls ≠ "java/lang/invoke/MethodHandle" ∧ yX0_stepBack.cls ≠ "java/lang/invoke/VarHandle" ∧ (parseMethodDescriptor yX0_stepBack.desc).map (fun d => d.parameters.length) = some 0 := by decide +kernel
-- X11_undo
def f_X11_undo (S : St) : Option (Int32 × St) :=
  jx_b2 (f_X0_stepBack S) (fun r_3 S_1 => (if 0 ≤ r_3 then jx_a r_3 40 (jx_a r_3 40 (jx_a r_3 40 (jx_b (f_X11_tell (S_1.1 26 (Int32.toNatClampNeg r_3)) (S_1.1 27 (Int32.toNatClampNeg r_3)) (S_1.1 28 (Int32.toNatClampNeg r_3)) S_1) (fun S_8 => some ((S_8.1 25 4), S_8))))) else some ((-5 : Int32), S_1)))
set_option maxHeartbeats 4000000 in
set_option maxRecDepth 100000 in
theorem c_X11_undo (l : Launch) (D : va_G) (q : Nat → Nat) (k : CI) (S : St) (sz : Nat) (Z : Int32 × St) (hZ : f_X11_undo S = some Z) : MetI W_X SX l yX11_undo wsX11_undo { frames := 1, cells := 0, slots := 0, locals := 23 } [.ref (q 0)] D q k S sz Z := by
  refine enter (cc := cX11_undo) (maxL := 2) (ret := some .int) (by decide) rfl (Nat.le_of_ble_eq_true rfl) ?_
  intro p e s m below meth c A ls hx hb hr hts hown hlocks hml hP hK hD hA hS hsp hAe hl
  have hown : s.vm.findClass RX11 = some m.cls := hown
  have hl : lv_has ls 2 [(0, .ref (q 0))] := hl
  have in0 : ∀ w ∈ wsX00, w ∈ wsX11_undo := fun _ h => (List.mem_cons_of_mem _ (List.mem_append_left _ (List.mem_append_left _ (List.mem_append_right _ h))))
  have in11 : ∀ w ∈ wsX110, w ∈ wsX11_undo := fun _ h => (List.mem_cons_of_mem _ (List.mem_append_left _ (List.mem_append_left _ (List.mem_append_left _ (List.mem_append_right _ h)))))
  unfold f_X11_undo at hZ
  refine lv_aload_n hx hb dX11_undo_0 rfl (lv_at hl 0 rfl) ?_
  refine gf_11_changes hx hb hts in11 hown hK hP (hts (.fieldLink RX11 61 "CoinsOfLast" "changes" "LCoinsOfLast$Changes;") (List.mem_of_getElem? (i := 1) rfl)) dX11_undo_1 ?_
  obtain ⟨r_3, S_1, hc_2, hZ⟩ := jx_b2_some hZ
  refine call_Vi SX_ok sameX ⟨hx, hb, hml, hown, hts⟩ (c_X0_stepBack l D q k  S _ (r_3, S_1)  hc_2) (cwV 0 hts gX11_undo_X0_stepBack rfl rfl rfl hd_X0_stepBack ⟨Nat.le_of_ble_eq_true rfl, Nat.le_of_ble_eq_true rfl⟩) hK hP hD hS hA hsp (va_recv hK hP (ci := 0) (q0 := 25) rfl wX_25) (As := []) rfl hl.1 rfl (Nat.le_of_ble_eq_true rfl) dX11_undo_4 ⟨Nat.zero_le _, Nat.zero_le _⟩ (fun H locs hP hD hS => ?_)
  refine lv_istore_n (lv' := [(1, .int r_3), (0, .ref (q 0))]) hx hb dX11_undo_7 rfl hl (by decide) rfl (fun ls hl => ?_)
  refine lv_iload_n hx hb dX11_undo_8 rfl (lv_at hl 0 rfl) ?_
  refine lv_if_ge (tgt := 15) hx hb dX11_undo_9 (by decide) (fun c_4 => ?_) (fun c_4 => ?_)
  · have hZ := jx_i_pos c_4 hZ
    refine lv_aload_n hx hb dX11_undo_15 rfl (lv_at hl 1 rfl) ?_
    refine lv_aload_n hx hb dX11_undo_16 rfl (lv_at hl 1 rfl) ?_
    refine gf_11_changes hx hb hts in11 hown hK hP (hts (.fieldLink RX11 61 "CoinsOfLast" "changes" "LCoinsOfLast$Changes;") (List.mem_of_getElem? (i := 1) rfl)) dX11_undo_17 ?_
    refine gn_0_number hx hb hts in0 hown hK hP (hsp.1 _ (List.mem_of_getElem? (i := 40) rfl)) dX11_undo_20 ?_
    refine lv_iload_n hx hb dX11_undo_23 rfl (lv_at hl 0 rfl) ?_
    obtain ⟨c_5, hZ⟩ := jx_a_some hZ
    refine X_iald hx hb hK hP wX_26 c_5 dX11_undo_24 ?_
    refine lv_aload_n hx hb dX11_undo_25 rfl (lv_at hl 1 rfl) ?_
    refine gf_11_changes hx hb hts in11 hown hK hP (hts (.fieldLink RX11 61 "CoinsOfLast" "changes" "LCoinsOfLast$Changes;") (List.mem_of_getElem? (i := 1) rfl)) dX11_undo_26 ?_
    refine gn_0_what hx hb hts in0 hown hK hP (hsp.1 _ (List.mem_of_getElem? (i := 41) rfl)) dX11_undo_29 ?_
    refine lv_iload_n hx hb dX11_undo_32 rfl (lv_at hl 0 rfl) ?_
    obtain ⟨c_6, hZ⟩ := jx_a_some hZ
    refine X_iald hx hb hK hP wX_27 c_6 dX11_undo_33 ?_
    refine lv_aload_n hx hb dX11_undo_34 rfl (lv_at hl 1 rfl) ?_
    refine gf_11_changes hx hb hts in11 hown hK hP (hts (.fieldLink RX11 61 "CoinsOfLast" "changes" "LCoinsOfLast$Changes;") (List.mem_of_getElem? (i := 1) rfl)) dX11_undo_35 ?_
    refine gn_0_was hx hb hts in0 hown hK hP (hsp.1 _ (List.mem_of_getElem? (i := 42) rfl)) dX11_undo_38 ?_
    refine lv_iload_n hx hb dX11_undo_41 rfl (lv_at hl 0 rfl) ?_
    obtain ⟨c_7, hZ⟩ := jx_a_some hZ
    refine X_iald hx hb hK hP wX_28 c_7 dX11_undo_42 ?_
    obtain ⟨S_8, hc_9, hZ⟩ := jx_b_some hZ
    refine call_Vv SX_ok sameX ⟨hx, hb, hml, hown, hts⟩ (c_X11_tell l D q k (S_1.1 26 (Int32.toNatClampNeg r_3)) (S_1.1 27 (Int32.toNatClampNeg r_3)) (S_1.1 28 (Int32.toNatClampNeg r_3)) S_1 _ S_8  hc_9) (cwV 3 hts gX11_undo_X11_tell rfl rfl rfl hd_X11_tell ⟨Nat.le_of_ble_eq_true rfl, Nat.le_of_ble_eq_true rfl⟩) hK hP hD hS hA hsp (va_recv hK hP (ci := 11) (q0 := 0) rfl wX_0) (As := [.int (S_1.1 26 (Int32.toNatClampNeg r_3)), .int (S_1.1 27 (Int32.toNatClampNeg r_3)), .int (S_1.1 28 (Int32.toNatClampNeg r_3))]) rfl hl.1 rfl (Nat.le_of_ble_eq_true rfl) dX11_undo_43 ⟨Nat.zero_le _, Nat.zero_le _⟩ (fun H locs hP hD hS => ?_)
    refine lv_aload_n hx hb dX11_undo_46 rfl (lv_at hl 1 rfl) ?_
    refine gf_11_changes hx hb hts in11 hown hK hP (hts (.fieldLink RX11 61 "CoinsOfLast" "changes" "LCoinsOfLast$Changes;") (List.mem_of_getElem? (i := 1) rfl)) dX11_undo_47 ?_
    refine gn_0_done hx hb hts in0 hown hK hP (hsp.1 _ (List.mem_of_getElem? (i := 44) rfl)) dX11_undo_50 ?_
    exact leave_i hx hb hr hlocks hP hS hZ dX11_undo_53
  · have hZ := jx_i_neg c_4 hZ
    refine lv_bipush (v := (-5 : Int32)) hx hb dX11_undo_12 (by decide) ?_
    exact leave_i hx hb hr hlocks hP hS hZ dX11_undo_14
theorem hd_X0_stepOn : yX0_stepOn.cls = RX0 ∧ yX0_stepOn.cls ≠ "java/lang/invoke/MethodHandle" ∧ yX0_stepOn.cls ≠ "java/lang/invoke/VarHandle" ∧ (parseMethodDescriptor yX0_stepOn.desc).map (fun d => d.parameters.length) = some 0 := by decide +kernel
-- X11_redo
def f_X11_redo (S : St) : Option (Int32 × St) :=
  jx_b2 (f_X0_stepOn S) (fun r_3 S_1 => (if 0 ≤ r_3 then jx_a r_3 40 (jx_a r_3 40 (jx_a r_3 40 (jx_b (f_X11_tell (S_1.1 26 (Int32.toNatClampNeg r_3)) (S_1.1 27 (Int32.toNatClampNeg r_3)) (S_1.1 29 (Int32.toNatClampNeg r_3)) S_1) (fun S_8 => some (((S_8.1 25 5) - (S_8.1 25 4)), S_8))))) else some ((-5 : Int32), S_1)))
set_option maxHeartbeats 4000000 in
set_option maxRecDepth 100000 in
theorem c_X11_redo (l : Launch) (D : va_G) (q : Nat → Nat) (k : CI) (S : St) (sz : Nat) (Z : Int32 × St) (hZ : f_X11_redo S = some Z) : MetI W_X SX l yX11_redo wsX11_redo { frames := 1, cells := 0, slots := 0, locals := 23 } [.ref (q 0)] D q k S sz Z := by
  refine enter (cc := cX11_redo) (maxL := 2) (ret := some .int) (by decide) rfl (Nat.le_of_ble_eq_true rfl) ?_
  intro p e s m below meth c A ls hx hb hr hts hown hlocks hml hP hK hD hA hS hsp hAe hl
  have hown : s.vm.findClass RX11 = some m.cls := hown
  have hl : lv_has ls 2 [(0, .ref (q 0))] := hl
  have in0 : ∀ w ∈ wsX00, w ∈ wsX11_redo := fun _ h => (List.mem_cons_of_mem _ (List.mem_append_left _ (List.mem_append_left _ (List.mem_append_right _ h))))
  have in11 : ∀ w ∈ wsX110, w ∈ wsX11_redo := fun _ h => (List.mem_cons_of_mem _ (List.mem_append_left _ (List.mem_append_left _ (List.mem_append_left _ (List.mem_append_right _ h)))))
  unfold f_X11_redo at hZ
  refine lv_aload_n hx hb dX11_redo_0 rfl (lv_at hl 0 rfl) ?_
  refine gf_11_changes hx hb hts in11 hown hK hP (hts (.fieldLink RX11 61 "CoinsOfLast" "changes" "LCoinsOfLast$Changes;") (List.mem_of_getElem? (i := 1) rfl)) dX11_redo_1 ?_
  obtain ⟨r_3, S_1, hc_2, hZ⟩ := jx_b2_some hZ
  refine call_Vi SX_ok sameX ⟨hx, hb, hml, hown, hts⟩ (c_X0_stepOn l D q k  S _ (r_3, S_1)  hc_2) (cwV 0 hts gX11_redo_X0_stepOn rfl rfl rfl hd_X0_stepOn ⟨Nat.le_of_ble_eq_true rfl, Nat.le_of_ble_eq_true rfl⟩) hK hP hD hS hA hsp (va_recv hK hP (ci := 0) (q0 := 25) rfl wX_25) (As := []) rfl hl.1 rfl (Nat.le_of_ble_eq_true rfl) dX11_redo_4 ⟨Nat.zero_le _, Nat.zero_le _⟩ (fun H locs hP hD hS => ?_)
  refine lv_istore_n (lv' := [(1, .int r_3), (0, .ref (q 0))]) hx hb dX11_redo_7 rfl hl (by decide) rfl (fun ls hl => ?_)
  refine lv_iload_n hx hb dX11_redo_8 rfl (lv_at hl 0 rfl) ?_
  refine lv_if_ge (tgt := 15) hx hb dX11_redo_9 (by decide) (fun c_4 => ?_) (fun c_4 => ?_)
  · have hZ := jx_i_pos c_4 hZ
    refine lv_aload_n hx hb dX11_redo_15 rfl (lv_at hl 1 rfl) ?_
    refine lv_aload_n hx hb dX11_redo_16 rfl (lv_at hl 1 rfl) ?_
    refine gf_11_changes hx hb hts in11 hown hK hP (hts (.fieldLink RX11 61 "CoinsOfLast" "changes" "LCoinsOfLast$Changes;") (List.mem_of_getElem? (i := 1) rfl)) dX11_redo_17 ?_
    refine gn_0_number hx hb hts in0 hown hK hP (hsp.1 _ (List.mem_of_getElem? (i := 40) rfl)) dX11_redo_20 ?_
    refine lv_iload_n hx hb dX11_redo_23 rfl (lv_at hl 0 rfl) ?_
    obtain ⟨c_5, hZ⟩ := jx_a_some hZ
    refine X_iald hx hb hK hP wX_26 c_5 dX11_redo_24 ?_
    refine lv_aload_n hx hb dX11_redo_25 rfl (lv_at hl 1 rfl) ?_
    refine gf_11_changes hx hb hts in11 hown hK hP (hts (.fieldLink RX11 61 "CoinsOfLast" "changes" "LCoinsOfLast$Changes;") (List.mem_of_getElem? (i := 1) rfl)) dX11_redo_26 ?_
    refine gn_0_what hx hb hts in0 hown hK hP (hsp.1 _ (List.mem_of_getElem? (i := 41) rfl)) dX11_redo_29 ?_
    refine lv_iload_n hx hb dX11_redo_32 rfl (lv_at hl 0 rfl) ?_
    obtain ⟨c_6, hZ⟩ := jx_a_some hZ
    refine X_iald hx hb hK hP wX_27 c_6 dX11_redo_33 ?_
    refine lv_aload_n hx hb dX11_redo_34 rfl (lv_at hl 1 rfl) ?_
    refine gf_11_changes hx hb hts in11 hown hK hP (hts (.fieldLink RX11 61 "CoinsOfLast" "changes" "LCoinsOfLast$Changes;") (List.mem_of_getElem? (i := 1) rfl)) dX11_redo_35 ?_
    refine gn_0_became hx hb hts in0 hown hK hP (hsp.1 _ (List.mem_of_getElem? (i := 43) rfl)) dX11_redo_38 ?_
    refine lv_iload_n hx hb dX11_redo_41 rfl (lv_at hl 0 rfl) ?_
    obtain ⟨c_7, hZ⟩ := jx_a_some hZ
    refine X_iald hx hb hK hP wX_29 c_7 dX11_redo_42 ?_
    obtain ⟨S_8, hc_9, hZ⟩ := jx_b_some hZ
    refine call_Vv SX_ok sameX ⟨hx, hb, hml, hown, hts⟩ (c_X11_tell l D q k (S_1.1 26 (Int32.toNatClampNeg r_3)) (S_1.1 27 (Int32.toNatClampNeg r_3)) (S_1.1 29 (Int32.toNatClampNeg r_3)) S_1 _ S_8  hc_9) (cwV 3 hts gX11_redo_X11_tell rfl rfl rfl hd_X11_tell ⟨Nat.le_of_ble_eq_true rfl, Nat.le_of_ble_eq_true rfl⟩) hK hP hD hS hA hsp (va_recv hK hP (ci := 11) (q0 := 0) rfl wX_0) (As := [.int (S_1.1 26 (Int32.toNatClampNeg r_3)), .int (S_1.1 27 (Int32.toNatClampNeg r_3)), .int (S_1.1 29 (Int32.toNatClampNeg r_3))]) rfl hl.1 rfl (Nat.le_of_ble_eq_true rfl) dX11_redo_43 ⟨Nat.zero_le _, Nat.zero_le _⟩ (fun H locs hP hD hS => ?_)
    refine lv_aload_n hx hb dX11_redo_46 rfl (lv_at hl 1 rfl) ?_
    refine gf_11_changes hx hb hts in11 hown hK hP (hts (.fieldLink RX11 61 "CoinsOfLast" "changes" "LCoinsOfLast$Changes;") (List.mem_of_getElem? (i := 1) rfl)) dX11_redo_47 ?_
    refine gn_0_stored hx hb hts in0 hown hK hP (hsp.1 _ (List.mem_of_getElem? (i := 45) rfl)) dX11_redo_50 ?_
    refine lv_aload_n hx hb dX11_redo_53 rfl (lv_at hl 1 rfl) ?_
    refine gf_11_changes hx hb hts in11 hown hK hP (hts (.fieldLink RX11 61 "CoinsOfLast" "changes" "LCoinsOfLast$Changes;") (List.mem_of_getElem? (i := 1) rfl)) dX11_redo_54 ?_
    refine gn_0_done hx hb hts in0 hown hK hP (hsp.1 _ (List.mem_of_getElem? (i := 44) rfl)) dX11_redo_57 ?_
    refine lv_isub hx hb dX11_redo_60 ?_
    exact leave_i hx hb hr hlocks hP hS hZ dX11_redo_61
  · have hZ := jx_i_neg c_4 hZ
    refine lv_bipush (v := (-5 : Int32)) hx hb dX11_redo_12 (by decide) ?_
    exact leave_i hx hb hr hlocks hP hS hZ dX11_redo_14
theorem hd_X2_add : yX2_add.cls = RX2 ∧ yX2_add.cls ≠ "java/lang/invoke/MethodHandle" ∧ yX2_add.cls ≠ "java/lang/invoke/VarHandle" ∧ (parseMethodDescriptor yX2_add.desc).map (fun d => d.parameters.length) = some 1 := by decide +kernel
-- X11_body
def f_X11_body (x1 : Int32) (S : St) : Option (Int32 × St) :=
  jx_b2 (f_X11_within x1 (0 : Int32) (7 : Int32) S) (fun r_3 S_1 => (if r_3 = 0 then some ((-1 : Int32), S_1) else jx_b2 (f_X2_add x1 S_1) (fun r_7 S_5 => some (r_7, S_5))))
set_option maxHeartbeats 4000000 in
set_option maxRecDepth 100000 in
theorem c_X11_body (l : Launch) (D : va_G) (q : Nat → Nat) (k : CI) (x1 : Int32) (S : St) (sz : Nat) (Z : Int32 × St) (hZ : f_X11_body x1 S = some Z) : MetI W_X SX l yX11_body wsX11_body { frames := 1, cells := 0, slots := 0, locals := 22 } [.ref (q 0), .int x1] D q k S sz Z := by
  refine enter (cc := cX11_body) (maxL := 2) (ret := some .int) (by decide) rfl (Nat.le_of_ble_eq_true rfl) ?_
  intro p e s m below meth c A ls hx hb hr hts hown hlocks hml hP hK hD hA hS hsp hAe hl
  have hown : s.vm.findClass RX11 = some m.cls := hown
  have hl : lv_has ls 2 [(0, .ref (q 0)), (1, .int x1)] := hl
  have in11 : ∀ w ∈ wsX110, w ∈ wsX11_body := fun _ h => (List.mem_cons_of_mem _ (List.mem_append_left _ (List.mem_append_right _ h)))
  unfold f_X11_body at hZ
  refine lv_iload_n hx hb dX11_body_0 rfl (lv_at hl 1 rfl) ?_
  refine lv_iconst (v := (0 : Int32)) hx hb dX11_body_1 (by decide) ?_
  refine lv_bipush (v := (7 : Int32)) hx hb dX11_body_2 (by decide) ?_
  obtain ⟨r_3, S_1, hc_2, hZ⟩ := jx_b2_some hZ
  refine call_Si SX_ok sameX ⟨hx, hb, hml, hown, hts⟩ (c_X11_within l D q k x1 (0 : Int32) (7 : Int32) S _ (r_3, S_1)  hc_2) (va_cwS 3 hts gX11_body_X11_within rfl rfl rfl hd_X11_within ⟨Nat.le_of_ble_eq_true rfl, Nat.le_of_ble_eq_true rfl⟩) hK hP hD hS hA hsp (As := [.int x1, .int (0 : Int32), .int (7 : Int32)]) rfl hl.1 rfl (Nat.le_of_ble_eq_true rfl) dX11_body_4 ⟨Nat.zero_le _, Nat.zero_le _⟩ (fun H locs hP hD hS => ?_)
  refine lv_if_eq (tgt := 21) hx hb dX11_body_7 (by decide) (fun c_4 => ?_) (fun c_4 => ?_)
  · have hZ := jx_i_pos c_4 hZ
    refine lv_iconst (v := (-1 : Int32)) hx hb dX11_body_21 (by decide) ?_
    exact leave_i hx hb hr hlocks hP hS hZ dX11_body_22
  · have hZ := jx_i_neg c_4 hZ
    refine lv_aload_n hx hb dX11_body_10 rfl (lv_at hl 0 rfl) ?_
    refine gf_11_deeds hx hb hts in11 hown hK hP (hts (.fieldLink RX11 75 "CoinsOfLast" "deeds" "LCoinsOfLast$Deeds;") (List.mem_of_getElem? (i := 1) rfl)) dX11_body_11 ?_
    refine lv_iload_n hx hb dX11_body_14 rfl (lv_at hl 1 rfl) ?_
    obtain ⟨r_7, S_5, hc_6, hZ⟩ := jx_b2_some hZ
    refine call_Vi SX_ok sameX ⟨hx, hb, hml, hown, hts⟩ (c_X2_add l D q k x1 S_1 _ (r_7, S_5)  hc_6) (cwV 1 hts gX11_body_X2_add rfl rfl rfl hd_X2_add ⟨Nat.le_of_ble_eq_true rfl, Nat.le_of_ble_eq_true rfl⟩) hK hP hD hS hA hsp (va_recv hK hP (ci := 2) (q0 := 34) rfl wX_34) (As := [.int x1]) rfl hl.1 rfl (Nat.le_of_ble_eq_true rfl) dX11_body_15 ⟨Nat.zero_le _, Nat.zero_le _⟩ (fun H locs hP hD hS => ?_)
    refine lv_goto (tgt := 22) hx hb dX11_body_18 (by decide) ?_
    exact leave_i hx hb hr hlocks hP hS hZ dX11_body_22
theorem hd_X2_begin : yX2_begin.cls = RX2 ∧ yX2_begin.cls ≠ "java/lang/invoke/MethodHandle" ∧ yX2_begin.cls ≠ "java/lang/invoke/VarHandle" ∧ (parseMethodDescriptor yX2_begin.desc).map (fun d => d.parameters.length) = some 3 := by decide +kernel
-- X11_act
def f_X11_act (x1 : Int32) (x2 : Int32) (x3 : Int32) (S : St) : Option (Int32 × St) :=
  jx_b2 (f_X2_begin x1 x2 x3 S) (fun r_3 S_1 => some (r_3, S_1))
set_option maxHeartbeats 4000000 in
set_option maxRecDepth 100000 in
theorem c_X11_act (l : Launch) (D : va_G) (q : Nat → Nat) (k : CI) (x1 : Int32) (x2 : Int32) (x3 : Int32) (S : St) (sz : Nat) (Z : Int32 × St) (hZ : f_X11_act x1 x2 x3 S = some Z) : MetI W_X SX l yX11_act wsX11_act { frames := 184, cells := 0, slots := 0, locals := 4093 } [.ref (q 0), .int x1, .int x2, .int x3] D q k S sz Z := by
  refine enter (cc := cX11_act) (maxL := 4) (ret := some .int) (by decide) rfl (Nat.le_of_ble_eq_true rfl) ?_
  intro p e s m below meth c A ls hx hb hr hts hown hlocks hml hP hK hD hA hS hsp hAe hl
  have hown : s.vm.findClass RX11 = some m.cls := hown
  have hl : lv_has ls 4 [(0, .ref (q 0)), (1, .int x1), (2, .int x2), (3, .int x3)] := hl
  have in11 : ∀ w ∈ wsX110, w ∈ wsX11_act := fun _ h => (List.mem_cons_of_mem _ (List.mem_append_left _ (List.mem_append_right _ h)))
  unfold f_X11_act at hZ
  refine lv_aload_n hx hb dX11_act_0 rfl (lv_at hl 0 rfl) ?_
  refine gf_11_deeds hx hb hts in11 hown hK hP (hts (.fieldLink RX11 75 "CoinsOfLast" "deeds" "LCoinsOfLast$Deeds;") (List.mem_of_getElem? (i := 1) rfl)) dX11_act_1 ?_
  refine lv_iload_n hx hb dX11_act_4 rfl (lv_at hl 1 rfl) ?_
  refine lv_iload_n hx hb dX11_act_5 rfl (lv_at hl 2 rfl) ?_
  refine lv_iload_n hx hb dX11_act_6 rfl (lv_at hl 3 rfl) ?_
  obtain ⟨r_3, S_1, hc_2, hZ⟩ := jx_b2_some hZ
  refine call_Vi SX_ok sameX ⟨hx, hb, hml, hown, hts⟩ (c_X2_begin l D q k x1 x2 x3 S _ (r_3, S_1)  hc_2) (cwV 3 hts gX11_act_X2_begin rfl rfl rfl hd_X2_begin ⟨Nat.le_of_ble_eq_true rfl, Nat.le_of_ble_eq_true rfl⟩) hK hP hD hS hA hsp (va_recv hK hP (ci := 2) (q0 := 34) rfl wX_34) (As := [.int x1, .int x2, .int x3]) rfl hl.1 rfl (Nat.le_of_ble_eq_true rfl) dX11_act_7 ⟨Nat.zero_le _, Nat.zero_le _⟩ (fun H locs hP hD hS => ?_)
  exact leave_i hx hb hr hlocks hP hS hZ dX11_act_10
-- X11_trace
def f_X11_trace (x1 : Int32) (S : St) : Option (Int32 × St) :=
  (if x1 < 0 then some ((-1 : Int32), S) else (if (S.1 34 3) ≤ x1 then some ((-1 : Int32), S) else (if (24 : Int32) ≤ x1 then some ((-1 : Int32), S) else jx_a x1 24 (some ((S.1 36 (Int32.toNatClampNeg x1)), S)))))
set_option maxHeartbeats 4000000 in
set_option maxRecDepth 100000 in
theorem c_X11_trace (l : Launch) (D : va_G) (q : Nat → Nat) (k : CI) (x1 : Int32) (S : St) (sz : Nat) (Z : Int32 × St) (hZ : f_X11_trace x1 S = some Z) : MetI W_X SX l yX11_trace wsX11_trace { frames := 0, cells := 0, slots := 0, locals := 0 } [.ref (q 0), .int x1] D q k S sz Z := by
  refine enter (cc := cX11_trace) (maxL := 2) (ret := some .int) (by decide) rfl (Nat.le_of_ble_eq_true rfl) ?_
  intro p e s m below meth c A ls hx hb hr hts hown hlocks hml hP hK hD hA hS hsp hAe hl
  have hown : s.vm.findClass RX11 = some m.cls := hown
  have hl : lv_has ls 2 [(0, .ref (q 0)), (1, .int x1)] := hl
  have in2 : ∀ w ∈ wsX20, w ∈ wsX11_trace := fun _ h => (List.mem_cons_of_mem _ (List.mem_append_right _ h))
  have in11 : ∀ w ∈ wsX110, w ∈ wsX11_trace := fun _ h => (List.mem_cons_of_mem _ (List.mem_append_left _ (List.mem_append_right _ h)))
  unfold f_X11_trace at hZ
  refine lv_iload_n hx hb dX11_trace_0 rfl (lv_at hl 1 rfl) ?_
  refine lv_if_lt (tgt := 33) hx hb dX11_trace_1 (by decide) (fun c_1 => ?_) (fun c_1 => ?_)
  · have hZ := jx_i_pos c_1 hZ
    refine lv_iconst (v := (-1 : Int32)) hx hb dX11_trace_33 (by decide) ?_
    exact leave_i hx hb hr hlocks hP hS hZ dX11_trace_34
  · have hZ := jx_i_neg c_1 hZ
    refine lv_iload_n hx hb dX11_trace_4 rfl (lv_at hl 1 rfl) ?_
    refine lv_aload_n hx hb dX11_trace_5 rfl (lv_at hl 0 rfl) ?_
    refine gf_11_deeds hx hb hts in11 hown hK hP (hts (.fieldLink RX11 75 "CoinsOfLast" "deeds" "LCoinsOfLast$Deeds;") (List.mem_of_getElem? (i := 1) rfl)) dX11_trace_6 ?_
    refine gn_2_ran hx hb hts in2 hown hK hP (hsp.1 _ (List.mem_of_getElem? (i := 49) rfl)) dX11_trace_9 ?_
    refine lv_icmp_ge (tgt := 33) hx hb dX11_trace_12 (by decide) (fun c_2 => ?_) (fun c_2 => ?_)
    · have hZ := jx_i_pos c_2 hZ
      refine lv_iconst (v := (-1 : Int32)) hx hb dX11_trace_33 (by decide) ?_
      exact leave_i hx hb hr hlocks hP hS hZ dX11_trace_34
    · have hZ := jx_i_neg c_2 hZ
      refine lv_iload_n hx hb dX11_trace_15 rfl (lv_at hl 1 rfl) ?_
      refine lv_bipush (v := (24 : Int32)) hx hb dX11_trace_16 (by decide) ?_
      refine lv_icmp_ge (tgt := 33) hx hb dX11_trace_18 (by decide) (fun c_3 => ?_) (fun c_3 => ?_)
      · have hZ := jx_i_pos c_3 hZ
        refine lv_iconst (v := (-1 : Int32)) hx hb dX11_trace_33 (by decide) ?_
        exact leave_i hx hb hr hlocks hP hS hZ dX11_trace_34
      · have hZ := jx_i_neg c_3 hZ
        refine lv_aload_n hx hb dX11_trace_21 rfl (lv_at hl 0 rfl) ?_
        refine gf_11_deeds hx hb hts in11 hown hK hP (hts (.fieldLink RX11 75 "CoinsOfLast" "deeds" "LCoinsOfLast$Deeds;") (List.mem_of_getElem? (i := 1) rfl)) dX11_trace_22 ?_
        refine gn_2_bodies hx hb hts in2 hown hK hP (hsp.1 _ (List.mem_of_getElem? (i := 47) rfl)) dX11_trace_25 ?_
        refine lv_iload_n hx hb dX11_trace_28 rfl (lv_at hl 1 rfl) ?_
        obtain ⟨c_4, hZ⟩ := jx_a_some hZ
        refine X_iald hx hb hK hP wX_36 c_4 dX11_trace_29 ?_
        refine lv_goto (tgt := 34) hx hb dX11_trace_30 (by decide) ?_
        exact leave_i hx hb hr hlocks hP hS hZ dX11_trace_34
theorem hd_X7_holdDeed : yX7_holdDeed.cls = RX7 ∧ yX7_holdDeed.cls ≠ "java/lang/invoke/MethodHandle" ∧ yX7_holdDeed.cls ≠ "java/lang/invoke/VarHandle" ∧ (parseMethodDescriptor yX7_holdDeed.desc).map (fun d => d.parameters.length) = some 1 := by decide +kernel
-- X11_keep
def f_X11_keep_25 (x1_6 : Int32) (x2_6 : Int32) (S_6 : St) : Option (Int32 × St) :=
  jx_a x1_6 6 (jx_l (Int32.toNatClampNeg x1_6) (fun h_8 => jx_b (f_X7_holdDeed h_8 x2_6 S_6) (fun S_9 => some ((1 : Int32), S_9))))
def f_X11_keep (x1 : Int32) (x2 : Int32) (S : St) : Option (Int32 × St) :=
  jx_b2 (f_X11_isShelf x1 S) (fun r_3 S_1 => (if r_3 = 0 then some ((-1 : Int32), S_1) else (if x2 = (-1 : Int32) then f_X11_keep_25 x1 x2 S_1 else jx_b2 (f_X2_knows x2 S_1) (fun r_14 S_12 => (if r_14 = 0 then some ((-1 : Int32), S_12) else f_X11_keep_25 x1 x2 S_12)))))
set_option maxHeartbeats 4000000 in
set_option maxRecDepth 100000 in
theorem c_X11_keep (l : Launch) (D : va_G) (q : Nat → Nat) (k : CI) (x1 : Int32) (x2 : Int32) (S : St) (sz : Nat) (Z : Int32 × St) (hZ : f_X11_keep x1 x2 S = some Z) : MetI W_X SX l yX11_keep wsX11_keep { frames := 2, cells := 0, slots := 0, locals := 42 } [.ref (q 0), .int x1, .int x2] D q k S sz Z := by
  refine enter (cc := cX11_keep) (maxL := 3) (ret := some .int) (by decide) rfl (Nat.le_of_ble_eq_true rfl) ?_
  intro p e s m below meth c A ls hx hb hr hts hown hlocks hml hP hK hD hA hS hsp hAe hl
  have hown : s.vm.findClass RX11 = some m.cls := hown
  have hl : lv_has ls 3 [(0, .ref (q 0)), (1, .int x1), (2, .int x2)] := hl
  have in11 : ∀ w ∈ wsX110, w ∈ wsX11_keep := fun _ h => (List.mem_cons_of_mem _ (List.mem_append_left _ (List.mem_append_left _ (List.mem_append_right _ h))))
  have j25 : ∀ (x1_6 : Int32) (x2_6 : Int32) (S_6 : St)  (H : Heap) (locs : List Loc) (hZ : f_X11_keep_25 x1_6 x2_6 S_6 = some Z) (hP : va_P D vwCl (W_X q k S_6) H) (hD : va_D A (W_X q k S_6)) (hS : va_S A s.heap H locs) (ls : Array Slot) (hl : lv_has ls 3 [(0, .ref (q 0)), (1, .int x1_6), (2, .int x2_6)]), W p l e ({ frames := 2, cells := 0, slots := 0, locals := 42 } : Room) s m ([.ref (q 0), .int x1, .int x2] : List Value).toArray below meth c H locs 0 0 (MQ below (va_Qi (fun r u => (r, u) = Z) (fun u t => va_P D vwCl (W_X q k u) t.heap) A) ([.ref (q 0), .int x1, .int x2] : List Value).toArray s 0 0 A) (F0 m 25 ls []) := by
    intro x1_6 x2_6 S_6   H locs hZ hP hD hS ls hl
    unfold f_X11_keep_25 at hZ
    refine lv_aload_n hx hb dX11_keep_25 rfl (lv_at hl 0 rfl) ?_
    refine gf_11_shelves hx hb hts in11 hown hK hP (hts (.fieldLink RX11 81 "CoinsOfLast" "shelves" "[LCoinsOfLast$Shelf;") (List.mem_of_getElem? (i := 2) rfl)) dX11_keep_26 ?_
    refine lv_iload_n hx hb dX11_keep_29 rfl (lv_at hl 1 rfl) ?_
    obtain ⟨c_7, hZ⟩ := jx_a_some hZ
    obtain ⟨h_8, e_h_8, hZ⟩ := jx_l_some hZ
    refine X_aald hx hb hK hP c_7 e_h_8 dX11_keep_30 (fun hh_8 => ?_)
    refine lv_iload_n hx hb dX11_keep_31 rfl (lv_at hl 2 rfl) ?_
    obtain ⟨S_9, hc_10, hZ⟩ := jx_b_some hZ
    refine call_Vv SX_ok sameX ⟨hx, hb, hml, hown, hts⟩ (c_X7_holdDeed l D q k h_8 x2_6 S_6 _ S_9 hh_8 hc_10) (cwV 1 hts gX11_keep_X7_holdDeed rfl rfl rfl hd_X7_holdDeed ⟨Nat.le_of_ble_eq_true rfl, Nat.le_of_ble_eq_true rfl⟩) hK hP hD hS hA hsp (va_recv hK hP (ci := 7) (q0 := (48 + 2 * h_8)) rfl (wX_o7 hh_8)) (As := [.int x2_6]) rfl hl.1 rfl (Nat.le_of_ble_eq_true rfl) dX11_keep_32 ⟨Nat.zero_le _, Nat.zero_le _⟩ (fun H locs hP hD hS => ?_)
    refine lv_iconst (v := (1 : Int32)) hx hb dX11_keep_35 (by decide) ?_
    exact leave_i hx hb hr hlocks hP hS hZ dX11_keep_36
  unfold f_X11_keep at hZ
  refine lv_iload_n hx hb dX11_keep_0 rfl (lv_at hl 1 rfl) ?_
  obtain ⟨r_3, S_1, hc_2, hZ⟩ := jx_b2_some hZ
  refine call_Si SX_ok sameX ⟨hx, hb, hml, hown, hts⟩ (c_X11_isShelf l D q k x1 S _ (r_3, S_1)  hc_2) (va_cwS 1 hts gX11_keep_X11_isShelf rfl rfl rfl hd_X11_isShelf ⟨Nat.le_of_ble_eq_true rfl, Nat.le_of_ble_eq_true rfl⟩) hK hP hD hS hA hsp (As := [.int x1]) rfl hl.1 rfl (Nat.le_of_ble_eq_true rfl) dX11_keep_1 ⟨Nat.zero_le _, Nat.zero_le _⟩ (fun H locs hP hD hS => ?_)
  refine lv_if_eq (tgt := 23) hx hb dX11_keep_4 (by decide) (fun c_4 => ?_) (fun c_4 => ?_)
  · have hZ := jx_i_pos c_4 hZ
    refine lv_iconst (v := (-1 : Int32)) hx hb dX11_keep_23 (by decide) ?_
    exact leave_i hx hb hr hlocks hP hS hZ dX11_keep_24
  · have hZ := jx_i_neg c_4 hZ
    refine lv_iload_n hx hb dX11_keep_7 rfl (lv_at hl 2 rfl) ?_
    refine lv_iconst (v := (-1 : Int32)) hx hb dX11_keep_8 (by decide) ?_
    refine lv_icmp_eq (tgt := 25) hx hb dX11_keep_9 (by decide) (fun c_5 => ?_) (fun c_5 => ?_)
    · have hZ := jx_i_pos c_5 hZ
      exact j25 x1 x2 S_1 _ _ hZ hP hD hS _ (lv_sub hl [0, 1, 2] rfl)
    · have hZ := jx_i_neg c_5 hZ
      refine lv_aload_n hx hb dX11_keep_12 rfl (lv_at hl 0 rfl) ?_
      refine gf_11_deeds hx hb hts in11 hown hK hP (hts (.fieldLink RX11 75 "CoinsOfLast" "deeds" "LCoinsOfLast$Deeds;") (List.mem_of_getElem? (i := 1) rfl)) dX11_keep_13 ?_
      refine lv_iload_n hx hb dX11_keep_16 rfl (lv_at hl 2 rfl) ?_
      obtain ⟨r_14, S_12, hc_13, hZ⟩ := jx_b2_some hZ
      refine call_Vi SX_ok sameX ⟨hx, hb, hml, hown, hts⟩ (c_X2_knows l D q k x2 S_1 _ (r_14, S_12)  hc_13) (cwV 1 hts gX11_keep_X2_knows rfl rfl rfl hd_X2_knows ⟨Nat.le_of_ble_eq_true rfl, Nat.le_of_ble_eq_true rfl⟩) hK hP hD hS hA hsp (va_recv hK hP (ci := 2) (q0 := 34) rfl wX_34) (As := [.int x2]) rfl hl.1 rfl (Nat.le_of_ble_eq_true rfl) dX11_keep_17 ⟨Nat.zero_le _, Nat.zero_le _⟩ (fun H locs hP hD hS => ?_)
      refine lv_if_ne (tgt := 25) hx hb dX11_keep_20 (by decide) (fun c_15 => ?_) (fun c_15 => ?_)
      · have hZ := jx_i_neg c_15 hZ
        exact j25 x1 x2 S_12 _ _ hZ hP hD hS _ (lv_sub hl [0, 1, 2] rfl)
      · have hZ := jx_i_pos c_15 hZ
        refine lv_iconst (v := (-1 : Int32)) hx hb dX11_keep_23 (by decide) ?_
        exact leave_i hx hb hr hlocks hP hS hZ dX11_keep_24
theorem hd_X7_holdRow : yX7_holdRow.cls = RX7 ∧ yX7_holdRow.cls ≠ "java/lang/invoke/MethodHandle" ∧ yX7_holdRow.cls ≠ "java/lang/invoke/VarHandle" ∧ (parseMethodDescriptor yX7_holdRow.desc).map (fun d => d.parameters.length) = some 2 := by decide +kernel
-- X11_row
def f_X11_row (x1 : Int32) (x2 : Int32) (x3 : Int32) (S : St) : Option (Int32 × St) :=
  jx_b2 (f_X11_isShelf x1 S) (fun r_3 S_1 => (if r_3 = 0 then some ((-1 : Int32), S_1) else jx_b2 (f_X11_within x2 (0 : Int32) (4 : Int32) S_1) (fun r_7 S_5 => (if r_7 = 0 then some ((-1 : Int32), S_5) else (if x3 ≤ (60 : Int32) then (if 0 ≤ x3 then jx_a x1 6 (jx_l (Int32.toNatClampNeg x1) (fun h_12 => jx_b (f_X7_holdRow h_12 x2 x3 S_5) (fun S_13 => some ((1 : Int32), S_13)))) else some ((-14 : Int32), S_5)) else some ((-1 : Int32), S_5))))))
set_option maxHeartbeats 4000000 in
set_option maxRecDepth 100000 in
theorem c_X11_row (l : Launch) (D : va_G) (q : Nat → Nat) (k : CI) (x1 : Int32) (x2 : Int32) (x3 : Int32) (S : St) (sz : Nat) (Z : Int32 × St) (hZ : f_X11_row x1 x2 x3 S = some Z) : MetI W_X SX l yX11_row wsX11_row { frames := 3, cells := 0, slots := 0, locals := 65 } [.ref (q 0), .int x1, .int x2, .int x3] D q k S sz Z := by
  refine enter (cc := cX11_row) (maxL := 4) (ret := some .int) (by decide) rfl (Nat.le_of_ble_eq_true rfl) ?_
  intro p e s m below meth c A ls hx hb hr hts hown hlocks hml hP hK hD hA hS hsp hAe hl
  have hown : s.vm.findClass RX11 = some m.cls := hown
  have hl : lv_has ls 4 [(0, .ref (q 0)), (1, .int x1), (2, .int x2), (3, .int x3)] := hl
  have in11 : ∀ w ∈ wsX110, w ∈ wsX11_row := fun _ h => (List.mem_cons_of_mem _ (List.mem_append_left _ (List.mem_append_right _ h)))
  unfold f_X11_row at hZ
  refine lv_iload_n hx hb dX11_row_0 rfl (lv_at hl 1 rfl) ?_
  obtain ⟨r_3, S_1, hc_2, hZ⟩ := jx_b2_some hZ
  refine call_Si SX_ok sameX ⟨hx, hb, hml, hown, hts⟩ (c_X11_isShelf l D q k x1 S _ (r_3, S_1)  hc_2) (va_cwS 1 hts gX11_row_X11_isShelf rfl rfl rfl hd_X11_isShelf ⟨Nat.le_of_ble_eq_true rfl, Nat.le_of_ble_eq_true rfl⟩) hK hP hD hS hA hsp (As := [.int x1]) rfl hl.1 rfl (Nat.le_of_ble_eq_true rfl) dX11_row_1 ⟨Nat.zero_le _, Nat.zero_le _⟩ (fun H locs hP hD hS => ?_)
  refine lv_if_eq (tgt := 22) hx hb dX11_row_4 (by decide) (fun c_4 => ?_) (fun c_4 => ?_)
  · have hZ := jx_i_pos c_4 hZ
    refine lv_iconst (v := (-1 : Int32)) hx hb dX11_row_22 (by decide) ?_
    exact leave_i hx hb hr hlocks hP hS hZ dX11_row_23
  · have hZ := jx_i_neg c_4 hZ
    refine lv_iload_n hx hb dX11_row_7 rfl (lv_at hl 2 rfl) ?_
    refine lv_iconst (v := (0 : Int32)) hx hb dX11_row_8 (by decide) ?_
    refine lv_iconst (v := (4 : Int32)) hx hb dX11_row_9 (by decide) ?_
    obtain ⟨r_7, S_5, hc_6, hZ⟩ := jx_b2_some hZ
    refine call_Si SX_ok sameX ⟨hx, hb, hml, hown, hts⟩ (c_X11_within l D q k x2 (0 : Int32) (4 : Int32) S_1 _ (r_7, S_5)  hc_6) (va_cwS 3 hts gX11_row_X11_within rfl rfl rfl hd_X11_within ⟨Nat.le_of_ble_eq_true rfl, Nat.le_of_ble_eq_true rfl⟩) hK hP hD hS hA hsp (As := [.int x2, .int (0 : Int32), .int (4 : Int32)]) rfl hl.1 rfl (Nat.le_of_ble_eq_true rfl) dX11_row_10 ⟨Nat.zero_le _, Nat.zero_le _⟩ (fun H locs hP hD hS => ?_)
    refine lv_if_eq (tgt := 22) hx hb dX11_row_13 (by decide) (fun c_8 => ?_) (fun c_8 => ?_)
    · have hZ := jx_i_pos c_8 hZ
      refine lv_iconst (v := (-1 : Int32)) hx hb dX11_row_22 (by decide) ?_
      exact leave_i hx hb hr hlocks hP hS hZ dX11_row_23
    · have hZ := jx_i_neg c_8 hZ
      refine lv_iload_n hx hb dX11_row_16 rfl (lv_at hl 3 rfl) ?_
      refine lv_bipush (v := (60 : Int32)) hx hb dX11_row_17 (by decide) ?_
      refine lv_icmp_le (tgt := 24) hx hb dX11_row_19 (by decide) (fun c_9 => ?_) (fun c_9 => ?_)
      · have hZ := jx_i_pos c_9 hZ
        refine lv_iload_n hx hb dX11_row_24 rfl (lv_at hl 3 rfl) ?_
        refine lv_if_ge (tgt := 31) hx hb dX11_row_25 (by decide) (fun c_10 => ?_) (fun c_10 => ?_)
        · have hZ := jx_i_pos c_10 hZ
          refine lv_aload_n hx hb dX11_row_31 rfl (lv_at hl 0 rfl) ?_
          refine gf_11_shelves hx hb hts in11 hown hK hP (hts (.fieldLink RX11 81 "CoinsOfLast" "shelves" "[LCoinsOfLast$Shelf;") (List.mem_of_getElem? (i := 1) rfl)) dX11_row_32 ?_
          refine lv_iload_n hx hb dX11_row_35 rfl (lv_at hl 1 rfl) ?_
          obtain ⟨c_11, hZ⟩ := jx_a_some hZ
          obtain ⟨h_12, e_h_12, hZ⟩ := jx_l_some hZ
          refine X_aald hx hb hK hP c_11 e_h_12 dX11_row_36 (fun hh_12 => ?_)
          refine lv_iload_n hx hb dX11_row_37 rfl (lv_at hl 2 rfl) ?_
          refine lv_iload_n hx hb dX11_row_38 rfl (lv_at hl 3 rfl) ?_
          obtain ⟨S_13, hc_14, hZ⟩ := jx_b_some hZ
          refine call_Vv SX_ok sameX ⟨hx, hb, hml, hown, hts⟩ (c_X7_holdRow l D q k h_12 x2 x3 S_5 _ S_13 hh_12 hc_14) (cwV 2 hts gX11_row_X7_holdRow rfl rfl rfl hd_X7_holdRow ⟨Nat.le_of_ble_eq_true rfl, Nat.le_of_ble_eq_true rfl⟩) hK hP hD hS hA hsp (va_recv hK hP (ci := 7) (q0 := (48 + 2 * h_12)) rfl (wX_o7 hh_12)) (As := [.int x2, .int x3]) rfl hl.1 rfl (Nat.le_of_ble_eq_true rfl) dX11_row_39 ⟨Nat.zero_le _, Nat.zero_le _⟩ (fun H locs hP hD hS => ?_)
          refine lv_iconst (v := (1 : Int32)) hx hb dX11_row_42 (by decide) ?_
          exact leave_i hx hb hr hlocks hP hS hZ dX11_row_43
        · have hZ := jx_i_neg c_10 hZ
          refine lv_bipush (v := (-14 : Int32)) hx hb dX11_row_28 (by decide) ?_
          exact leave_i hx hb hr hlocks hP hS hZ dX11_row_30
      · have hZ := jx_i_neg c_9 hZ
        refine lv_iconst (v := (-1 : Int32)) hx hb dX11_row_22 (by decide) ?_
        exact leave_i hx hb hr hlocks hP hS hZ dX11_row_23
-- X11_refusalAt
def f_X11_refusalAt (x1 : Int32) (x2 : Int32) (S : St) : Option (Int32 × St) :=
  jx_b2 (f_X11_isShelf x1 S) (fun r_3 S_1 => (if r_3 = 0 then some ((-1 : Int32), S_1) else jx_a x1 6 (jx_l (Int32.toNatClampNeg x1) (fun h_6 => (if (S_1.1 (48 + 2 * h_6) 1) = 0 then some ((-11 : Int32), S_1) else (if (S_1.1 (48 + 2 * h_6) 1) = (2 : Int32) then jx_b2 (f_X7_spans h_6 x2 (1 : Int32) S_1) (fun r_11 S_9 => (if r_11 = 0 then some ((-13 : Int32), S_9) else some ((0 : Int32), S_9))) else some ((-12 : Int32), S_1)))))))
set_option maxHeartbeats 4000000 in
set_option maxRecDepth 100000 in
theorem c_X11_refusalAt (l : Launch) (D : va_G) (q : Nat → Nat) (k : CI) (x1 : Int32) (x2 : Int32) (S : St) (sz : Nat) (Z : Int32 × St) (hZ : f_X11_refusalAt x1 x2 S = some Z) : MetI W_X SX l yX11_refusalAt wsX11_refusalAt { frames := 2, cells := 0, slots := 0, locals := 42 } [.ref (q 0), .int x1, .int x2] D q k S sz Z := by
  refine enter (cc := cX11_refusalAt) (maxL := 4) (ret := some .int) (by decide) rfl (Nat.le_of_ble_eq_true rfl) ?_
  intro p e s m below meth c A ls hx hb hr hts hown hlocks hml hP hK hD hA hS hsp hAe hl
  have hown : s.vm.findClass RX11 = some m.cls := hown
  have hl : lv_has ls 4 [(0, .ref (q 0)), (1, .int x1), (2, .int x2)] := hl
  have in7 : ∀ w ∈ wsX70, w ∈ wsX11_refusalAt := fun _ h => (List.mem_cons_of_mem _ (List.mem_append_right _ h))
  have in11 : ∀ w ∈ wsX110, w ∈ wsX11_refusalAt := fun _ h => (List.mem_cons_of_mem _ (List.mem_append_left _ (List.mem_append_right _ h)))
  unfold f_X11_refusalAt at hZ
  refine lv_iload_n hx hb dX11_refusalAt_0 rfl (lv_at hl 1 rfl) ?_
  obtain ⟨r_3, S_1, hc_2, hZ⟩ := jx_b2_some hZ
  refine call_Si SX_ok sameX ⟨hx, hb, hml, hown, hts⟩ (c_X11_isShelf l D q k x1 S _ (r_3, S_1)  hc_2) (va_cwS 1 hts gX11_refusalAt_X11_isShelf rfl rfl rfl hd_X11_isShelf ⟨Nat.le_of_ble_eq_true rfl, Nat.le_of_ble_eq_true rfl⟩) hK hP hD hS hA hsp (As := [.int x1]) rfl hl.1 rfl (Nat.le_of_ble_eq_true rfl) dX11_refusalAt_1 ⟨Nat.zero_le _, Nat.zero_le _⟩ (fun H locs hP hD hS => ?_)
  refine lv_if_ne (tgt := 9) hx hb dX11_refusalAt_4 (by decide) (fun c_4 => ?_) (fun c_4 => ?_)
  · have hZ := jx_i_neg c_4 hZ
    refine lv_aload_n hx hb dX11_refusalAt_9 rfl (lv_at hl 0 rfl) ?_
    refine gf_11_shelves hx hb hts in11 hown hK hP (hts (.fieldLink RX11 81 "CoinsOfLast" "shelves" "[LCoinsOfLast$Shelf;") (List.mem_of_getElem? (i := 1) rfl)) dX11_refusalAt_10 ?_
    refine lv_iload_n hx hb dX11_refusalAt_13 rfl (lv_at hl 1 rfl) ?_
    obtain ⟨c_5, hZ⟩ := jx_a_some hZ
    obtain ⟨h_6, e_h_6, hZ⟩ := jx_l_some hZ
    refine X_aald hx hb hK hP c_5 e_h_6 dX11_refusalAt_14 (fun hh_6 => ?_)
    refine lv_astore_n (lv' := [(3, .ref (q (48 + 2 * h_6))), (0, .ref (q 0)), (1, .int x1), (2, .int x2)]) hx hb dX11_refusalAt_15 rfl hl (by decide) rfl (fun ls hl => ?_)
    refine lv_aload_n hx hb dX11_refusalAt_16 rfl (lv_at hl 0 rfl) ?_
    refine gn_7_holds hh_6 hx hb hts in7 hown hK hP (hsp.1 _ (List.mem_of_getElem? (i := 51) rfl)) dX11_refusalAt_17 ?_
    refine lv_if_ne (tgt := 26) hx hb dX11_refusalAt_20 (by decide) (fun c_7 => ?_) (fun c_7 => ?_)
    · have hZ := jx_i_neg c_7 hZ
      refine lv_aload_n hx hb dX11_refusalAt_26 rfl (lv_at hl 0 rfl) ?_
      refine gn_7_holds hh_6 hx hb hts in7 hown hK hP (hsp.1 _ (List.mem_of_getElem? (i := 51) rfl)) dX11_refusalAt_27 ?_
      refine lv_iconst (v := (2 : Int32)) hx hb dX11_refusalAt_30 (by decide) ?_
      refine lv_icmp_eq (tgt := 37) hx hb dX11_refusalAt_31 (by decide) (fun c_8 => ?_) (fun c_8 => ?_)
      · have hZ := jx_i_pos c_8 hZ
        refine lv_aload_n hx hb dX11_refusalAt_37 rfl (lv_at hl 0 rfl) ?_
        refine lv_iload_n hx hb dX11_refusalAt_38 rfl (lv_at hl 3 rfl) ?_
        refine lv_iconst (v := (1 : Int32)) hx hb dX11_refusalAt_39 (by decide) ?_
        obtain ⟨r_11, S_9, hc_10, hZ⟩ := jx_b2_some hZ
        refine call_Vi SX_ok sameX ⟨hx, hb, hml, hown, hts⟩ (c_X7_spans l D q k h_6 x2 (1 : Int32) S_1 _ (r_11, S_9) hh_6 hc_10) (cwV 2 hts gX11_refusalAt_X7_spans rfl rfl rfl hd_X7_spans ⟨Nat.le_of_ble_eq_true rfl, Nat.le_of_ble_eq_true rfl⟩) hK hP hD hS hA hsp (va_recv hK hP (ci := 7) (q0 := (48 + 2 * h_6)) rfl (wX_o7 hh_6)) (As := [.int x2, .int (1 : Int32)]) rfl hl.1 rfl (Nat.le_of_ble_eq_true rfl) dX11_refusalAt_40 ⟨Nat.zero_le _, Nat.zero_le _⟩ (fun H locs hP hD hS => ?_)
        refine lv_if_eq (tgt := 50) hx hb dX11_refusalAt_43 (by decide) (fun c_12 => ?_) (fun c_12 => ?_)
        · have hZ := jx_i_pos c_12 hZ
          refine lv_bipush (v := (-13 : Int32)) hx hb dX11_refusalAt_50 (by decide) ?_
          exact leave_i hx hb hr hlocks hP hS hZ dX11_refusalAt_52
        · have hZ := jx_i_neg c_12 hZ
          refine lv_iconst (v := (0 : Int32)) hx hb dX11_refusalAt_46 (by decide) ?_
          refine lv_goto (tgt := 52) hx hb dX11_refusalAt_47 (by decide) ?_
          exact leave_i hx hb hr hlocks hP hS hZ dX11_refusalAt_52
      · have hZ := jx_i_neg c_8 hZ
        refine lv_bipush (v := (-12 : Int32)) hx hb dX11_refusalAt_34 (by decide) ?_
        exact leave_i hx hb hr hlocks hP hS hZ dX11_refusalAt_36
    · have hZ := jx_i_pos c_7 hZ
      refine lv_bipush (v := (-11 : Int32)) hx hb dX11_refusalAt_23 (by decide) ?_
      exact leave_i hx hb hr hlocks hP hS hZ dX11_refusalAt_25
  · have hZ := jx_i_pos c_4 hZ
    refine lv_iconst (v := (-1 : Int32)) hx hb dX11_refusalAt_7 (by decide) ?_
    exact leave_i hx hb hr hlocks hP hS hZ dX11_refusalAt_8
theorem hd_X11_refusalAt : yX11_refusalAt.cls = RX11 ∧ yX11_refusalAt.cls ≠ "java/lang/invoke/MethodHandle" ∧ yX11_refusalAt.cls ≠ "java/lang/invoke/VarHandle" ∧ (parseMethodDescriptor yX11_refusalAt.desc).map (fun d => d.parameters.length) = some 2 := by decide +kernel
theorem hd_X7_store : yX7_store.cls = RX7 ∧ yX7_store.cls ≠ "java/lang/invoke/MethodHandle" ∧ yX7_store.cls ≠ "java/lang/invoke/VarHandle" ∧ (parseMethodDescriptor yX7_store.desc).map (fun d => d.parameters.length) = some 2 := by decide +kernel
-- X11_put
def f_X11_put (x1 : Int32) (x2 : Int32) (x3 : Int64) (S : St) : Option (Int32 × St) :=
  jx_b2 (f_X11_refusalAt x1 x2 S) (fun r_3 S_1 => (if r_3 = 0 then jx_a x1 6 (jx_l (Int32.toNatClampNeg x1) (fun h_6 => jx_b (f_X7_store h_6 x2 x3 S_1) (fun S_7 => some ((1 : Int32), S_7)))) else some (r_3, S_1)))
set_option maxHeartbeats 4000000 in
set_option maxRecDepth 100000 in
theorem c_X11_put (l : Launch) (D : va_G) (q : Nat → Nat) (k : CI) (x1 : Int32) (x2 : Int32) (x3 : Int64) (S : St) (sz : Nat) (Z : Int32 × St) (hZ : f_X11_put x1 x2 x3 S = some Z) : MetI W_X SX l yX11_put wsX11_put { frames := 3, cells := 0, slots := 0, locals := 65 } [.ref (q 0), .int x1, .int x2, .long x3] D q k S sz Z := by
  refine enter (cc := cX11_put) (maxL := 6) (ret := some .int) (by decide) rfl (Nat.le_of_ble_eq_true rfl) ?_
  intro p e s m below meth c A ls hx hb hr hts hown hlocks hml hP hK hD hA hS hsp hAe hl
  have hown : s.vm.findClass RX11 = some m.cls := hown
  have hl : lv_has ls 6 [(0, .ref (q 0)), (1, .int x1), (2, .int x2), (3, .long x3)] := hl
  have in11 : ∀ w ∈ wsX110, w ∈ wsX11_put := fun _ h => (List.mem_cons_of_mem _ (List.mem_append_left _ (List.mem_append_right _ h)))
  unfold f_X11_put at hZ
  refine lv_aload_n hx hb dX11_put_0 rfl (lv_at hl 0 rfl) ?_
  refine lv_iload_n hx hb dX11_put_1 rfl (lv_at hl 1 rfl) ?_
  refine lv_iload_n hx hb dX11_put_2 rfl (lv_at hl 2 rfl) ?_
  obtain ⟨r_3, S_1, hc_2, hZ⟩ := jx_b2_some hZ
  refine call_Vi SX_ok sameX ⟨hx, hb, hml, hown, hts⟩ (c_X11_refusalAt l D q k x1 x2 S _ (r_3, S_1)  hc_2) (cwV 2 hts gX11_put_X11_refusalAt rfl rfl rfl hd_X11_refusalAt ⟨Nat.le_of_ble_eq_true rfl, Nat.le_of_ble_eq_true rfl⟩) hK hP hD hS hA hsp (va_recv hK hP (ci := 11) (q0 := 0) rfl wX_0) (As := [.int x1, .int x2]) rfl hl.1 rfl (Nat.le_of_ble_eq_true rfl) dX11_put_3 ⟨Nat.zero_le _, Nat.zero_le _⟩ (fun H locs hP hD hS => ?_)
  refine lv_istore (lv' := [(5, .int r_3), (0, .ref (q 0)), (1, .int x1), (2, .int x2), (3, .long x3)]) hx hb dX11_put_6 hl (by decide) rfl (fun ls hl => ?_)
  refine lv_iload hx hb dX11_put_8 (lv_at hl 0 rfl) ?_
  refine lv_if_eq (tgt := 16) hx hb dX11_put_10 (by decide) (fun c_4 => ?_) (fun c_4 => ?_)
  · have hZ := jx_i_pos c_4 hZ
    refine lv_aload_n hx hb dX11_put_16 rfl (lv_at hl 1 rfl) ?_
    refine gf_11_shelves hx hb hts in11 hown hK hP (hts (.fieldLink RX11 81 "CoinsOfLast" "shelves" "[LCoinsOfLast$Shelf;") (List.mem_of_getElem? (i := 1) rfl)) dX11_put_17 ?_
    refine lv_iload_n hx hb dX11_put_20 rfl (lv_at hl 2 rfl) ?_
    obtain ⟨c_5, hZ⟩ := jx_a_some hZ
    obtain ⟨h_6, e_h_6, hZ⟩ := jx_l_some hZ
    refine X_aald hx hb hK hP c_5 e_h_6 dX11_put_21 (fun hh_6 => ?_)
    refine lv_iload_n hx hb dX11_put_22 rfl (lv_at hl 3 rfl) ?_
    refine lv_lload_n hx hb dX11_put_23 rfl (lv_at hl 4 rfl) ?_
    obtain ⟨S_7, hc_8, hZ⟩ := jx_b_some hZ
    refine call_Vv SX_ok sameX ⟨hx, hb, hml, hown, hts⟩ (c_X7_store l D q k h_6 x2 x3 S_1 _ S_7 hh_6 hc_8) (cwV 2 hts gX11_put_X7_store rfl rfl rfl hd_X7_store ⟨Nat.le_of_ble_eq_true rfl, Nat.le_of_ble_eq_true rfl⟩) hK hP hD hS hA hsp (va_recv hK hP (ci := 7) (q0 := (48 + 2 * h_6)) rfl (wX_o7 hh_6)) (As := [.int x2, .long x3]) rfl hl.1 rfl (Nat.le_of_ble_eq_true rfl) dX11_put_24 ⟨Nat.zero_le _, Nat.zero_le _⟩ (fun H locs hP hD hS => ?_)
    refine lv_iconst (v := (1 : Int32)) hx hb dX11_put_27 (by decide) ?_
    exact leave_i hx hb hr hlocks hP hS hZ dX11_put_28
  · have hZ := jx_i_neg c_4 hZ
    refine lv_iload hx hb dX11_put_13 (lv_at hl 0 rfl) ?_
    exact leave_i hx hb hr hlocks hP hS hZ dX11_put_15
-- X11_element
def f_X11_element (x1 : Int32) (x2 : Int32) (S : St) : Option (Int64 × St) :=
  jx_b2 (f_X11_refusalAt x1 x2 S) (fun r_3 S_1 => (if r_3 = 0 then jx_a x1 6 (jx_l (Int32.toNatClampNeg x1) (fun h_6 => jx_a x2 60 (some ((S_1.2 (48 + 2 * h_6 + 1) (Int32.toNatClampNeg x2)), S_1)))) else some ((-9223372036854775808 : Int64), S_1)))
set_option maxHeartbeats 4000000 in
set_option maxRecDepth 100000 in
theorem c_X11_element (l : Launch) (D : va_G) (q : Nat → Nat) (k : CI) (x1 : Int32) (x2 : Int32) (S : St) (sz : Nat) (Z : Int64 × St) (hZ : f_X11_element x1 x2 S = some Z) : MetL W_X SX l yX11_element wsX11_element { frames := 3, cells := 0, slots := 0, locals := 65 } [.ref (q 0), .int x1, .int x2] D q k S sz Z := by
  refine enter (cc := cX11_element) (maxL := 3) (ret := some .long) (by decide) rfl (Nat.le_of_ble_eq_true rfl) ?_
  intro p e s m below meth c A ls hx hb hr hts hown hlocks hml hP hK hD hA hS hsp hAe hl
  have hown : s.vm.findClass RX11 = some m.cls := hown
  have hl : lv_has ls 3 [(0, .ref (q 0)), (1, .int x1), (2, .int x2)] := hl
  have in7 : ∀ w ∈ wsX70, w ∈ wsX11_element := fun _ h => (List.mem_cons_of_mem _ (List.mem_append_right _ h))
  have in11 : ∀ w ∈ wsX110, w ∈ wsX11_element := fun _ h => (List.mem_cons_of_mem _ (List.mem_append_left _ (List.mem_append_right _ h)))
  unfold f_X11_element at hZ
  refine lv_aload_n hx hb dX11_element_0 rfl (lv_at hl 0 rfl) ?_
  refine lv_iload_n hx hb dX11_element_1 rfl (lv_at hl 1 rfl) ?_
  refine lv_iload_n hx hb dX11_element_2 rfl (lv_at hl 2 rfl) ?_
  obtain ⟨r_3, S_1, hc_2, hZ⟩ := jx_b2_some hZ
  refine call_Vi SX_ok sameX ⟨hx, hb, hml, hown, hts⟩ (c_X11_refusalAt l D q k x1 x2 S _ (r_3, S_1)  hc_2) (cwV 2 hts gX11_element_X11_refusalAt rfl rfl rfl hd_X11_refusalAt ⟨Nat.le_of_ble_eq_true rfl, Nat.le_of_ble_eq_true rfl⟩) hK hP hD hS hA hsp (va_recv hK hP (ci := 11) (q0 := 0) rfl wX_0) (As := [.int x1, .int x2]) rfl hl.1 rfl (Nat.le_of_ble_eq_true rfl) dX11_element_3 ⟨Nat.zero_le _, Nat.zero_le _⟩ (fun H locs hP hD hS => ?_)
  refine lv_if_ne (tgt := 23) hx hb dX11_element_6 (by decide) (fun c_4 => ?_) (fun c_4 => ?_)
  · have hZ := jx_i_neg c_4 hZ
    refine lv_ldc2 (v := (-9223372036854775808 : Int64)) hx hb hown (hts (.constantLong RX11 360 (-9223372036854775808)) (List.mem_of_getElem? (i := 2) rfl)) dX11_element_23 ?_
    exact leave_l hx hb hr hlocks hP hS hZ dX11_element_26
  · have hZ := jx_i_pos c_4 hZ
    refine lv_aload_n hx hb dX11_element_9 rfl (lv_at hl 0 rfl) ?_
    refine gf_11_shelves hx hb hts in11 hown hK hP (hts (.fieldLink RX11 81 "CoinsOfLast" "shelves" "[LCoinsOfLast$Shelf;") (List.mem_of_getElem? (i := 1) rfl)) dX11_element_10 ?_
    refine lv_iload_n hx hb dX11_element_13 rfl (lv_at hl 1 rfl) ?_
    obtain ⟨c_5, hZ⟩ := jx_a_some hZ
    obtain ⟨h_6, e_h_6, hZ⟩ := jx_l_some hZ
    refine X_aald hx hb hK hP c_5 e_h_6 dX11_element_14 (fun hh_6 => ?_)
    refine gn_7_cells hh_6 hx hb hts in7 hown hK hP (hsp.1 _ (List.mem_of_getElem? (i := 50) rfl)) dX11_element_15 ?_
    refine lv_iload_n hx hb dX11_element_18 rfl (lv_at hl 2 rfl) ?_
    obtain ⟨c_7, hZ⟩ := jx_a_some hZ
    refine X_lald hx hb hK hP (wX_a7_cells hh_6) c_7 dX11_element_19 ?_
    refine lv_goto (tgt := 26) hx hb dX11_element_20 (by decide) ?_
    exact leave_l hx hb hr hlocks hP hS hZ dX11_element_26
-- X11_shift
def f_X11_shift (x1 : Int32) (x2 : Int32) (x3 : Int32) (x4 : Int32) (x5 : Int32) (S : St) : Option (Int32 × St) :=
  jx_b2 (f_X11_isShelf x1 S) (fun r_3 S_1 => (if r_3 = 0 then some ((-1 : Int32), S_1) else jx_b2 (f_X11_isShelf x3 S_1) (fun r_7 S_5 => (if r_7 = 0 then some ((-1 : Int32), S_5) else jx_a x1 6 (jx_l (Int32.toNatClampNeg x1) (fun h_10 => jx_a x3 6 (jx_l (Int32.toNatClampNeg x3) (fun h_12 => (if (S_5.1 (48 + 2 * h_10) 1) = 0 then some ((-11 : Int32), S_5) else (if (S_5.1 (48 + 2 * h_12) 1) = 0 then some ((-11 : Int32), S_5) else (if (S_5.1 (48 + 2 * h_10) 1) = (2 : Int32) then (if (S_5.1 (48 + 2 * h_12) 1) = (2 : Int32) then (if (S_5.1 (48 + 2 * h_10) 3) = (S_5.1 (48 + 2 * h_12) 3) then jx_b2 (f_X7_spans h_10 x2 x5 S_5) (fun r_20 S_18 => (if r_20 = 0 then some ((-13 : Int32), S_18) else jx_b2 (f_X7_spans h_12 x4 x5 S_18) (fun r_24 S_22 => (if r_24 = 0 then some ((-13 : Int32), S_22) else jx_c x2 x4 x5 60 60 (jx_l (s2 S_22 (48 + 2 * h_12 + 1) (va_cpy (S_22.2 (48 + 2 * h_10 + 1)) (S_22.2 (48 + 2 * h_12 + 1)) (Int32.toNatClampNeg x2) (Int32.toNatClampNeg x4) (Int32.toNatClampNeg x5))) (fun S_27 => some (x5, S_27))))))) else some ((-12 : Int32), S_5)) else some ((-12 : Int32), S_5)) else some ((-12 : Int32), S_5))))))))))))
set_option maxHeartbeats 4000000 in
set_option maxRecDepth 100000 in
theorem c_X11_shift (l : Launch) (D : va_G) (q : Nat → Nat) (k : CI) (x1 : Int32) (x2 : Int32) (x3 : Int32) (x4 : Int32) (x5 : Int32) (S : St) (sz : Nat) (Z : Int32 × St) (hZ : f_X11_shift x1 x2 x3 x4 x5 S = some Z) : MetI W_X SX l yX11_shift wsX11_shift { frames := 2, cells := 0, slots := 0, locals := 48 } [.ref (q 0), .int x1, .int x2, .int x3, .int x4, .int x5] D q k S sz Z := by
  refine enter (cc := cX11_shift) (maxL := 8) (ret := some .int) (by decide) rfl (Nat.le_of_ble_eq_true rfl) ?_
  intro p e s m below meth c A ls hx hb hr hts hown hlocks hml hP hK hD hA hS hsp hAe hl
  have hown : s.vm.findClass RX11 = some m.cls := hown
  have hl : lv_has ls 8 [(0, .ref (q 0)), (1, .int x1), (2, .int x2), (3, .int x3), (4, .int x4), (5, .int x5)] := hl
  have in7 : ∀ w ∈ wsX70, w ∈ wsX11_shift := fun _ h => (List.mem_cons_of_mem _ (List.mem_append_right _ h))
  have in11 : ∀ w ∈ wsX110, w ∈ wsX11_shift := fun _ h => (List.mem_cons_of_mem _ (List.mem_append_left _ (List.mem_append_right _ h)))
  unfold f_X11_shift at hZ
  refine lv_iload_n hx hb dX11_shift_0 rfl (lv_at hl 1 rfl) ?_
  obtain ⟨r_3, S_1, hc_2, hZ⟩ := jx_b2_some hZ
  refine call_Si SX_ok sameX ⟨hx, hb, hml, hown, hts⟩ (c_X11_isShelf l D q k x1 S _ (r_3, S_1)  hc_2) (va_cwS 1 hts gX11_shift_X11_isShelf rfl rfl rfl hd_X11_isShelf ⟨Nat.le_of_ble_eq_true rfl, Nat.le_of_ble_eq_true rfl⟩) hK hP hD hS hA hsp (As := [.int x1]) rfl hl.1 rfl (Nat.le_of_ble_eq_true rfl) dX11_shift_1 ⟨Nat.zero_le _, Nat.zero_le _⟩ (fun H locs hP hD hS => ?_)
  refine lv_if_eq (tgt := 14) hx hb dX11_shift_4 (by decide) (fun c_4 => ?_) (fun c_4 => ?_)
  · have hZ := jx_i_pos c_4 hZ
    refine lv_iconst (v := (-1 : Int32)) hx hb dX11_shift_14 (by decide) ?_
    exact leave_i hx hb hr hlocks hP hS hZ dX11_shift_15
  · have hZ := jx_i_neg c_4 hZ
    refine lv_iload_n hx hb dX11_shift_7 rfl (lv_at hl 3 rfl) ?_
    obtain ⟨r_7, S_5, hc_6, hZ⟩ := jx_b2_some hZ
    refine call_Si SX_ok sameX ⟨hx, hb, hml, hown, hts⟩ (c_X11_isShelf l D q k x3 S_1 _ (r_7, S_5)  hc_6) (va_cwS 1 hts gX11_shift_X11_isShelf rfl rfl rfl hd_X11_isShelf ⟨Nat.le_of_ble_eq_true rfl, Nat.le_of_ble_eq_true rfl⟩) hK hP hD hS hA hsp (As := [.int x3]) rfl hl.1 rfl (Nat.le_of_ble_eq_true rfl) dX11_shift_8 ⟨Nat.zero_le _, Nat.zero_le _⟩ (fun H locs hP hD hS => ?_)
    refine lv_if_ne (tgt := 16) hx hb dX11_shift_11 (by decide) (fun c_8 => ?_) (fun c_8 => ?_)
    · have hZ := jx_i_neg c_8 hZ
      refine lv_aload_n hx hb dX11_shift_16 rfl (lv_at hl 0 rfl) ?_
      refine gf_11_shelves hx hb hts in11 hown hK hP (hts (.fieldLink RX11 81 "CoinsOfLast" "shelves" "[LCoinsOfLast$Shelf;") (List.mem_of_getElem? (i := 1) rfl)) dX11_shift_17 ?_
      refine lv_iload_n hx hb dX11_shift_20 rfl (lv_at hl 1 rfl) ?_
      obtain ⟨c_9, hZ⟩ := jx_a_some hZ
      obtain ⟨h_10, e_h_10, hZ⟩ := jx_l_some hZ
      refine X_aald hx hb hK hP c_9 e_h_10 dX11_shift_21 (fun hh_10 => ?_)
      refine lv_astore (lv' := [(6, .ref (q (48 + 2 * h_10))), (0, .ref (q 0)), (1, .int x1), (2, .int x2), (3, .int x3), (4, .int x4), (5, .int x5)]) hx hb dX11_shift_22 hl (by decide) rfl (fun ls hl => ?_)
      refine lv_aload_n hx hb dX11_shift_24 rfl (lv_at hl 1 rfl) ?_
      refine gf_11_shelves hx hb hts in11 hown hK hP (hts (.fieldLink RX11 81 "CoinsOfLast" "shelves" "[LCoinsOfLast$Shelf;") (List.mem_of_getElem? (i := 1) rfl)) dX11_shift_25 ?_
      refine lv_iload_n hx hb dX11_shift_28 rfl (lv_at hl 4 rfl) ?_
      obtain ⟨c_11, hZ⟩ := jx_a_some hZ
      obtain ⟨h_12, e_h_12, hZ⟩ := jx_l_some hZ
      refine X_aald hx hb hK hP c_11 e_h_12 dX11_shift_29 (fun hh_12 => ?_)
      refine lv_astore (lv' := [(7, .ref (q (48 + 2 * h_12))), (6, .ref (q (48 + 2 * h_10))), (0, .ref (q 0)), (1, .int x1), (2, .int x2), (3, .int x3), (4, .int x4), (5, .int x5)]) hx hb dX11_shift_30 hl (by decide) rfl (fun ls hl => ?_)
      refine lv_aload hx hb dX11_shift_32 (lv_at hl 1 rfl) ?_
      refine gn_7_holds hh_10 hx hb hts in7 hown hK hP (hsp.1 _ (List.mem_of_getElem? (i := 51) rfl)) dX11_shift_34 ?_
      refine lv_if_eq (tgt := 48) hx hb dX11_shift_37 (by decide) (fun c_13 => ?_) (fun c_13 => ?_)
      · have hZ := jx_i_pos c_13 hZ
        refine lv_bipush (v := (-11 : Int32)) hx hb dX11_shift_48 (by decide) ?_
        exact leave_i hx hb hr hlocks hP hS hZ dX11_shift_50
      · have hZ := jx_i_neg c_13 hZ
        refine lv_aload hx hb dX11_shift_40 (lv_at hl 0 rfl) ?_
        refine gn_7_holds hh_12 hx hb hts in7 hown hK hP (hsp.1 _ (List.mem_of_getElem? (i := 51) rfl)) dX11_shift_42 ?_
        refine lv_if_ne (tgt := 51) hx hb dX11_shift_45 (by decide) (fun c_14 => ?_) (fun c_14 => ?_)
        · have hZ := jx_i_neg c_14 hZ
          refine lv_aload hx hb dX11_shift_51 (lv_at hl 1 rfl) ?_
          refine gn_7_holds hh_10 hx hb hts in7 hown hK hP (hsp.1 _ (List.mem_of_getElem? (i := 51) rfl)) dX11_shift_53 ?_
          refine lv_iconst (v := (2 : Int32)) hx hb dX11_shift_56 (by decide) ?_
          refine lv_icmp_ne (tgt := 82) hx hb dX11_shift_57 (by decide) (fun c_15 => ?_) (fun c_15 => ?_)
          · have hZ := jx_i_neg c_15 hZ
            refine lv_bipush (v := (-12 : Int32)) hx hb dX11_shift_82 (by decide) ?_
            exact leave_i hx hb hr hlocks hP hS hZ dX11_shift_84
          · have hZ := jx_i_pos c_15 hZ
            refine lv_aload hx hb dX11_shift_60 (lv_at hl 0 rfl) ?_
            refine gn_7_holds hh_12 hx hb hts in7 hown hK hP (hsp.1 _ (List.mem_of_getElem? (i := 51) rfl)) dX11_shift_62 ?_
            refine lv_iconst (v := (2 : Int32)) hx hb dX11_shift_65 (by decide) ?_
            refine lv_icmp_ne (tgt := 82) hx hb dX11_shift_66 (by decide) (fun c_16 => ?_) (fun c_16 => ?_)
            · have hZ := jx_i_neg c_16 hZ
              refine lv_bipush (v := (-12 : Int32)) hx hb dX11_shift_82 (by decide) ?_
              exact leave_i hx hb hr hlocks hP hS hZ dX11_shift_84
            · have hZ := jx_i_pos c_16 hZ
              refine lv_aload hx hb dX11_shift_69 (lv_at hl 1 rfl) ?_
              refine gn_7_sort hh_10 hx hb hts in7 hown hK hP (hsp.1 _ (List.mem_of_getElem? (i := 53) rfl)) dX11_shift_71 ?_
              refine lv_aload hx hb dX11_shift_74 (lv_at hl 0 rfl) ?_
              refine gn_7_sort hh_12 hx hb hts in7 hown hK hP (hsp.1 _ (List.mem_of_getElem? (i := 53) rfl)) dX11_shift_76 ?_
              refine lv_icmp_eq (tgt := 85) hx hb dX11_shift_79 (by decide) (fun c_17 => ?_) (fun c_17 => ?_)
              · have hZ := jx_i_pos c_17 hZ
                refine lv_aload hx hb dX11_shift_85 (lv_at hl 1 rfl) ?_
                refine lv_iload_n hx hb dX11_shift_87 rfl (lv_at hl 4 rfl) ?_
                refine lv_iload hx hb dX11_shift_88 (lv_at hl 7 rfl) ?_
                obtain ⟨r_20, S_18, hc_19, hZ⟩ := jx_b2_some hZ
                refine call_Vi SX_ok sameX ⟨hx, hb, hml, hown, hts⟩ (c_X7_spans l D q k h_10 x2 x5 S_5 _ (r_20, S_18) hh_10 hc_19) (cwV 2 hts gX11_shift_X7_spans rfl rfl rfl hd_X7_spans ⟨Nat.le_of_ble_eq_true rfl, Nat.le_of_ble_eq_true rfl⟩) hK hP hD hS hA hsp (va_recv hK hP (ci := 7) (q0 := (48 + 2 * h_10)) rfl (wX_o7 hh_10)) (As := [.int x2, .int x5]) rfl hl.1 rfl (Nat.le_of_ble_eq_true rfl) dX11_shift_90 ⟨Nat.zero_le _, Nat.zero_le _⟩ (fun H locs hP hD hS => ?_)
                refine lv_if_eq (tgt := 108) hx hb dX11_shift_93 (by decide) (fun c_21 => ?_) (fun c_21 => ?_)
                · have hZ := jx_i_pos c_21 hZ
                  refine lv_bipush (v := (-13 : Int32)) hx hb dX11_shift_108 (by decide) ?_
                  exact leave_i hx hb hr hlocks hP hS hZ dX11_shift_110
                · have hZ := jx_i_neg c_21 hZ
                  refine lv_aload hx hb dX11_shift_96 (lv_at hl 0 rfl) ?_
                  refine lv_iload hx hb dX11_shift_98 (lv_at hl 6 rfl) ?_
                  refine lv_iload hx hb dX11_shift_100 (lv_at hl 7 rfl) ?_
                  obtain ⟨r_24, S_22, hc_23, hZ⟩ := jx_b2_some hZ
                  refine call_Vi SX_ok sameX ⟨hx, hb, hml, hown, hts⟩ (c_X7_spans l D q k h_12 x4 x5 S_18 _ (r_24, S_22) hh_12 hc_23) (cwV 2 hts gX11_shift_X7_spans rfl rfl rfl hd_X7_spans ⟨Nat.le_of_ble_eq_true rfl, Nat.le_of_ble_eq_true rfl⟩) hK hP hD hS hA hsp (va_recv hK hP (ci := 7) (q0 := (48 + 2 * h_12)) rfl (wX_o7 hh_12)) (As := [.int x4, .int x5]) rfl hl.1 rfl (Nat.le_of_ble_eq_true rfl) dX11_shift_102 ⟨Nat.zero_le _, Nat.zero_le _⟩ (fun H locs hP hD hS => ?_)
                  refine lv_if_ne (tgt := 111) hx hb dX11_shift_105 (by decide) (fun c_25 => ?_) (fun c_25 => ?_)
                  · have hZ := jx_i_neg c_25 hZ
                    refine lv_aload hx hb dX11_shift_111 (lv_at hl 1 rfl) ?_
                    refine gn_7_cells hh_10 hx hb hts in7 hown hK hP (hsp.1 _ (List.mem_of_getElem? (i := 50) rfl)) dX11_shift_113 ?_
                    refine lv_iload_n hx hb dX11_shift_116 rfl (lv_at hl 4 rfl) ?_
                    refine lv_aload hx hb dX11_shift_117 (lv_at hl 0 rfl) ?_
                    refine gn_7_cells hh_12 hx hb hts in7 hown hK hP (hsp.1 _ (List.mem_of_getElem? (i := 50) rfl)) dX11_shift_119 ?_
                    refine lv_iload hx hb dX11_shift_122 (lv_at hl 6 rfl) ?_
                    refine lv_iload hx hb dX11_shift_124 (lv_at hl 7 rfl) ?_
                    obtain ⟨c_26, hZ⟩ := jx_c_some hZ
                    obtain ⟨S_27, e_S_27, hZ⟩ := jx_l_some hZ
                    refine X_copyl hx hb (hml.trans hl.1.symm) hown (hts _ (List.mem_of_getElem? (i := 2) rfl)) (hts _ (List.mem_of_getElem? (i := 3) rfl)) (hts _ (List.mem_of_getElem? (i := 4) rfl)) (hts _ (List.mem_of_getElem? (i := 5) rfl)) hK hP hD hS (wX_a7_cells hh_10) (wX_a7_cells hh_12) (fun _ => wXs_a7_cells hh_12) c_26 e_S_27 (Nat.le_of_ble_eq_true rfl) (Nat.le_of_ble_eq_true rfl) dX11_shift_126 (fun H locs hP hD hS => ?_)
                    refine lv_iload hx hb dX11_shift_129 (lv_at hl 7 rfl) ?_
                    exact leave_i hx hb hr hlocks hP hS hZ dX11_shift_131
                  · have hZ := jx_i_pos c_25 hZ
                    refine lv_bipush (v := (-13 : Int32)) hx hb dX11_shift_108 (by decide) ?_
                    exact leave_i hx hb hr hlocks hP hS hZ dX11_shift_110
              · have hZ := jx_i_neg c_17 hZ
                refine lv_bipush (v := (-12 : Int32)) hx hb dX11_shift_82 (by decide) ?_
                exact leave_i hx hb hr hlocks hP hS hZ dX11_shift_84
        · have hZ := jx_i_pos c_14 hZ
          refine lv_bipush (v := (-11 : Int32)) hx hb dX11_shift_48 (by decide) ?_
          exact leave_i hx hb hr hlocks hP hS hZ dX11_shift_50
    · have hZ := jx_i_pos c_8 hZ
      refine lv_iconst (v := (-1 : Int32)) hx hb dX11_shift_14 (by decide) ?_
      exact leave_i hx hb hr hlocks hP hS hZ dX11_shift_15
theorem hd_X2_isUnder : yX2_isUnder.cls ≠ "java/lang/invoke/MethodHandle" ∧ yX2_isUnder.cls ≠ "java/lang/invoke/VarHandle" ∧ (parseMethodDescriptor yX2_isUnder.desc).map (fun d => d.parameters.length) = some 2 := by decide +kernel
-- X11_taken
def f_X11_taken (x1 : Int32) (x2 : Int32) (S : St) : Option (Int32 × St) :=
  jx_b2 (f_X11_isShelf x1 S) (fun r_3 S_1 => (if r_3 = 0 then some ((-1 : Int32), S_1) else jx_b2 (f_X11_within x2 (0 : Int32) (7 : Int32) S_1) (fun r_7 S_5 => (if r_7 = 0 then some ((-1 : Int32), S_5) else jx_a x1 6 (jx_l (Int32.toNatClampNeg x1) (fun h_10 => (if (S_5.1 (48 + 2 * h_10) 1) = 0 then some ((-11 : Int32), S_5) else (if (S_5.1 (48 + 2 * h_10) 1) = (1 : Int32) then jx_b2 (f_X2_kindOf (S_5.1 (48 + 2 * h_10) 2) S_5) (fun r_15 S_13 => jx_b2 (f_X2_isUnder r_15 x2 S_13) (fun r_18 S_16 => (if r_18 = 0 then some ((-12 : Int32), S_16) else some (r_15, S_16)))) else some ((-12 : Int32), S_5)))))))))
set_option maxHeartbeats 4000000 in
set_option maxRecDepth 100000 in
theorem c_X11_taken (l : Launch) (D : va_G) (q : Nat → Nat) (k : CI) (x1 : Int32) (x2 : Int32) (S : St) (sz : Nat) (Z : Int32 × St) (hZ : f_X11_taken x1 x2 S = some Z) : MetI W_X SX l yX11_taken wsX11_taken { frames := 2, cells := 0, slots := 0, locals := 42 } [.ref (q 0), .int x1, .int x2] D q k S sz Z := by
  refine enter (cc := cX11_taken) (maxL := 5) (ret := some .int) (by decide) rfl (Nat.le_of_ble_eq_true rfl) ?_
  intro p e s m below meth c A ls hx hb hr hts hown hlocks hml hP hK hD hA hS hsp hAe hl
  have hown : s.vm.findClass RX11 = some m.cls := hown
  have hl : lv_has ls 5 [(0, .ref (q 0)), (1, .int x1), (2, .int x2)] := hl
  have in7 : ∀ w ∈ wsX70, w ∈ wsX11_taken := fun _ h => (List.mem_cons_of_mem _ (List.mem_append_left _ (List.mem_append_right _ h)))
  have in11 : ∀ w ∈ wsX110, w ∈ wsX11_taken := fun _ h => (List.mem_cons_of_mem _ (List.mem_append_left _ (List.mem_append_left _ (List.mem_append_right _ h))))
  unfold f_X11_taken at hZ
  refine lv_iload_n hx hb dX11_taken_0 rfl (lv_at hl 1 rfl) ?_
  obtain ⟨r_3, S_1, hc_2, hZ⟩ := jx_b2_some hZ
  refine call_Si SX_ok sameX ⟨hx, hb, hml, hown, hts⟩ (c_X11_isShelf l D q k x1 S _ (r_3, S_1)  hc_2) (va_cwS 1 hts gX11_taken_X11_isShelf rfl rfl rfl hd_X11_isShelf ⟨Nat.le_of_ble_eq_true rfl, Nat.le_of_ble_eq_true rfl⟩) hK hP hD hS hA hsp (As := [.int x1]) rfl hl.1 rfl (Nat.le_of_ble_eq_true rfl) dX11_taken_1 ⟨Nat.zero_le _, Nat.zero_le _⟩ (fun H locs hP hD hS => ?_)
  refine lv_if_eq (tgt := 17) hx hb dX11_taken_4 (by decide) (fun c_4 => ?_) (fun c_4 => ?_)
  · have hZ := jx_i_pos c_4 hZ
    refine lv_iconst (v := (-1 : Int32)) hx hb dX11_taken_17 (by decide) ?_
    exact leave_i hx hb hr hlocks hP hS hZ dX11_taken_18
  · have hZ := jx_i_neg c_4 hZ
    refine lv_iload_n hx hb dX11_taken_7 rfl (lv_at hl 2 rfl) ?_
    refine lv_iconst (v := (0 : Int32)) hx hb dX11_taken_8 (by decide) ?_
    refine lv_bipush (v := (7 : Int32)) hx hb dX11_taken_9 (by decide) ?_
    obtain ⟨r_7, S_5, hc_6, hZ⟩ := jx_b2_some hZ
    refine call_Si SX_ok sameX ⟨hx, hb, hml, hown, hts⟩ (c_X11_within l D q k x2 (0 : Int32) (7 : Int32) S_1 _ (r_7, S_5)  hc_6) (va_cwS 3 hts gX11_taken_X11_within rfl rfl rfl hd_X11_within ⟨Nat.le_of_ble_eq_true rfl, Nat.le_of_ble_eq_true rfl⟩) hK hP hD hS hA hsp (As := [.int x2, .int (0 : Int32), .int (7 : Int32)]) rfl hl.1 rfl (Nat.le_of_ble_eq_true rfl) dX11_taken_11 ⟨Nat.zero_le _, Nat.zero_le _⟩ (fun H locs hP hD hS => ?_)
    refine lv_if_ne (tgt := 19) hx hb dX11_taken_14 (by decide) (fun c_8 => ?_) (fun c_8 => ?_)
    · have hZ := jx_i_neg c_8 hZ
      refine lv_aload_n hx hb dX11_taken_19 rfl (lv_at hl 0 rfl) ?_
      refine gf_11_shelves hx hb hts in11 hown hK hP (hts (.fieldLink RX11 81 "CoinsOfLast" "shelves" "[LCoinsOfLast$Shelf;") (List.mem_of_getElem? (i := 1) rfl)) dX11_taken_20 ?_
      refine lv_iload_n hx hb dX11_taken_23 rfl (lv_at hl 1 rfl) ?_
      obtain ⟨c_9, hZ⟩ := jx_a_some hZ
      obtain ⟨h_10, e_h_10, hZ⟩ := jx_l_some hZ
      refine X_aald hx hb hK hP c_9 e_h_10 dX11_taken_24 (fun hh_10 => ?_)
      refine lv_astore_n (lv' := [(3, .ref (q (48 + 2 * h_10))), (0, .ref (q 0)), (1, .int x1), (2, .int x2)]) hx hb dX11_taken_25 rfl hl (by decide) rfl (fun ls hl => ?_)
      refine lv_aload_n hx hb dX11_taken_26 rfl (lv_at hl 0 rfl) ?_
      refine gn_7_holds hh_10 hx hb hts in7 hown hK hP (hsp.1 _ (List.mem_of_getElem? (i := 51) rfl)) dX11_taken_27 ?_
      refine lv_if_ne (tgt := 36) hx hb dX11_taken_30 (by decide) (fun c_11 => ?_) (fun c_11 => ?_)
      · have hZ := jx_i_neg c_11 hZ
        refine lv_aload_n hx hb dX11_taken_36 rfl (lv_at hl 0 rfl) ?_
        refine gn_7_holds hh_10 hx hb hts in7 hown hK hP (hsp.1 _ (List.mem_of_getElem? (i := 51) rfl)) dX11_taken_37 ?_
        refine lv_iconst (v := (1 : Int32)) hx hb dX11_taken_40 (by decide) ?_
        refine lv_icmp_eq (tgt := 47) hx hb dX11_taken_41 (by decide) (fun c_12 => ?_) (fun c_12 => ?_)
        · have hZ := jx_i_pos c_12 hZ
          refine lv_aload_n hx hb dX11_taken_47 rfl (lv_at hl 1 rfl) ?_
          refine gf_11_deeds hx hb hts in11 hown hK hP (hts (.fieldLink RX11 75 "CoinsOfLast" "deeds" "LCoinsOfLast$Deeds;") (List.mem_of_getElem? (i := 2) rfl)) dX11_taken_48 ?_
          refine lv_aload_n hx hb dX11_taken_51 rfl (lv_at hl 0 rfl) ?_
          refine gn_7_deed hh_10 hx hb hts in7 hown hK hP (hsp.1 _ (List.mem_of_getElem? (i := 52) rfl)) dX11_taken_52 ?_
          obtain ⟨r_15, S_13, hc_14, hZ⟩ := jx_b2_some hZ
          refine call_Vi SX_ok sameX ⟨hx, hb, hml, hown, hts⟩ (c_X2_kindOf l D q k (S_5.1 (48 + 2 * h_10) 2) S_5 _ (r_15, S_13)  hc_14) (cwV 1 hts gX11_taken_X2_kindOf rfl rfl rfl hd_X2_kindOf ⟨Nat.le_of_ble_eq_true rfl, Nat.le_of_ble_eq_true rfl⟩) hK hP hD hS hA hsp (va_recv hK hP (ci := 2) (q0 := 34) rfl wX_34) (As := [.int (S_5.1 (48 + 2 * h_10) 2)]) rfl hl.1 rfl (Nat.le_of_ble_eq_true rfl) dX11_taken_55 ⟨Nat.zero_le _, Nat.zero_le _⟩ (fun H locs hP hD hS => ?_)
          refine lv_istore (lv' := [(4, .int r_15), (3, .ref (q (48 + 2 * h_10))), (0, .ref (q 0)), (1, .int x1), (2, .int x2)]) hx hb dX11_taken_58 hl (by decide) rfl (fun ls hl => ?_)
          refine lv_iload hx hb dX11_taken_60 (lv_at hl 0 rfl) ?_
          refine lv_iload_n hx hb dX11_taken_62 rfl (lv_at hl 4 rfl) ?_
          obtain ⟨r_18, S_16, hc_17, hZ⟩ := jx_b2_some hZ
          refine call_Si SX_ok sameX ⟨hx, hb, hml, hown, hts⟩ (c_X2_isUnder l D q k r_15 x2 S_13 _ (r_18, S_16)  hc_17) (va_cwS 2 hts gX11_taken_X2_isUnder rfl rfl rfl hd_X2_isUnder ⟨Nat.le_of_ble_eq_true rfl, Nat.le_of_ble_eq_true rfl⟩) hK hP hD hS hA hsp (As := [.int r_15, .int x2]) rfl hl.1 rfl (Nat.le_of_ble_eq_true rfl) dX11_taken_63 ⟨Nat.zero_le _, Nat.zero_le _⟩ (fun H locs hP hD hS => ?_)
          refine lv_if_eq (tgt := 74) hx hb dX11_taken_66 (by decide) (fun c_19 => ?_) (fun c_19 => ?_)
          · have hZ := jx_i_pos c_19 hZ
            refine lv_bipush (v := (-12 : Int32)) hx hb dX11_taken_74 (by decide) ?_
            exact leave_i hx hb hr hlocks hP hS hZ dX11_taken_76
          · have hZ := jx_i_neg c_19 hZ
            refine lv_iload hx hb dX11_taken_69 (lv_at hl 0 rfl) ?_
            refine lv_goto (tgt := 76) hx hb dX11_taken_71 (by decide) ?_
            exact leave_i hx hb hr hlocks hP hS hZ dX11_taken_76
        · have hZ := jx_i_neg c_12 hZ
          refine lv_bipush (v := (-12 : Int32)) hx hb dX11_taken_44 (by decide) ?_
          exact leave_i hx hb hr hlocks hP hS hZ dX11_taken_46
      · have hZ := jx_i_pos c_11 hZ
        refine lv_bipush (v := (-11 : Int32)) hx hb dX11_taken_33 (by decide) ?_
        exact leave_i hx hb hr hlocks hP hS hZ dX11_taken_35
    · have hZ := jx_i_pos c_8 hZ
      refine lv_iconst (v := (-1 : Int32)) hx hb dX11_taken_17 (by decide) ?_
      exact leave_i hx hb hr hlocks hP hS hZ dX11_taken_18
theorem hd_X1_heldInAll : yX1_heldInAll.cls = RX1 ∧ yX1_heldInAll.cls ≠ "java/lang/invoke/MethodHandle" ∧ yX1_heldInAll.cls ≠ "java/lang/invoke/VarHandle" ∧ (parseMethodDescriptor yX1_heldInAll.desc).map (fun d => d.parameters.length) = some 0 := by decide +kernel
-- X11_count
def f_X11_count (x1 : Int32) (S : St) : Option (Int32 × St) :=
  (if x1 = (0 : Int32) then some ((S.1 1 5), S) else if x1 = (1 : Int32) then some ((S.1 7 4), S) else if x1 = (2 : Int32) then jx_b2 (f_X1_heldInAll S) (fun r_6 S_4 => some (r_6, S_4)) else if x1 = (3 : Int32) then some ((S.1 18 2), S) else if x1 = (4 : Int32) then some ((S.1 25 4), S) else if x1 = (5 : Int32) then some ((S.1 34 2), S) else if x1 = (6 : Int32) then some ((S.1 34 3), S) else some ((-1 : Int32), S))
set_option maxHeartbeats 4000000 in
set_option maxRecDepth 100000 in
theorem c_X11_count (l : Launch) (D : va_G) (q : Nat → Nat) (k : CI) (x1 : Int32) (S : St) (sz : Nat) (Z : Int32 × St) (hZ : f_X11_count x1 S = some Z) : MetI W_X SX l yX11_count wsX11_count { frames := 1, cells := 0, slots := 0, locals := 22 } [.ref (q 0), .int x1] D q k S sz Z := by
  refine enter (cc := cX11_count) (maxL := 2) (ret := some .int) (by decide) rfl (Nat.le_of_ble_eq_true rfl) ?_
  intro p e s m below meth c A ls hx hb hr hts hown hlocks hml hP hK hD hA hS hsp hAe hl
  have hown : s.vm.findClass RX11 = some m.cls := hown
  have hl : lv_has ls 2 [(0, .ref (q 0)), (1, .int x1)] := hl
  have in0 : ∀ w ∈ wsX00, w ∈ wsX11_count := fun _ h => (List.mem_cons_of_mem _ (List.mem_append_left _ (List.mem_append_right _ h)))
  have in1 : ∀ w ∈ wsX10, w ∈ wsX11_count := fun _ h => (List.mem_cons_of_mem _ (List.mem_append_left _ (List.mem_append_left _ (List.mem_append_left _ (List.mem_append_left _ (List.mem_append_right _ h))))))
  have in2 : ∀ w ∈ wsX20, w ∈ wsX11_count := fun _ h => (List.mem_cons_of_mem _ (List.mem_append_right _ h))
  have in6 : ∀ w ∈ wsX60, w ∈ wsX11_count := fun _ h => (List.mem_cons_of_mem _ (List.mem_append_left _ (List.mem_append_left _ (List.mem_append_right _ h))))
  have in9 : ∀ w ∈ wsX90, w ∈ wsX11_count := fun _ h => (List.mem_cons_of_mem _ (List.mem_append_left _ (List.mem_append_left _ (List.mem_append_left _ (List.mem_append_right _ h)))))
  have in11 : ∀ w ∈ wsX110, w ∈ wsX11_count := fun _ h => (List.mem_cons_of_mem _ (List.mem_append_left _ (List.mem_append_left _ (List.mem_append_left _ (List.mem_append_left _ (List.mem_append_left _ (List.mem_append_right _ h)))))))
  unfold f_X11_count at hZ
  refine lv_iload_n hx hb dX11_count_0 rfl (lv_at hl 1 rfl) ?_
  by_cases c_1 : x1 = (0 : Int32)
  · have hZ := jx_i_pos c_1 hZ
    refine lv_tableIn (tgt := 44) hx hb dX11_count_1 (by rw [c_1]; decide) (by rw [c_1]; decide) (by rw [c_1]; rfl) (by decide) ?_
    refine lv_aload_n hx hb dX11_count_44 rfl (lv_at hl 0 rfl) ?_
    refine gf_11_coins hx hb hts in11 hown hK hP (hts (.fieldLink RX11 12 "CoinsOfLast" "coins" "LCoinsOfLast$Coins;") (List.mem_of_getElem? (i := 1) rfl)) dX11_count_45 ?_
    refine gn_1_known hx hb hts in1 hown hK hP (hsp.1 _ (List.mem_of_getElem? (i := 15) rfl)) dX11_count_48 ?_
    exact leave_i hx hb hr hlocks hP hS hZ dX11_count_51
  have hZ := jx_i_neg c_1 hZ
  by_cases c_2 : x1 = (1 : Int32)
  · have hZ := jx_i_pos c_2 hZ
    refine lv_tableIn (tgt := 52) hx hb dX11_count_1 (by rw [c_2]; decide) (by rw [c_2]; decide) (by rw [c_2]; rfl) (by decide) ?_
    refine lv_aload_n hx hb dX11_count_52 rfl (lv_at hl 0 rfl) ?_
    refine gf_11_things hx hb hts in11 hown hK hP (hts (.fieldLink RX11 19 "CoinsOfLast" "things" "LCoinsOfLast$Things;") (List.mem_of_getElem? (i := 2) rfl)) dX11_count_53 ?_
    refine gn_9_known hx hb hts in9 hown hK hP (hsp.1 _ (List.mem_of_getElem? (i := 26) rfl)) dX11_count_56 ?_
    exact leave_i hx hb hr hlocks hP hS hZ dX11_count_59
  have hZ := jx_i_neg c_2 hZ
  by_cases c_3 : x1 = (2 : Int32)
  · have hZ := jx_i_pos c_3 hZ
    refine lv_tableIn (tgt := 60) hx hb dX11_count_1 (by rw [c_3]; decide) (by rw [c_3]; decide) (by rw [c_3]; rfl) (by decide) ?_
    refine lv_aload_n hx hb dX11_count_60 rfl (lv_at hl 0 rfl) ?_
    refine gf_11_coins hx hb hts in11 hown hK hP (hts (.fieldLink RX11 12 "CoinsOfLast" "coins" "LCoinsOfLast$Coins;") (List.mem_of_getElem? (i := 1) rfl)) dX11_count_61 ?_
    obtain ⟨r_6, S_4, hc_5, hZ⟩ := jx_b2_some hZ
    refine call_Vi SX_ok sameX ⟨hx, hb, hml, hown, hts⟩ (c_X1_heldInAll l D q k  S _ (r_6, S_4)  hc_5) (cwV 0 hts gX11_count_X1_heldInAll rfl rfl rfl hd_X1_heldInAll ⟨Nat.le_of_ble_eq_true rfl, Nat.le_of_ble_eq_true rfl⟩) hK hP hD hS hA hsp (va_recv hK hP (ci := 1) (q0 := 1) rfl wX_1) (As := []) rfl hl.1 rfl (Nat.le_of_ble_eq_true rfl) dX11_count_64 ⟨Nat.zero_le _, Nat.zero_le _⟩ (fun H locs hP hD hS => ?_)
    exact leave_i hx hb hr hlocks hP hS hZ dX11_count_67
  have hZ := jx_i_neg c_3 hZ
  by_cases c_7 : x1 = (3 : Int32)
  · have hZ := jx_i_pos c_7 hZ
    refine lv_tableIn (tgt := 68) hx hb dX11_count_1 (by rw [c_7]; decide) (by rw [c_7]; decide) (by rw [c_7]; rfl) (by decide) ?_
    refine lv_aload_n hx hb dX11_count_68 rfl (lv_at hl 0 rfl) ?_
    refine gf_11_reader hx hb hts in11 hown hK hP (hts (.fieldLink RX11 33 "CoinsOfLast" "reader" "LCoinsOfLast$Reader;") (List.mem_of_getElem? (i := 3) rfl)) dX11_count_69 ?_
    refine gn_6_length hx hb hts in6 hown hK hP (hsp.1 _ (List.mem_of_getElem? (i := 31) rfl)) dX11_count_72 ?_
    exact leave_i hx hb hr hlocks hP hS hZ dX11_count_75
  have hZ := jx_i_neg c_7 hZ
  by_cases c_8 : x1 = (4 : Int32)
  · have hZ := jx_i_pos c_8 hZ
    refine lv_tableIn (tgt := 76) hx hb dX11_count_1 (by rw [c_8]; decide) (by rw [c_8]; decide) (by rw [c_8]; rfl) (by decide) ?_
    refine lv_aload_n hx hb dX11_count_76 rfl (lv_at hl 0 rfl) ?_
    refine gf_11_changes hx hb hts in11 hown hK hP (hts (.fieldLink RX11 61 "CoinsOfLast" "changes" "LCoinsOfLast$Changes;") (List.mem_of_getElem? (i := 4) rfl)) dX11_count_77 ?_
    refine gn_0_done hx hb hts in0 hown hK hP (hsp.1 _ (List.mem_of_getElem? (i := 44) rfl)) dX11_count_80 ?_
    exact leave_i hx hb hr hlocks hP hS hZ dX11_count_83
  have hZ := jx_i_neg c_8 hZ
  by_cases c_9 : x1 = (5 : Int32)
  · have hZ := jx_i_pos c_9 hZ
    refine lv_tableIn (tgt := 84) hx hb dX11_count_1 (by rw [c_9]; decide) (by rw [c_9]; decide) (by rw [c_9]; rfl) (by decide) ?_
    refine lv_aload_n hx hb dX11_count_84 rfl (lv_at hl 0 rfl) ?_
    refine gf_11_deeds hx hb hts in11 hown hK hP (hts (.fieldLink RX11 75 "CoinsOfLast" "deeds" "LCoinsOfLast$Deeds;") (List.mem_of_getElem? (i := 5) rfl)) dX11_count_85 ?_
    refine gn_2_known hx hb hts in2 hown hK hP (hsp.1 _ (List.mem_of_getElem? (i := 48) rfl)) dX11_count_88 ?_
    exact leave_i hx hb hr hlocks hP hS hZ dX11_count_91
  have hZ := jx_i_neg c_9 hZ
  by_cases c_10 : x1 = (6 : Int32)
  · have hZ := jx_i_pos c_10 hZ
    refine lv_tableIn (tgt := 92) hx hb dX11_count_1 (by rw [c_10]; decide) (by rw [c_10]; decide) (by rw [c_10]; rfl) (by decide) ?_
    refine lv_aload_n hx hb dX11_count_92 rfl (lv_at hl 0 rfl) ?_
    refine gf_11_deeds hx hb hts in11 hown hK hP (hts (.fieldLink RX11 75 "CoinsOfLast" "deeds" "LCoinsOfLast$Deeds;") (List.mem_of_getElem? (i := 5) rfl)) dX11_count_93 ?_
    refine gn_2_ran hx hb hts in2 hown hK hP (hsp.1 _ (List.mem_of_getElem? (i := 49) rfl)) dX11_count_96 ?_
    exact leave_i hx hb hr hlocks hP hS hZ dX11_count_99
  have hZ := jx_i_neg c_10 hZ
  refine lv_tableD (tgt := 100) hx hb dX11_count_1 ?_ (by decide) ?_
  · have t_0 : ¬ Int32.toInt x1 = 0 := lv_neT c_1 rfl
    have t_1 : ¬ Int32.toInt x1 = 1 := lv_neT c_2 rfl
    have t_2 : ¬ Int32.toInt x1 = 2 := lv_neT c_3 rfl
    have t_3 : ¬ Int32.toInt x1 = 3 := lv_neT c_7 rfl
    have t_4 : ¬ Int32.toInt x1 = 4 := lv_neT c_8 rfl
    have t_5 : ¬ Int32.toInt x1 = 5 := lv_neT c_9 rfl
    have t_6 : ¬ Int32.toInt x1 = 6 := lv_neT c_10 rfl
    by_cases a1 : Int32.toInt x1 < 0
    · exact Or.inl (Or.inl a1)
    by_cases a2 : 6 < Int32.toInt x1
    · exact Or.inl (Or.inr a2)
    exfalso; omega
  · refine lv_iconst (v := (-1 : Int32)) hx hb dX11_count_100 (by decide) ?_
    exact leave_i hx hb hr hlocks hP hS hZ dX11_count_101
