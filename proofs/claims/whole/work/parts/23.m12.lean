-- X12_comesBack
def f_X12_comesBack_152 (x2_5 : Int32) (x3_5 : Int32) (S_5 : St) : Option (Int32 × St) :=
  some ((x2_5 - x3_5), S_5)
def f_X12_comesBack_149i5 (x1 : Int32) (x2 : Int32) (x3_17 : Int32) (x4_17 : Int32) (S_17 : St) : Option ((Int32 × Int32 × St) ⊕ ((Int32 × St))) :=
  some (.inl (x3_17, x4_17, S_17))
def f_X12_comesBack_121i5 (x1 : Int32) (x2 : Int32) (x3_15 : Int32) (x5_15 : Int32) (s0_15 : Int32) (S_15 : St) : Option ((Int32 × Int32 × St) ⊕ ((Int32 × St))) :=
  (if s0_15 = 0 then f_X12_comesBack_149i5 x1 x2 x3_15 s0_15 S_15 else jx_a x5_15 8 (jx_a x5_15 8 (jx_l (u1 S_15 5 (Int32.toNatClampNeg x5_15) ((S_15.1 5 (Int32.toNatClampNeg x5_15)) + (1 : Int32))) (fun S_21 => jx_a x5_15 8 (jx_l (x3_15 - (S_21.1 2 (Int32.toNatClampNeg x5_15))) (fun x3_23 => f_X12_comesBack_149i5 x1 x2 x3_23 s0_15 S_21))))))
def f_X12_comesBack_110i5 (x1 : Int32) (x2 : Int32) (x3_13 : Int32) (x5_13 : Int32) (S_13 : St) : Option ((Int32 × Int32 × St) ⊕ ((Int32 × St))) :=
  (if x5_13 = (-1 : Int32) then f_X12_comesBack_121i5 x1 x2 x3_13 x5_13 (0 : Int32) S_13 else f_X12_comesBack_121i5 x1 x2 x3_13 x5_13 (1 : Int32) S_13)
def f_X12_comesBack_102i21 (x1 : Int32) (x2 : Int32) (x3 : Int32) (S : St) (x6_36 : Int32) (s0_36 : Int32) : Option ((Int32 × Int32) ⊕ (Int32)) :=
  jx_l (x6_36 + (-1)) (fun x6_37 => some (.inl (s0_36, x6_37)))
def f_X12_comesBack_100i21 (x1 : Int32) (x2 : Int32) (x3 : Int32) (S : St) (x5_35 : Int32) (x6_35 : Int32) : Option ((Int32 × Int32) ⊕ (Int32)) :=
  f_X12_comesBack_102i21 x1 x2 x3 S x6_35 x5_35
def f_X12_comesBack_95i21 (x1 : Int32) (x2 : Int32) (x3 : Int32) (S : St) (x6_41 : Int32) : Option ((Int32 × Int32) ⊕ (Int32)) :=
  f_X12_comesBack_102i21 x1 x2 x3 S x6_41 x6_41
def f_X12_comesBack_65i21 (x1 : Int32) (x2 : Int32) (x3 : Int32) (S : St) (x5_33 : Int32) (x6_33 : Int32) (s0_33 : Int32) : Option ((Int32 × Int32) ⊕ (Int32)) :=
  (if s0_33 = 0 then f_X12_comesBack_100i21 x1 x2 x3 S x5_33 x6_33 else (if x5_33 = (-1 : Int32) then f_X12_comesBack_95i21 x1 x2 x3 S x6_33 else jx_a x6_33 8 (jx_a x5_33 8 ((if (S.1 2 (Int32.toNatClampNeg x6_33)) < (S.1 2 (Int32.toNatClampNeg x5_33)) then f_X12_comesBack_100i21 x1 x2 x3 S x5_33 x6_33 else f_X12_comesBack_95i21 x1 x2 x3 S x6_33)))))
def f_X12_comesBack_64i21 (x1 : Int32) (x2 : Int32) (x3 : Int32) (S : St) (x5_32 : Int32) (x6_32 : Int32) : Option ((Int32 × Int32) ⊕ (Int32)) :=
  f_X12_comesBack_65i21 x1 x2 x3 S x5_32 x6_32 (0 : Int32)
def b_X12_comesBack_21 (x1 : Int32) (x2 : Int32) (x3 : Int32) (x5 : Int32) (x6 : Int32) (S : St) : Option ((Int32 × Int32) ⊕ (Int32)) :=
  (if x6 < 0 then some (.inr x5) else jx_a x6 8 ((if (S.1 1 (Int32.toNatClampNeg x6)) = x1 then jx_a x6 8 ((if x3 < (S.1 2 (Int32.toNatClampNeg x6)) then f_X12_comesBack_64i21 x1 x2 x3 S x5 x6 else jx_a x6 8 ((if (6 : Int32) ≤ (S.1 5 (Int32.toNatClampNeg x6)) then f_X12_comesBack_64i21 x1 x2 x3 S x5 x6 else f_X12_comesBack_65i21 x1 x2 x3 S x5 x6 (1 : Int32))))) else f_X12_comesBack_64i21 x1 x2 x3 S x5 x6)))
def g_X12_comesBack_21 (x1 : Int32) (x2 : Int32) (x3 : Int32) (S : St) : (Int32 × Int32) → Option ((Int32 × Int32) ⊕ (Int32)) := fun z => b_X12_comesBack_21 x1 x2 x3 z.1 z.2 S
def b_X12_comesBack_5 (x1 : Int32) (x2 : Int32) (x3 : Int32) (x4 : Int32) (S : St) : Option ((Int32 × Int32 × St) ⊕ ((Int32 × St))) :=
  (if x4 = 0 then some (.inr (x3, S)) else jx_l ((S.1 0 0) - (1 : Int32)) (fun x6_9 => jx_b (jx_w (g_X12_comesBack_21 x1 x2 x3 S) FU ((-1 : Int32), x6_9)) (fun z => f_X12_comesBack_110i5 x1 x2 x3 z S)))
def g_X12_comesBack_5 (x1 : Int32) (x2 : Int32) : (Int32 × Int32 × St) → Option ((Int32 × Int32 × St) ⊕ ((Int32 × St))) := fun z => b_X12_comesBack_5 x1 x2 z.1 z.2.1 z.2.2
def f_X12_comesBack (x1 : Int32) (x2 : Int32) (S : St) : Option (Int32 × St) :=
  jx_b (jx_w (g_X12_comesBack_5 x1 x2) FU (x2, (1 : Int32), S)) (fun z => f_X12_comesBack_152 x2 z.1 z.2)
set_option maxHeartbeats 4000000 in
set_option maxRecDepth 100000 in
theorem c_X12_comesBack (l : Launch) (D : va_G) (q : Nat → Nat) (k : CI) (x1 : Int32) (x2 : Int32) (S : St) (sz : Nat) (Z : Int32 × St) (hZ : f_X12_comesBack x1 x2 S = some Z) : MetI W_M SM l yX12_comesBack wsX12_comesBack { frames := 0, cells := 0, slots := 0, locals := 0 } [.ref (q 0), .int x1, .int x2] D q k S sz Z := by
  refine enter (cc := cX12_comesBack) (maxL := 8) (ret := some .int) (by decide) rfl (Nat.le_of_ble_eq_true rfl) ?_
  intro p e s m below meth c A ls hx hb hr hts hown hlocks hml hP hK hD hA hS hsp hAe hl
  have hown : s.vm.findClass RX12 = some m.cls := hown
  have hl : lv_has ls 8 [(0, .ref (q 0)), (1, .int x1), (2, .int x2)] := hl
  have in12 : ∀ w ∈ wsX120, w ∈ wsX12_comesBack := fun _ h => (List.mem_cons_of_mem _ (List.mem_append_right _ h))
  have j152 : ∀ (x2_5 : Int32) (x3_5 : Int32) (S_5 : St)  (H : Heap) (locs : List Loc) (hZ : f_X12_comesBack_152 x2_5 x3_5 S_5 = some Z) (hP : va_P D vwCl (W_M q k S_5) H) (hD : va_D A (W_M q k S_5)) (hS : va_S A s.heap H locs) (ls : Array Slot) (hl : lv_has ls 8 [(2, .int x2_5), (3, .int x3_5)]), W p l e ({ frames := 0, cells := 0, slots := 0, locals := 0 } : Room) s m ([.ref (q 0), .int x1, .int x2] : List Value).toArray below meth c H locs 0 0 (MQ below (va_Qi (fun r u => (r, u) = Z) (fun u t => va_P D vwCl (W_M q k u) t.heap) A) ([.ref (q 0), .int x1, .int x2] : List Value).toArray s 0 0 A) (F0 m 152 ls []) := by
    intro x2_5 x3_5 S_5   H locs hZ hP hD hS ls hl
    unfold f_X12_comesBack_152 at hZ
    refine lv_iload_n hx hb dX12_comesBack_152 rfl (lv_at hl 0 rfl) ?_
    refine lv_iload_n hx hb dX12_comesBack_153 rfl (lv_at hl 1 rfl) ?_
    refine lv_isub hx hb dX12_comesBack_154 ?_
    exact leave_i hx hb hr hlocks hP hS hZ dX12_comesBack_155
  unfold f_X12_comesBack at hZ
  refine lv_iload_n hx hb dX12_comesBack_0 rfl (lv_at hl 2 rfl) ?_
  refine lv_istore_n (lv' := [(3, .int x2), (0, .ref (q 0)), (1, .int x1), (2, .int x2)]) hx hb dX12_comesBack_1 rfl hl (by decide) rfl (fun ls hl => ?_)
  refine lv_iconst (v := (1 : Int32)) hx hb dX12_comesBack_2 (by decide) ?_
  refine lv_istore (lv' := [(4, .int (1 : Int32)), (3, .int x2), (0, .ref (q 0)), (1, .int x1), (2, .int x2)]) hx hb dX12_comesBack_3 hl (by decide) rfl (fun ls hl => ?_)
  obtain ⟨r_4, hw, hza_4⟩ := jx_b_some hZ
  have l_4 : ∀ (nn : Nat) (x3_1 : Int32) (x4_2 : Int32) (S_3 : St) (H : Heap) (locs : List Loc) (hw : jx_w (g_X12_comesBack_5 x1 x2) nn (x3_1, x4_2, S_3) = some r_4) (hP : va_P D vwCl (W_M q k S_3) H) (hD : va_D A (W_M q k S_3)) (hS : va_S A s.heap H locs) (ls : Array Slot) (hl : lv_has ls 8 [(0, .ref (q 0)), (1, .int x1), (2, .int x2), (3, .int x3_1), (4, .int x4_2)]), W p l e ({ frames := 0, cells := 0, slots := 0, locals := 0 } : Room) s m ([.ref (q 0), .int x1, .int x2] : List Value).toArray below meth c H locs 0 0 (MQ below (va_Qi (fun r u => (r, u) = Z) (fun u t => va_P D vwCl (W_M q k u) t.heap) A) ([.ref (q 0), .int x1, .int x2] : List Value).toArray s 0 0 A) (F0 m 5 ls []) := by
    intro nn
    induction nn with
    | zero =>
      intro x3_1 x4_2 S_3 H locs hw hP hD hS ls hl
      exact jx_w_zero hw
    | succ n_4 ih_4 =>
      intro x3_1 x4_2 S_3 H locs hw hP hD hS ls hl
      obtain ⟨o_4, hZ, hk_4⟩ := jx_w_succ hw
      have hZ : b_X12_comesBack_5 x1 x2 x3_1 x4_2 S_3 = some o_4 := hZ
      have j149i5 : ∀ (x3_98 : Int32) (x4_98 : Int32) (S_98 : St)  (o_4 : (Int32 × Int32 × St) ⊕ ((Int32 × St))) (hk_4 : jx_k (g_X12_comesBack_5 x1 x2) n_4 r_4 o_4) (H : Heap) (locs : List Loc) (hZ : f_X12_comesBack_149i5 x1 x2 x3_98 x4_98 S_98 = some o_4) (hP : va_P D vwCl (W_M q k S_98) H) (hD : va_D A (W_M q k S_98)) (hS : va_S A s.heap H locs) (ls : Array Slot) (hl : lv_has ls 8 [(0, .ref (q 0)), (1, .int x1), (2, .int x2), (3, .int x3_98), (4, .int x4_98)]), W p l e ({ frames := 0, cells := 0, slots := 0, locals := 0 } : Room) s m ([.ref (q 0), .int x1, .int x2] : List Value).toArray below meth c H locs 0 0 (MQ below (va_Qi (fun r u => (r, u) = Z) (fun u t => va_P D vwCl (W_M q k u) t.heap) A) ([.ref (q 0), .int x1, .int x2] : List Value).toArray s 0 0 A) (F0 m 149 ls []) := by
        intro x3_98 x4_98 S_98  o_4 hk_4 H locs hZ hP hD hS ls hl
        unfold f_X12_comesBack_149i5 at hZ
        refine lv_goto (tgt := 5) hx hb dX12_comesBack_149 (by decide) ?_
        have ho := Option.some.inj hZ
        subst ho
        exact ih_4 x3_98 x4_98 S_98 _ _ hk_4 hP hD hS _ (lv_sub hl [0, 1, 2, 3, 4] rfl)
      have j121i5 : ∀ (x3_96 : Int32) (x5_96 : Int32) (s0_96 : Int32) (S_96 : St)  (o_4 : (Int32 × Int32 × St) ⊕ ((Int32 × St))) (hk_4 : jx_k (g_X12_comesBack_5 x1 x2) n_4 r_4 o_4) (H : Heap) (locs : List Loc) (hZ : f_X12_comesBack_121i5 x1 x2 x3_96 x5_96 s0_96 S_96 = some o_4) (hP : va_P D vwCl (W_M q k S_96) H) (hD : va_D A (W_M q k S_96)) (hS : va_S A s.heap H locs) (ls : Array Slot) (hl : lv_has ls 8 [(0, .ref (q 0)), (1, .int x1), (2, .int x2), (3, .int x3_96), (5, .int x5_96)]), W p l e ({ frames := 0, cells := 0, slots := 0, locals := 0 } : Room) s m ([.ref (q 0), .int x1, .int x2] : List Value).toArray below meth c H locs 0 0 (MQ below (va_Qi (fun r u => (r, u) = Z) (fun u t => va_P D vwCl (W_M q k u) t.heap) A) ([.ref (q 0), .int x1, .int x2] : List Value).toArray s 0 0 A) (F0 m 121 ls [.int s0_96]) := by
        intro x3_96 x5_96 s0_96 S_96  o_4 hk_4 H locs hZ hP hD hS ls hl
        unfold f_X12_comesBack_121i5 at hZ
        refine lv_istore (lv' := [(4, .int s0_96), (0, .ref (q 0)), (1, .int x1), (2, .int x2), (3, .int x3_96), (5, .int x5_96)]) hx hb dX12_comesBack_121 hl (by decide) rfl (fun ls hl => ?_)
        refine lv_iload hx hb dX12_comesBack_123 (lv_at hl 0 rfl) ?_
        refine lv_if_eq (tgt := 149) hx hb dX12_comesBack_125 (by decide) (fun c_97 => ?_) (fun c_97 => ?_)
        · have hZ := jx_i_pos c_97 hZ
          exact j149i5 x3_96 s0_96 S_96 _ hk_4 _ _ hZ hP hD hS _ (lv_sub hl [1, 2, 3, 4, 0] rfl)
        · have hZ := jx_i_neg c_97 hZ
          refine lv_aload_n hx hb dX12_comesBack_128 rfl (lv_at hl 1 rfl) ?_
          refine gf_12_purse hx hb hts in12 hown hK hP (hts (.fieldLink RX12 22 "CoinsOfLastModel" "purse" "[I") (List.mem_of_getElem? (i := 4) rfl)) dX12_comesBack_129 ?_
          refine lv_iload hx hb dX12_comesBack_132 (lv_at hl 5 rfl) ?_
          refine lv_dup2_11 hx hb dX12_comesBack_134 rfl rfl ?_
          obtain ⟨c_100, hZ⟩ := jx_a_some hZ
          refine M_iald hx hb hK hP wM_5 c_100 dX12_comesBack_135 ?_
          refine lv_iconst (v := (1 : Int32)) hx hb dX12_comesBack_136 (by decide) ?_
          refine lv_iadd hx hb dX12_comesBack_137 ?_
          obtain ⟨c_101, hZ⟩ := jx_a_some hZ
          obtain ⟨S_102, e_S_102, hZ⟩ := jx_l_some hZ
          refine M_iast hx hb hK hP hD hS wM_5 (fun _ => wMs_5) c_101 e_S_102 dX12_comesBack_138 (fun H locs hP hD hS => ?_)
          refine lv_iload_n hx hb dX12_comesBack_139 rfl (lv_at hl 4 rfl) ?_
          refine lv_aload_n hx hb dX12_comesBack_140 rfl (lv_at hl 1 rfl) ?_
          refine gf_12_worth hx hb hts in12 hown hK hP (hts (.fieldLink RX12 13 "CoinsOfLastModel" "worth" "[I") (List.mem_of_getElem? (i := 3) rfl)) dX12_comesBack_141 ?_
          refine lv_iload hx hb dX12_comesBack_144 (lv_at hl 5 rfl) ?_
          obtain ⟨c_103, hZ⟩ := jx_a_some hZ
          refine M_iald hx hb hK hP wM_2 c_103 dX12_comesBack_146 ?_
          refine lv_isub hx hb dX12_comesBack_147 ?_
          obtain ⟨x3_104, e_x3_104, hZ⟩ := jx_l_some hZ
          refine tx_i e_x3_104 ?_
          refine lv_istore_n (lv' := [(3, .int x3_104), (4, .int s0_96), (0, .ref (q 0)), (1, .int x1), (2, .int x2), (5, .int x5_96)]) hx hb dX12_comesBack_148 rfl hl (by decide) rfl (fun ls hl => ?_)
          exact j149i5 x3_104 s0_96 S_102 _ hk_4 _ _ hZ hP hD hS _ (lv_sub hl [2, 3, 4, 0, 1] rfl)
      have j110i5 : ∀ (x3_94 : Int32) (x5_94 : Int32) (S_94 : St)  (o_4 : (Int32 × Int32 × St) ⊕ ((Int32 × St))) (hk_4 : jx_k (g_X12_comesBack_5 x1 x2) n_4 r_4 o_4) (H : Heap) (locs : List Loc) (hZ : f_X12_comesBack_110i5 x1 x2 x3_94 x5_94 S_94 = some o_4) (hP : va_P D vwCl (W_M q k S_94) H) (hD : va_D A (W_M q k S_94)) (hS : va_S A s.heap H locs) (ls : Array Slot) (hl : lv_has ls 8 [(0, .ref (q 0)), (1, .int x1), (2, .int x2), (3, .int x3_94), (5, .int x5_94)]), W p l e ({ frames := 0, cells := 0, slots := 0, locals := 0 } : Room) s m ([.ref (q 0), .int x1, .int x2] : List Value).toArray below meth c H locs 0 0 (MQ below (va_Qi (fun r u => (r, u) = Z) (fun u t => va_P D vwCl (W_M q k u) t.heap) A) ([.ref (q 0), .int x1, .int x2] : List Value).toArray s 0 0 A) (F0 m 110 ls []) := by
        intro x3_94 x5_94 S_94  o_4 hk_4 H locs hZ hP hD hS ls hl
        unfold f_X12_comesBack_110i5 at hZ
        refine lv_iload hx hb dX12_comesBack_110 (lv_at hl 4 rfl) ?_
        refine lv_iconst (v := (-1 : Int32)) hx hb dX12_comesBack_112 (by decide) ?_
        refine lv_icmp_eq (tgt := 120) hx hb dX12_comesBack_113 (by decide) (fun c_95 => ?_) (fun c_95 => ?_)
        · have hZ := jx_i_pos c_95 hZ
          refine lv_iconst (v := (0 : Int32)) hx hb dX12_comesBack_120 (by decide) ?_
          exact j121i5 x3_94 x5_94 (0 : Int32) S_94 _ hk_4 _ _ hZ hP hD hS _ (lv_sub hl [0, 1, 2, 3, 4] rfl)
        · have hZ := jx_i_neg c_95 hZ
          refine lv_iconst (v := (1 : Int32)) hx hb dX12_comesBack_116 (by decide) ?_
          refine lv_goto (tgt := 121) hx hb dX12_comesBack_117 (by decide) ?_
          exact j121i5 x3_94 x5_94 (1 : Int32) S_94 _ hk_4 _ _ hZ hP hD hS _ (lv_sub hl [0, 1, 2, 3, 4] rfl)
      unfold b_X12_comesBack_5 at hZ
      refine lv_iload hx hb dX12_comesBack_5 (lv_at hl 4 rfl) ?_
      refine lv_if_eq (tgt := 152) hx hb dX12_comesBack_7 (by decide) (fun c_88 => ?_) (fun c_88 => ?_)
      · have hZ := jx_i_pos c_88 hZ
        have ho := Option.some.inj hZ
        subst ho
        have hE := hza_4
        rw [← (show (x3_1, S_3) = r_4 from hk_4)] at hE
        have hZ : f_X12_comesBack_152 x2 x3_1 S_3 = some Z := hE
        exact j152 x2 x3_1 S_3 _ _ hZ hP hD hS _ (lv_sub hl [2, 3] rfl)
      · have hZ := jx_i_neg c_88 hZ
        refine lv_iconst (v := (-1 : Int32)) hx hb dX12_comesBack_10 (by decide) ?_
        refine lv_istore (lv' := [(5, .int (-1 : Int32)), (0, .ref (q 0)), (1, .int x1), (2, .int x2), (3, .int x3_1), (4, .int x4_2)]) hx hb dX12_comesBack_11 hl (by decide) rfl (fun ls hl => ?_)
        refine lv_aload_n hx hb dX12_comesBack_13 rfl (lv_at hl 1 rfl) ?_
        refine gf_12_sorts hx hb hts in12 hown hK hP (hts (.fieldLink RX12 114 "CoinsOfLastModel" "sorts" "I") (List.mem_of_getElem? (i := 1) rfl)) dX12_comesBack_14 ?_
        refine lv_iconst (v := (1 : Int32)) hx hb dX12_comesBack_17 (by decide) ?_
        refine lv_isub hx hb dX12_comesBack_18 ?_
        obtain ⟨x6_90, e_x6_90, hZ⟩ := jx_l_some hZ
        refine tx_i e_x6_90 ?_
        refine lv_istore (lv' := [(6, .int x6_90), (5, .int (-1 : Int32)), (0, .ref (q 0)), (1, .int x1), (2, .int x2), (3, .int x3_1), (4, .int x4_2)]) hx hb dX12_comesBack_19 hl (by decide) rfl (fun ls hl => ?_)
        obtain ⟨r_93, hw, hza_93⟩ := jx_b_some hZ
        have l_93 : ∀ (nn : Nat) (x5_91 : Int32) (x6_92 : Int32) (H : Heap) (locs : List Loc) (hw : jx_w (g_X12_comesBack_21 x1 x2 x3_1 S_3) nn (x5_91, x6_92) = some r_93) (hP : va_P D vwCl (W_M q k S_3) H) (hD : va_D A (W_M q k S_3)) (hS : va_S A s.heap H locs) (ls : Array Slot) (hl : lv_has ls 8 [(0, .ref (q 0)), (1, .int x1), (2, .int x2), (3, .int x3_1), (5, .int x5_91), (6, .int x6_92)]), W p l e ({ frames := 0, cells := 0, slots := 0, locals := 0 } : Room) s m ([.ref (q 0), .int x1, .int x2] : List Value).toArray below meth c H locs 0 0 (MQ below (va_Qi (fun r u => (r, u) = Z) (fun u t => va_P D vwCl (W_M q k u) t.heap) A) ([.ref (q 0), .int x1, .int x2] : List Value).toArray s 0 0 A) (F0 m 21 ls []) := by
          intro nn
          induction nn with
          | zero =>
            intro x5_91 x6_92 H locs hw hP hD hS ls hl
            exact jx_w_zero hw
          | succ n_93 ih_93 =>
            intro x5_91 x6_92 H locs hw hP hD hS ls hl
            obtain ⟨o_93, hZ, hk_93⟩ := jx_w_succ hw
            have hZ : b_X12_comesBack_21 x1 x2 x3_1 x5_91 x6_92 S_3 = some o_93 := hZ
            have j102i21 : ∀ (x6_147 : Int32) (s0_147 : Int32)  (o_93 : (Int32 × Int32) ⊕ (Int32)) (hk_93 : jx_k (g_X12_comesBack_21 x1 x2 x3_1 S_3) n_93 r_93 o_93) (H : Heap) (locs : List Loc) (hZ : f_X12_comesBack_102i21 x1 x2 x3_1 S_3 x6_147 s0_147 = some o_93) (hP : va_P D vwCl (W_M q k S_3) H) (hD : va_D A (W_M q k S_3)) (hS : va_S A s.heap H locs) (ls : Array Slot) (hl : lv_has ls 8 [(0, .ref (q 0)), (1, .int x1), (2, .int x2), (3, .int x3_1), (6, .int x6_147)]), W p l e ({ frames := 0, cells := 0, slots := 0, locals := 0 } : Room) s m ([.ref (q 0), .int x1, .int x2] : List Value).toArray below meth c H locs 0 0 (MQ below (va_Qi (fun r u => (r, u) = Z) (fun u t => va_P D vwCl (W_M q k u) t.heap) A) ([.ref (q 0), .int x1, .int x2] : List Value).toArray s 0 0 A) (F0 m 102 ls [.int s0_147]) := by
              intro x6_147 s0_147  o_93 hk_93 H locs hZ hP hD hS ls hl
              unfold f_X12_comesBack_102i21 at hZ
              refine lv_istore (lv' := [(5, .int s0_147), (0, .ref (q 0)), (1, .int x1), (2, .int x2), (3, .int x3_1), (6, .int x6_147)]) hx hb dX12_comesBack_102 hl (by decide) rfl (fun ls hl => ?_)
              obtain ⟨x6_148, e_x6_148, hZ⟩ := jx_l_some hZ
              refine lv_iinc (v := x6_148) (lv' := [(6, .int x6_148), (5, .int s0_147), (0, .ref (q 0)), (1, .int x1), (2, .int x2), (3, .int x3_1)]) hx hb dX12_comesBack_104 hl (k := 5) rfl (by rw [e_x6_148]; rfl) (by decide) rfl (fun ls hl => ?_)
              refine lv_goto (tgt := 21) hx hb dX12_comesBack_107 (by decide) ?_
              have ho := Option.some.inj hZ
              subst ho
              exact ih_93 s0_147 x6_148 _ _ hk_93 hP hD hS _ (lv_sub hl [2, 3, 4, 5, 1, 0] rfl)
            have j100i21 : ∀ (x5_146 : Int32) (x6_146 : Int32)  (o_93 : (Int32 × Int32) ⊕ (Int32)) (hk_93 : jx_k (g_X12_comesBack_21 x1 x2 x3_1 S_3) n_93 r_93 o_93) (H : Heap) (locs : List Loc) (hZ : f_X12_comesBack_100i21 x1 x2 x3_1 S_3 x5_146 x6_146 = some o_93) (hP : va_P D vwCl (W_M q k S_3) H) (hD : va_D A (W_M q k S_3)) (hS : va_S A s.heap H locs) (ls : Array Slot) (hl : lv_has ls 8 [(0, .ref (q 0)), (1, .int x1), (2, .int x2), (3, .int x3_1), (5, .int x5_146), (6, .int x6_146)]), W p l e ({ frames := 0, cells := 0, slots := 0, locals := 0 } : Room) s m ([.ref (q 0), .int x1, .int x2] : List Value).toArray below meth c H locs 0 0 (MQ below (va_Qi (fun r u => (r, u) = Z) (fun u t => va_P D vwCl (W_M q k u) t.heap) A) ([.ref (q 0), .int x1, .int x2] : List Value).toArray s 0 0 A) (F0 m 100 ls []) := by
              intro x5_146 x6_146  o_93 hk_93 H locs hZ hP hD hS ls hl
              unfold f_X12_comesBack_100i21 at hZ
              refine lv_iload hx hb dX12_comesBack_100 (lv_at hl 4 rfl) ?_
              exact j102i21 x6_146 x5_146 _ hk_93 _ _ hZ hP hD hS _ (lv_sub hl [0, 1, 2, 3, 5] rfl)
            have j95i21 : ∀ (x6_152 : Int32)  (o_93 : (Int32 × Int32) ⊕ (Int32)) (hk_93 : jx_k (g_X12_comesBack_21 x1 x2 x3_1 S_3) n_93 r_93 o_93) (H : Heap) (locs : List Loc) (hZ : f_X12_comesBack_95i21 x1 x2 x3_1 S_3 x6_152 = some o_93) (hP : va_P D vwCl (W_M q k S_3) H) (hD : va_D A (W_M q k S_3)) (hS : va_S A s.heap H locs) (ls : Array Slot) (hl : lv_has ls 8 [(0, .ref (q 0)), (1, .int x1), (2, .int x2), (3, .int x3_1), (6, .int x6_152)]), W p l e ({ frames := 0, cells := 0, slots := 0, locals := 0 } : Room) s m ([.ref (q 0), .int x1, .int x2] : List Value).toArray below meth c H locs 0 0 (MQ below (va_Qi (fun r u => (r, u) = Z) (fun u t => va_P D vwCl (W_M q k u) t.heap) A) ([.ref (q 0), .int x1, .int x2] : List Value).toArray s 0 0 A) (F0 m 95 ls []) := by
              intro x6_152  o_93 hk_93 H locs hZ hP hD hS ls hl
              unfold f_X12_comesBack_95i21 at hZ
              refine lv_iload hx hb dX12_comesBack_95 (lv_at hl 4 rfl) ?_
              refine lv_goto (tgt := 102) hx hb dX12_comesBack_97 (by decide) ?_
              exact j102i21 x6_152 x6_152 _ hk_93 _ _ hZ hP hD hS _ (lv_sub hl [0, 1, 2, 3, 4] rfl)
            have j65i21 : ∀ (x5_144 : Int32) (x6_144 : Int32) (s0_144 : Int32)  (o_93 : (Int32 × Int32) ⊕ (Int32)) (hk_93 : jx_k (g_X12_comesBack_21 x1 x2 x3_1 S_3) n_93 r_93 o_93) (H : Heap) (locs : List Loc) (hZ : f_X12_comesBack_65i21 x1 x2 x3_1 S_3 x5_144 x6_144 s0_144 = some o_93) (hP : va_P D vwCl (W_M q k S_3) H) (hD : va_D A (W_M q k S_3)) (hS : va_S A s.heap H locs) (ls : Array Slot) (hl : lv_has ls 8 [(0, .ref (q 0)), (1, .int x1), (2, .int x2), (3, .int x3_1), (5, .int x5_144), (6, .int x6_144)]), W p l e ({ frames := 0, cells := 0, slots := 0, locals := 0 } : Room) s m ([.ref (q 0), .int x1, .int x2] : List Value).toArray below meth c H locs 0 0 (MQ below (va_Qi (fun r u => (r, u) = Z) (fun u t => va_P D vwCl (W_M q k u) t.heap) A) ([.ref (q 0), .int x1, .int x2] : List Value).toArray s 0 0 A) (F0 m 65 ls [.int s0_144]) := by
              intro x5_144 x6_144 s0_144  o_93 hk_93 H locs hZ hP hD hS ls hl
              unfold f_X12_comesBack_65i21 at hZ
              refine lv_istore (lv' := [(7, .int s0_144), (0, .ref (q 0)), (1, .int x1), (2, .int x2), (3, .int x3_1), (5, .int x5_144), (6, .int x6_144)]) hx hb dX12_comesBack_65 hl (by decide) rfl (fun ls hl => ?_)
              refine lv_iload hx hb dX12_comesBack_67 (lv_at hl 0 rfl) ?_
              refine lv_if_eq (tgt := 100) hx hb dX12_comesBack_69 (by decide) (fun c_145 => ?_) (fun c_145 => ?_)
              · have hZ := jx_i_pos c_145 hZ
                exact j100i21 x5_144 x6_144 _ hk_93 _ _ hZ hP hD hS _ (lv_sub hl [1, 2, 3, 4, 5, 6] rfl)
              · have hZ := jx_i_neg c_145 hZ
                refine lv_iload hx hb dX12_comesBack_72 (lv_at hl 5 rfl) ?_
                refine lv_iconst (v := (-1 : Int32)) hx hb dX12_comesBack_74 (by decide) ?_
                refine lv_icmp_eq (tgt := 95) hx hb dX12_comesBack_75 (by decide) (fun c_151 => ?_) (fun c_151 => ?_)
                · have hZ := jx_i_pos c_151 hZ
                  exact j95i21 x6_144 _ hk_93 _ _ hZ hP hD hS _ (lv_sub hl [1, 2, 3, 4, 6] rfl)
                · have hZ := jx_i_neg c_151 hZ
                  refine lv_aload_n hx hb dX12_comesBack_78 rfl (lv_at hl 1 rfl) ?_
                  refine gf_12_worth hx hb hts in12 hown hK hP (hts (.fieldLink RX12 13 "CoinsOfLastModel" "worth" "[I") (List.mem_of_getElem? (i := 3) rfl)) dX12_comesBack_79 ?_
                  refine lv_iload hx hb dX12_comesBack_82 (lv_at hl 6 rfl) ?_
                  obtain ⟨c_155, hZ⟩ := jx_a_some hZ
                  refine M_iald hx hb hK hP wM_2 c_155 dX12_comesBack_84 ?_
                  refine lv_aload_n hx hb dX12_comesBack_85 rfl (lv_at hl 1 rfl) ?_
                  refine gf_12_worth hx hb hts in12 hown hK hP (hts (.fieldLink RX12 13 "CoinsOfLastModel" "worth" "[I") (List.mem_of_getElem? (i := 3) rfl)) dX12_comesBack_86 ?_
                  refine lv_iload hx hb dX12_comesBack_89 (lv_at hl 5 rfl) ?_
                  obtain ⟨c_156, hZ⟩ := jx_a_some hZ
                  refine M_iald hx hb hK hP wM_2 c_156 dX12_comesBack_91 ?_
                  refine lv_icmp_lt (tgt := 100) hx hb dX12_comesBack_92 (by decide) (fun c_157 => ?_) (fun c_157 => ?_)
                  · have hZ := jx_i_pos c_157 hZ
                    exact j100i21 x5_144 x6_144 _ hk_93 _ _ hZ hP hD hS _ (lv_sub hl [1, 2, 3, 4, 5, 6] rfl)
                  · have hZ := jx_i_neg c_157 hZ
                    exact j95i21 x6_144 _ hk_93 _ _ hZ hP hD hS _ (lv_sub hl [1, 2, 3, 4, 6] rfl)
            have j64i21 : ∀ (x5_143 : Int32) (x6_143 : Int32)  (o_93 : (Int32 × Int32) ⊕ (Int32)) (hk_93 : jx_k (g_X12_comesBack_21 x1 x2 x3_1 S_3) n_93 r_93 o_93) (H : Heap) (locs : List Loc) (hZ : f_X12_comesBack_64i21 x1 x2 x3_1 S_3 x5_143 x6_143 = some o_93) (hP : va_P D vwCl (W_M q k S_3) H) (hD : va_D A (W_M q k S_3)) (hS : va_S A s.heap H locs) (ls : Array Slot) (hl : lv_has ls 8 [(0, .ref (q 0)), (1, .int x1), (2, .int x2), (3, .int x3_1), (5, .int x5_143), (6, .int x6_143)]), W p l e ({ frames := 0, cells := 0, slots := 0, locals := 0 } : Room) s m ([.ref (q 0), .int x1, .int x2] : List Value).toArray below meth c H locs 0 0 (MQ below (va_Qi (fun r u => (r, u) = Z) (fun u t => va_P D vwCl (W_M q k u) t.heap) A) ([.ref (q 0), .int x1, .int x2] : List Value).toArray s 0 0 A) (F0 m 64 ls []) := by
              intro x5_143 x6_143  o_93 hk_93 H locs hZ hP hD hS ls hl
              unfold f_X12_comesBack_64i21 at hZ
              refine lv_iconst (v := (0 : Int32)) hx hb dX12_comesBack_64 (by decide) ?_
              exact j65i21 x5_143 x6_143 (0 : Int32) _ hk_93 _ _ hZ hP hD hS _ (lv_sub hl [0, 1, 2, 3, 4, 5] rfl)
            unfold b_X12_comesBack_21 at hZ
            refine lv_iload hx hb dX12_comesBack_21 (lv_at hl 5 rfl) ?_
            refine lv_if_lt (tgt := 110) hx hb dX12_comesBack_23 (by decide) (fun c_139 => ?_) (fun c_139 => ?_)
            · have hZ := jx_i_pos c_139 hZ
              have ho := Option.some.inj hZ
              subst ho
              have hE := hza_93
              rw [← (show x5_91 = r_93 from hk_93)] at hE
              have hZ : f_X12_comesBack_110i5 x1 x2 x3_1 x5_91 S_3 = some o_4 := hE
              exact j110i5 x3_1 x5_91 S_3 _ hk_4 _ _ hZ hP hD hS _ (lv_sub hl [0, 1, 2, 3, 4] rfl)
            · have hZ := jx_i_neg c_139 hZ
              refine lv_aload_n hx hb dX12_comesBack_26 rfl (lv_at hl 0 rfl) ?_
              refine gf_12_landOf hx hb hts in12 hown hK hP (hts (.fieldLink RX12 7 "CoinsOfLastModel" "landOf" "[I") (List.mem_of_getElem? (i := 2) rfl)) dX12_comesBack_27 ?_
              refine lv_iload hx hb dX12_comesBack_30 (lv_at hl 5 rfl) ?_
              obtain ⟨c_141, hZ⟩ := jx_a_some hZ
              refine M_iald hx hb hK hP wM_1 c_141 dX12_comesBack_32 ?_
              refine lv_iload_n hx hb dX12_comesBack_33 rfl (lv_at hl 1 rfl) ?_
              refine lv_icmp_ne (tgt := 64) hx hb dX12_comesBack_34 (by decide) (fun c_142 => ?_) (fun c_142 => ?_)
              · have hZ := jx_i_neg c_142 hZ
                exact j64i21 x5_91 x6_92 _ hk_93 _ _ hZ hP hD hS _ (lv_sub hl [0, 1, 2, 3, 4, 5] rfl)
              · have hZ := jx_i_pos c_142 hZ
                refine lv_aload_n hx hb dX12_comesBack_37 rfl (lv_at hl 0 rfl) ?_
                refine gf_12_worth hx hb hts in12 hown hK hP (hts (.fieldLink RX12 13 "CoinsOfLastModel" "worth" "[I") (List.mem_of_getElem? (i := 3) rfl)) dX12_comesBack_38 ?_
                refine lv_iload hx hb dX12_comesBack_41 (lv_at hl 5 rfl) ?_
                obtain ⟨c_162, hZ⟩ := jx_a_some hZ
                refine M_iald hx hb hK hP wM_2 c_162 dX12_comesBack_43 ?_
                refine lv_iload_n hx hb dX12_comesBack_44 rfl (lv_at hl 3 rfl) ?_
                refine lv_icmp_gt (tgt := 64) hx hb dX12_comesBack_45 (by decide) (fun c_163 => ?_) (fun c_163 => ?_)
                · have hZ := jx_i_pos c_163 hZ
                  exact j64i21 x5_91 x6_92 _ hk_93 _ _ hZ hP hD hS _ (lv_sub hl [0, 1, 2, 3, 4, 5] rfl)
                · have hZ := jx_i_neg c_163 hZ
                  refine lv_aload_n hx hb dX12_comesBack_48 rfl (lv_at hl 0 rfl) ?_
                  refine gf_12_purse hx hb hts in12 hown hK hP (hts (.fieldLink RX12 22 "CoinsOfLastModel" "purse" "[I") (List.mem_of_getElem? (i := 4) rfl)) dX12_comesBack_49 ?_
                  refine lv_iload hx hb dX12_comesBack_52 (lv_at hl 5 rfl) ?_
                  obtain ⟨c_165, hZ⟩ := jx_a_some hZ
                  refine M_iald hx hb hK hP wM_5 c_165 dX12_comesBack_54 ?_
                  refine lv_bipush (v := (6 : Int32)) hx hb dX12_comesBack_55 (by decide) ?_
                  refine lv_icmp_ge (tgt := 64) hx hb dX12_comesBack_57 (by decide) (fun c_166 => ?_) (fun c_166 => ?_)
                  · have hZ := jx_i_pos c_166 hZ
                    exact j64i21 x5_91 x6_92 _ hk_93 _ _ hZ hP hD hS _ (lv_sub hl [0, 1, 2, 3, 4, 5] rfl)
                  · have hZ := jx_i_neg c_166 hZ
                    refine lv_iconst (v := (1 : Int32)) hx hb dX12_comesBack_60 (by decide) ?_
                    refine lv_goto (tgt := 65) hx hb dX12_comesBack_61 (by decide) ?_
                    exact j65i21 x5_91 x6_92 (1 : Int32) _ hk_93 _ _ hZ hP hD hS _ (lv_sub hl [0, 1, 2, 3, 4, 5] rfl)
        exact l_93 FU (-1 : Int32) x6_90 _ _ hw hP hD hS _ (lv_sub hl [2, 3, 4, 5, 1, 0] rfl)
  exact l_4 FU x2 (1 : Int32) S _ _ hw hP hD hS _ (lv_sub hl [2, 3, 4, 1, 0] rfl)
theorem hd_X12_comesBack : yX12_comesBack.cls = RX12 ∧ yX12_comesBack.cls ≠ "java/lang/invoke/MethodHandle" ∧ yX12_comesBack.cls ≠ "java/lang/invoke/VarHandle" ∧ (parseMethodDescriptor yX12_comesBack.desc).map (fun d => d.parameters.length) = some 2 := by decide +kernel
-- X12_buy
def f_X12_buy_152 (x1_30 : Int32) (x3_30 : Int32) (s0_30 : Int32) (S_30 : St) : Option (Int32 × St) :=
  jx_a x1_30 10 (jx_a x1_30 10 (jx_l (u1 S_30 9 (Int32.toNatClampNeg x1_30) ((S_30.1 9 (Int32.toNatClampNeg x1_30)) - (1 : Int32))) (fun S_33 => jx_a x1_30 10 (jx_l (u1 S_33 0 14 ((S_33.1 0 14) + ((x3_30 - (S_33.1 7 (Int32.toNatClampNeg x1_30))) - s0_30))) (fun S_35 => jx_l (u1 S_35 0 15 ((S_35.1 0 15) + (x3_30 - s0_30))) (fun S_36 => some ((x3_30 - s0_30), S_36)))))))
def f_X12_buy_125 (x1_27 : Int32) (x2_27 : Int32) (x3_27 : Int32) (S_27 : St) : Option (Int32 × St) :=
  jx_a x2_27 4 ((if (S_27.1 10 (Int32.toNatClampNeg x2_27)) = (2 : Int32) then jx_a x1_27 10 (jx_b2 (f_X12_comesBack x2_27 (x3_27 - (S_27.1 7 (Int32.toNatClampNeg x1_27))) S_27) (fun r_41 S_39 => f_X12_buy_152 x1_27 x3_27 r_41 S_39)) else f_X12_buy_152 x1_27 x3_27 (0 : Int32) S_27))
def b_X12_buy_93 (x1 : Int32) (x2 : Int32) (x3 : Int32) (x4 : Int32) (S : St) : Option ((Int32 × St) ⊕ (St)) :=
  (if (S.1 0 0) ≤ x4 then some (.inr S) else jx_a x4 8 (jx_a x4 8 (jx_a x4 8 (jx_l (u1 S 5 (Int32.toNatClampNeg x4) ((S.1 5 (Int32.toNatClampNeg x4)) - (S.1 24 (Int32.toNatClampNeg x4)))) (fun S_49 => jx_l (x4 + 1) (fun x4_50 => some (.inl (x4_50, S_49))))))))
def g_X12_buy_93 (x1 : Int32) (x2 : Int32) (x3 : Int32) : (Int32 × St) → Option ((Int32 × St) ⊕ (St)) := fun z => b_X12_buy_93 x1 x2 x3 z.1 z.2
def f_X12_buy_71 (x1_16 : Int32) (x2_16 : Int32) (x3_16 : Int32) (S_16 : St) : Option (Int32 × St) :=
  jx_b2 (f_X12_canPay x3_16 S_16) (fun r_19 S_17 => (if r_19 = 0 then some ((-2 : Int32), S_17) else jx_b2 (f_X12_payment x2_16 x3_16 (1 : Int32) S_17) (fun r_23 S_21 => jx_b (jx_w (g_X12_buy_93 x1_16 x2_16 x3_16) FU ((0 : Int32), S_21)) (fun z => f_X12_buy_125 x1_16 x2_16 x3_16 z))))
def b_X12_buy_41 (x1 : Int32) (x2 : Int32) (x3 : Int32) (S : St) : Option ((Int32 × St) ⊕ ((Int32 × St))) :=
  jx_a x2 4 ((if (S.1 10 (Int32.toNatClampNeg x2)) ≤ 0 then some (.inr (x3, S)) else (if (1920 : Int32) < x3 then some (.inr (x3, S)) else jx_b2 (f_X12_canPay x3 S) (fun r_66 S_64 => (if r_66 = 0 then jx_l (x3 + 1) (fun x3_69 => some (.inl (x3_69, S_64))) else some (.inr (x3, S_64)))))))
def g_X12_buy_41 (x1 : Int32) (x2 : Int32) : (Int32 × St) → Option ((Int32 × St) ⊕ ((Int32 × St))) := fun z => b_X12_buy_41 x1 x2 z.1 z.2
def f_X12_buy (x1 : Int32) (S : St) : Option (Int32 × St) :=
  jx_b2 (f_X12_isThing x1 S) (fun r_3 S_1 => (if r_3 = 0 then some ((-1 : Int32), S_1) else jx_a x1 10 ((if (S_1.1 9 (Int32.toNatClampNeg x1)) = 0 then some ((-5 : Int32), S_1) else jx_a x1 10 (jx_l (S_1.1 6 (Int32.toNatClampNeg x1)) (fun x2_8 => jx_b (f_X12_pays x2_8 S_1) (fun S_9 => jx_a x1 10 (jx_l (S_9.1 7 (Int32.toNatClampNeg x1)) (fun x3_12 => jx_b (jx_w (g_X12_buy_41 x1 x2_8) FU (x3_12, S_9)) (fun z => f_X12_buy_71 x1 x2_8 z.1 z.2))))))))))
set_option maxHeartbeats 4000000 in
set_option maxRecDepth 100000 in
theorem c_X12_buy (l : Launch) (D : va_G) (q : Nat → Nat) (k : CI) (x1 : Int32) (S : St) (sz : Nat) (Z : Int32 × St) (hZ : f_X12_buy x1 S = some Z) : MetI W_M SM l yX12_buy wsX12_buy { frames := 3, cells := 0, slots := 0, locals := 79 } [.ref (q 0), .int x1] D q k S sz Z := by
  refine enter (cc := cX12_buy) (maxL := 5) (ret := some .int) (by decide) rfl (Nat.le_of_ble_eq_true rfl) ?_
  intro p e s m below meth c A ls hx hb hr hts hown hlocks hml hP hK hD hA hS hsp hAe hl
  have hown : s.vm.findClass RX12 = some m.cls := hown
  have hl : lv_has ls 5 [(0, .ref (q 0)), (1, .int x1)] := hl
  have in12 : ∀ w ∈ wsX120, w ∈ wsX12_buy := fun _ h => (List.mem_cons_of_mem _ (List.mem_append_right _ h))
  have j152 : ∀ (x1_30 : Int32) (x3_30 : Int32) (s0_30 : Int32) (S_30 : St)  (H : Heap) (locs : List Loc) (hZ : f_X12_buy_152 x1_30 x3_30 s0_30 S_30 = some Z) (hP : va_P D vwCl (W_M q k S_30) H) (hD : va_D A (W_M q k S_30)) (hS : va_S A s.heap H locs) (ls : Array Slot) (hl : lv_has ls 5 [(0, .ref (q 0)), (1, .int x1_30), (3, .int x3_30)]), W p l e ({ frames := 3, cells := 0, slots := 0, locals := 79 } : Room) s m ([.ref (q 0), .int x1] : List Value).toArray below meth c H locs 0 0 (MQ below (va_Qi (fun r u => (r, u) = Z) (fun u t => va_P D vwCl (W_M q k u) t.heap) A) ([.ref (q 0), .int x1] : List Value).toArray s 0 0 A) (F0 m 152 ls [.int s0_30]) := by
    intro x1_30 x3_30 s0_30 S_30   H locs hZ hP hD hS ls hl
    unfold f_X12_buy_152 at hZ
    refine lv_istore (lv' := [(4, .int s0_30), (0, .ref (q 0)), (1, .int x1_30), (3, .int x3_30)]) hx hb dX12_buy_152 hl (by decide) rfl (fun ls hl => ?_)
    refine lv_aload_n hx hb dX12_buy_154 rfl (lv_at hl 1 rfl) ?_
    refine gf_12_many hx hb hts in12 hown hK hP (hts (.fieldLink RX12 34 "CoinsOfLastModel" "many" "[I") (List.mem_of_getElem? (i := 1) rfl)) dX12_buy_155 ?_
    refine lv_iload_n hx hb dX12_buy_158 rfl (lv_at hl 2 rfl) ?_
    refine lv_dup2_11 hx hb dX12_buy_159 rfl rfl ?_
    obtain ⟨c_31, hZ⟩ := jx_a_some hZ
    refine M_iald hx hb hK hP wM_9 c_31 dX12_buy_160 ?_
    refine lv_iconst (v := (1 : Int32)) hx hb dX12_buy_161 (by decide) ?_
    refine lv_isub hx hb dX12_buy_162 ?_
    obtain ⟨c_32, hZ⟩ := jx_a_some hZ
    obtain ⟨S_33, e_S_33, hZ⟩ := jx_l_some hZ
    refine M_iast hx hb hK hP hD hS wM_9 (fun _ => wMs_9) c_32 e_S_33 dX12_buy_163 (fun H locs hP hD hS => ?_)
    refine lv_aload_n hx hb dX12_buy_164 rfl (lv_at hl 1 rfl) ?_
    refine lv_dup hx hb dX12_buy_165 rfl ?_
    refine gf_12_lost hx hb hts in12 hown hK hP (hts (.fieldLink RX12 282 "CoinsOfLastModel" "lost" "I") (List.mem_of_getElem? (i := 8) rfl)) dX12_buy_166 ?_
    refine lv_iload_n hx hb dX12_buy_169 rfl (lv_at hl 3 rfl) ?_
    refine lv_aload_n hx hb dX12_buy_170 rfl (lv_at hl 1 rfl) ?_
    refine gf_12_price hx hb hts in12 hown hK hP (hts (.fieldLink RX12 28 "CoinsOfLastModel" "price" "[I") (List.mem_of_getElem? (i := 3) rfl)) dX12_buy_171 ?_
    refine lv_iload_n hx hb dX12_buy_174 rfl (lv_at hl 2 rfl) ?_
    obtain ⟨c_34, hZ⟩ := jx_a_some hZ
    refine M_iald hx hb hK hP wM_7 c_34 dX12_buy_175 ?_
    refine lv_isub hx hb dX12_buy_176 ?_
    refine lv_iload hx hb dX12_buy_177 (lv_at hl 0 rfl) ?_
    refine lv_isub hx hb dX12_buy_179 ?_
    refine lv_iadd hx hb dX12_buy_180 ?_
    obtain ⟨S_35, e_S_35, hZ⟩ := jx_l_some hZ
    refine pf_12_lost hx hb hts in12 hown hK hP hD hS (hts (.fieldLink RX12 282 "CoinsOfLastModel" "lost" "I") (List.mem_of_getElem? (i := 8) rfl)) e_S_35 dX12_buy_181 (fun H locs hP hD hS => ?_)
    refine lv_aload_n hx hb dX12_buy_184 rfl (lv_at hl 1 rfl) ?_
    refine lv_dup hx hb dX12_buy_185 rfl ?_
    refine gf_12_spent hx hb hts in12 hown hK hP (hts (.fieldLink RX12 285 "CoinsOfLastModel" "spent" "I") (List.mem_of_getElem? (i := 9) rfl)) dX12_buy_186 ?_
    refine lv_iload_n hx hb dX12_buy_189 rfl (lv_at hl 3 rfl) ?_
    refine lv_iload hx hb dX12_buy_190 (lv_at hl 0 rfl) ?_
    refine lv_isub hx hb dX12_buy_192 ?_
    refine lv_iadd hx hb dX12_buy_193 ?_
    obtain ⟨S_36, e_S_36, hZ⟩ := jx_l_some hZ
    refine pf_12_spent hx hb hts in12 hown hK hP hD hS (hts (.fieldLink RX12 285 "CoinsOfLastModel" "spent" "I") (List.mem_of_getElem? (i := 9) rfl)) e_S_36 dX12_buy_194 (fun H locs hP hD hS => ?_)
    refine lv_iload_n hx hb dX12_buy_197 rfl (lv_at hl 3 rfl) ?_
    refine lv_iload hx hb dX12_buy_198 (lv_at hl 0 rfl) ?_
    refine lv_isub hx hb dX12_buy_200 ?_
    exact leave_i hx hb hr hlocks hP hS hZ dX12_buy_201
  have j125 : ∀ (x1_27 : Int32) (x2_27 : Int32) (x3_27 : Int32) (S_27 : St)  (H : Heap) (locs : List Loc) (hZ : f_X12_buy_125 x1_27 x2_27 x3_27 S_27 = some Z) (hP : va_P D vwCl (W_M q k S_27) H) (hD : va_D A (W_M q k S_27)) (hS : va_S A s.heap H locs) (ls : Array Slot) (hl : lv_has ls 5 [(0, .ref (q 0)), (1, .int x1_27), (2, .int x2_27), (3, .int x3_27)]), W p l e ({ frames := 3, cells := 0, slots := 0, locals := 79 } : Room) s m ([.ref (q 0), .int x1] : List Value).toArray below meth c H locs 0 0 (MQ below (va_Qi (fun r u => (r, u) = Z) (fun u t => va_P D vwCl (W_M q k u) t.heap) A) ([.ref (q 0), .int x1] : List Value).toArray s 0 0 A) (F0 m 125 ls []) := by
    intro x1_27 x2_27 x3_27 S_27   H locs hZ hP hD hS ls hl
    unfold f_X12_buy_125 at hZ
    refine lv_aload_n hx hb dX12_buy_125 rfl (lv_at hl 0 rfl) ?_
    refine gf_12_rules hx hb hts in12 hown hK hP (hts (.fieldLink RX12 37 "CoinsOfLastModel" "rules" "[I") (List.mem_of_getElem? (i := 4) rfl)) dX12_buy_126 ?_
    refine lv_iload_n hx hb dX12_buy_129 rfl (lv_at hl 2 rfl) ?_
    obtain ⟨c_28, hZ⟩ := jx_a_some hZ
    refine M_iald hx hb hK hP wM_10 c_28 dX12_buy_130 ?_
    refine lv_iconst (v := (2 : Int32)) hx hb dX12_buy_131 (by decide) ?_
    refine lv_icmp_ne (tgt := 151) hx hb dX12_buy_132 (by decide) (fun c_29 => ?_) (fun c_29 => ?_)
    · have hZ := jx_i_neg c_29 hZ
      refine lv_iconst (v := (0 : Int32)) hx hb dX12_buy_151 (by decide) ?_
      exact j152 x1_27 x3_27 (0 : Int32) S_27 _ _ hZ hP hD hS _ (lv_sub hl [0, 1, 3] rfl)
    · have hZ := jx_i_pos c_29 hZ
      refine lv_aload_n hx hb dX12_buy_135 rfl (lv_at hl 0 rfl) ?_
      refine lv_iload_n hx hb dX12_buy_136 rfl (lv_at hl 2 rfl) ?_
      refine lv_iload_n hx hb dX12_buy_137 rfl (lv_at hl 3 rfl) ?_
      refine lv_aload_n hx hb dX12_buy_138 rfl (lv_at hl 0 rfl) ?_
      refine gf_12_price hx hb hts in12 hown hK hP (hts (.fieldLink RX12 28 "CoinsOfLastModel" "price" "[I") (List.mem_of_getElem? (i := 3) rfl)) dX12_buy_139 ?_
      refine lv_iload_n hx hb dX12_buy_142 rfl (lv_at hl 1 rfl) ?_
      obtain ⟨c_38, hZ⟩ := jx_a_some hZ
      refine M_iald hx hb hK hP wM_7 c_38 dX12_buy_143 ?_
      refine lv_isub hx hb dX12_buy_144 ?_
      obtain ⟨r_41, S_39, hc_40, hZ⟩ := jx_b2_some hZ
      refine call_Vi SM_ok sameM ⟨hx, hb, hml, hown, hts⟩ (c_X12_comesBack l D q k x2_27 (x3_27 - (S_27.1 7 (Int32.toNatClampNeg x1_27))) S_27 _ (r_41, S_39)  hc_40) (cwV 2 hts gX12_buy_X12_comesBack rfl rfl rfl hd_X12_comesBack ⟨Nat.le_of_ble_eq_true rfl, Nat.le_of_ble_eq_true rfl⟩) hK hP hD hS hA hsp (va_recv hK hP (ci := 12) (q0 := 0) rfl wM_0) (As := [.int x2_27, .int (x3_27 - (S_27.1 7 (Int32.toNatClampNeg x1_27)))]) rfl hl.1 rfl (Nat.le_of_ble_eq_true rfl) dX12_buy_145 ⟨Nat.zero_le _, Nat.zero_le _⟩ (fun H locs hP hD hS => ?_)
      refine lv_goto (tgt := 152) hx hb dX12_buy_148 (by decide) ?_
      exact j152 x1_27 x3_27 r_41 S_39 _ _ hZ hP hD hS _ (lv_sub hl [0, 1, 3] rfl)
  have j71 : ∀ (x1_16 : Int32) (x2_16 : Int32) (x3_16 : Int32) (S_16 : St)  (H : Heap) (locs : List Loc) (hZ : f_X12_buy_71 x1_16 x2_16 x3_16 S_16 = some Z) (hP : va_P D vwCl (W_M q k S_16) H) (hD : va_D A (W_M q k S_16)) (hS : va_S A s.heap H locs) (ls : Array Slot) (hl : lv_has ls 5 [(0, .ref (q 0)), (1, .int x1_16), (2, .int x2_16), (3, .int x3_16)]), W p l e ({ frames := 3, cells := 0, slots := 0, locals := 79 } : Room) s m ([.ref (q 0), .int x1] : List Value).toArray below meth c H locs 0 0 (MQ below (va_Qi (fun r u => (r, u) = Z) (fun u t => va_P D vwCl (W_M q k u) t.heap) A) ([.ref (q 0), .int x1] : List Value).toArray s 0 0 A) (F0 m 71 ls []) := by
    intro x1_16 x2_16 x3_16 S_16   H locs hZ hP hD hS ls hl
    unfold f_X12_buy_71 at hZ
    refine lv_aload_n hx hb dX12_buy_71 rfl (lv_at hl 0 rfl) ?_
    refine lv_iload_n hx hb dX12_buy_72 rfl (lv_at hl 3 rfl) ?_
    obtain ⟨r_19, S_17, hc_18, hZ⟩ := jx_b2_some hZ
    refine call_Vi SM_ok sameM ⟨hx, hb, hml, hown, hts⟩ (c_X12_canPay l D q k x3_16 S_16 _ (r_19, S_17)  hc_18) (cwV 1 hts gX12_buy_X12_canPay rfl rfl rfl hd_X12_canPay ⟨Nat.le_of_ble_eq_true rfl, Nat.le_of_ble_eq_true rfl⟩) hK hP hD hS hA hsp (va_recv hK hP (ci := 12) (q0 := 0) rfl wM_0) (As := [.int x3_16]) rfl hl.1 rfl (Nat.le_of_ble_eq_true rfl) dX12_buy_73 ⟨Nat.zero_le _, Nat.zero_le _⟩ (fun H locs hP hD hS => ?_)
    refine lv_if_ne (tgt := 82) hx hb dX12_buy_76 (by decide) (fun c_20 => ?_) (fun c_20 => ?_)
    · have hZ := jx_i_neg c_20 hZ
      refine lv_aload_n hx hb dX12_buy_82 rfl (lv_at hl 0 rfl) ?_
      refine lv_iload_n hx hb dX12_buy_83 rfl (lv_at hl 2 rfl) ?_
      refine lv_iload_n hx hb dX12_buy_84 rfl (lv_at hl 3 rfl) ?_
      refine lv_iconst (v := (1 : Int32)) hx hb dX12_buy_85 (by decide) ?_
      obtain ⟨r_23, S_21, hc_22, hZ⟩ := jx_b2_some hZ
      refine call_Vi SM_ok sameM ⟨hx, hb, hml, hown, hts⟩ (c_X12_payment l D q k x2_16 x3_16 (1 : Int32) S_17 _ (r_23, S_21)  hc_22) (cwV 3 hts gX12_buy_X12_payment rfl rfl rfl hd_X12_payment ⟨Nat.le_of_ble_eq_true rfl, Nat.le_of_ble_eq_true rfl⟩) hK hP hD hS hA hsp (va_recv hK hP (ci := 12) (q0 := 0) rfl wM_0) (As := [.int x2_16, .int x3_16, .int (1 : Int32)]) rfl hl.1 rfl (Nat.le_of_ble_eq_true rfl) dX12_buy_86 ⟨Nat.zero_le _, Nat.zero_le _⟩ (fun H locs hP hD hS => ?_)
      refine lv_pop hx hb dX12_buy_89 rfl ?_
      refine lv_iconst (v := (0 : Int32)) hx hb dX12_buy_90 (by decide) ?_
      refine lv_istore (lv' := [(4, .int (0 : Int32)), (0, .ref (q 0)), (1, .int x1_16), (2, .int x2_16), (3, .int x3_16)]) hx hb dX12_buy_91 hl (by decide) rfl (fun ls hl => ?_)
      obtain ⟨r_26, hw, hza_26⟩ := jx_b_some hZ
      have l_26 : ∀ (nn : Nat) (x4_24 : Int32) (S_25 : St) (H : Heap) (locs : List Loc) (hw : jx_w (g_X12_buy_93 x1_16 x2_16 x3_16) nn (x4_24, S_25) = some r_26) (hP : va_P D vwCl (W_M q k S_25) H) (hD : va_D A (W_M q k S_25)) (hS : va_S A s.heap H locs) (ls : Array Slot) (hl : lv_has ls 5 [(0, .ref (q 0)), (1, .int x1_16), (2, .int x2_16), (3, .int x3_16), (4, .int x4_24)]), W p l e ({ frames := 3, cells := 0, slots := 0, locals := 79 } : Room) s m ([.ref (q 0), .int x1] : List Value).toArray below meth c H locs 0 0 (MQ below (va_Qi (fun r u => (r, u) = Z) (fun u t => va_P D vwCl (W_M q k u) t.heap) A) ([.ref (q 0), .int x1] : List Value).toArray s 0 0 A) (F0 m 93 ls []) := by
        intro nn
        induction nn with
        | zero =>
          intro x4_24 S_25 H locs hw hP hD hS ls hl
          exact jx_w_zero hw
        | succ n_26 ih_26 =>
          intro x4_24 S_25 H locs hw hP hD hS ls hl
          obtain ⟨o_26, hZ, hk_26⟩ := jx_w_succ hw
          have hZ : b_X12_buy_93 x1_16 x2_16 x3_16 x4_24 S_25 = some o_26 := hZ
          unfold b_X12_buy_93 at hZ
          refine lv_iload hx hb dX12_buy_93 (lv_at hl 4 rfl) ?_
          refine lv_aload_n hx hb dX12_buy_95 rfl (lv_at hl 0 rfl) ?_
          refine gf_12_sorts hx hb hts in12 hown hK hP (hts (.fieldLink RX12 114 "CoinsOfLastModel" "sorts" "I") (List.mem_of_getElem? (i := 5) rfl)) dX12_buy_96 ?_
          refine lv_icmp_ge (tgt := 125) hx hb dX12_buy_99 (by decide) (fun c_51 => ?_) (fun c_51 => ?_)
          · have hZ := jx_i_pos c_51 hZ
            have ho := Option.some.inj hZ
            subst ho
            have hE := hza_26
            rw [← (show S_25 = r_26 from hk_26)] at hE
            have hZ : f_X12_buy_125 x1_16 x2_16 x3_16 S_25 = some Z := hE
            exact j125 x1_16 x2_16 x3_16 S_25 _ _ hZ hP hD hS _ (lv_sub hl [0, 1, 2, 3] rfl)
          · have hZ := jx_i_neg c_51 hZ
            refine lv_aload_n hx hb dX12_buy_102 rfl (lv_at hl 0 rfl) ?_
            refine gf_12_purse hx hb hts in12 hown hK hP (hts (.fieldLink RX12 22 "CoinsOfLastModel" "purse" "[I") (List.mem_of_getElem? (i := 6) rfl)) dX12_buy_103 ?_
            refine lv_iload hx hb dX12_buy_106 (lv_at hl 4 rfl) ?_
            refine lv_dup2_11 hx hb dX12_buy_108 rfl rfl ?_
            obtain ⟨c_53, hZ⟩ := jx_a_some hZ
            refine M_iald hx hb hK hP wM_5 c_53 dX12_buy_109 ?_
            refine lv_aload_n hx hb dX12_buy_110 rfl (lv_at hl 0 rfl) ?_
            refine gf_12_taken0 hx hb hts in12 hown hK hP (hts (.fieldLink RX12 81 "CoinsOfLastModel" "taken0" "[I") (List.mem_of_getElem? (i := 7) rfl)) dX12_buy_111 ?_
            refine lv_iload hx hb dX12_buy_114 (lv_at hl 4 rfl) ?_
            obtain ⟨c_54, hZ⟩ := jx_a_some hZ
            refine M_iald hx hb hK hP wM_24 c_54 dX12_buy_116 ?_
            refine lv_isub hx hb dX12_buy_117 ?_
            obtain ⟨c_55, hZ⟩ := jx_a_some hZ
            obtain ⟨S_56, e_S_56, hZ⟩ := jx_l_some hZ
            refine M_iast hx hb hK hP hD hS wM_5 (fun _ => wMs_5) c_55 e_S_56 dX12_buy_118 (fun H locs hP hD hS => ?_)
            obtain ⟨x4_57, e_x4_57, hZ⟩ := jx_l_some hZ
            refine lv_iinc (v := x4_57) (lv' := [(4, .int x4_57), (0, .ref (q 0)), (1, .int x1_16), (2, .int x2_16), (3, .int x3_16)]) hx hb dX12_buy_119 hl (k := 4) rfl (by rw [e_x4_57]; rfl) (by decide) rfl (fun ls hl => ?_)
            refine lv_goto (tgt := 93) hx hb dX12_buy_122 (by decide) ?_
            have ho := Option.some.inj hZ
            subst ho
            exact ih_26 x4_57 S_56 _ _ hk_26 hP hD hS _ (lv_sub hl [1, 2, 3, 4, 0] rfl)
      exact l_26 FU (0 : Int32) S_21 _ _ hw hP hD hS _ (lv_sub hl [1, 2, 3, 4, 0] rfl)
    · have hZ := jx_i_pos c_20 hZ
      refine lv_bipush (v := (-2 : Int32)) hx hb dX12_buy_79 (by decide) ?_
      exact leave_i hx hb hr hlocks hP hS hZ dX12_buy_81
  unfold f_X12_buy at hZ
  refine lv_aload_n hx hb dX12_buy_0 rfl (lv_at hl 0 rfl) ?_
  refine lv_iload_n hx hb dX12_buy_1 rfl (lv_at hl 1 rfl) ?_
  obtain ⟨r_3, S_1, hc_2, hZ⟩ := jx_b2_some hZ
  refine call_Vi SM_ok sameM ⟨hx, hb, hml, hown, hts⟩ (c_X12_isThing l D q k x1 S _ (r_3, S_1)  hc_2) (cwV 1 hts gX12_buy_X12_isThing rfl rfl rfl hd_X12_isThing ⟨Nat.le_of_ble_eq_true rfl, Nat.le_of_ble_eq_true rfl⟩) hK hP hD hS hA hsp (va_recv hK hP (ci := 12) (q0 := 0) rfl wM_0) (As := [.int x1]) rfl hl.1 rfl (Nat.le_of_ble_eq_true rfl) dX12_buy_2 ⟨Nat.zero_le _, Nat.zero_le _⟩ (fun H locs hP hD hS => ?_)
  refine lv_if_ne (tgt := 10) hx hb dX12_buy_5 (by decide) (fun c_4 => ?_) (fun c_4 => ?_)
  · have hZ := jx_i_neg c_4 hZ
    refine lv_aload_n hx hb dX12_buy_10 rfl (lv_at hl 0 rfl) ?_
    refine gf_12_many hx hb hts in12 hown hK hP (hts (.fieldLink RX12 34 "CoinsOfLastModel" "many" "[I") (List.mem_of_getElem? (i := 1) rfl)) dX12_buy_11 ?_
    refine lv_iload_n hx hb dX12_buy_14 rfl (lv_at hl 1 rfl) ?_
    obtain ⟨c_5, hZ⟩ := jx_a_some hZ
    refine M_iald hx hb hK hP wM_9 c_5 dX12_buy_15 ?_
    refine lv_if_ne (tgt := 22) hx hb dX12_buy_16 (by decide) (fun c_6 => ?_) (fun c_6 => ?_)
    · have hZ := jx_i_neg c_6 hZ
      refine lv_aload_n hx hb dX12_buy_22 rfl (lv_at hl 0 rfl) ?_
      refine gf_12_thingLand hx hb hts in12 hown hK hP (hts (.fieldLink RX12 25 "CoinsOfLastModel" "thingLand" "[I") (List.mem_of_getElem? (i := 2) rfl)) dX12_buy_23 ?_
      refine lv_iload_n hx hb dX12_buy_26 rfl (lv_at hl 1 rfl) ?_
      obtain ⟨c_7, hZ⟩ := jx_a_some hZ
      refine M_iald hx hb hK hP wM_6 c_7 dX12_buy_27 ?_
      obtain ⟨x2_8, e_x2_8, hZ⟩ := jx_l_some hZ
      refine tx_i e_x2_8 ?_
      refine lv_istore_n (lv' := [(2, .int x2_8), (0, .ref (q 0)), (1, .int x1)]) hx hb dX12_buy_28 rfl hl (by decide) rfl (fun ls hl => ?_)
      refine lv_aload_n hx hb dX12_buy_29 rfl (lv_at hl 1 rfl) ?_
      refine lv_iload_n hx hb dX12_buy_30 rfl (lv_at hl 0 rfl) ?_
      obtain ⟨S_9, hc_10, hZ⟩ := jx_b_some hZ
      refine call_Vv SM_ok sameM ⟨hx, hb, hml, hown, hts⟩ (c_X12_pays l D q k x2_8 S_1 _ S_9  hc_10) (cwV 1 hts gX12_buy_X12_pays rfl rfl rfl hd_X12_pays ⟨Nat.le_of_ble_eq_true rfl, Nat.le_of_ble_eq_true rfl⟩) hK hP hD hS hA hsp (va_recv hK hP (ci := 12) (q0 := 0) rfl wM_0) (As := [.int x2_8]) rfl hl.1 rfl (Nat.le_of_ble_eq_true rfl) dX12_buy_31 ⟨Nat.zero_le _, Nat.zero_le _⟩ (fun H locs hP hD hS => ?_)
      refine lv_aload_n hx hb dX12_buy_34 rfl (lv_at hl 1 rfl) ?_
      refine gf_12_price hx hb hts in12 hown hK hP (hts (.fieldLink RX12 28 "CoinsOfLastModel" "price" "[I") (List.mem_of_getElem? (i := 3) rfl)) dX12_buy_35 ?_
      refine lv_iload_n hx hb dX12_buy_38 rfl (lv_at hl 2 rfl) ?_
      obtain ⟨c_11, hZ⟩ := jx_a_some hZ
      refine M_iald hx hb hK hP wM_7 c_11 dX12_buy_39 ?_
      obtain ⟨x3_12, e_x3_12, hZ⟩ := jx_l_some hZ
      refine tx_i e_x3_12 ?_
      refine lv_istore_n (lv' := [(3, .int x3_12), (2, .int x2_8), (0, .ref (q 0)), (1, .int x1)]) hx hb dX12_buy_40 rfl hl (by decide) rfl (fun ls hl => ?_)
      obtain ⟨r_15, hw, hza_15⟩ := jx_b_some hZ
      have l_15 : ∀ (nn : Nat) (x3_13 : Int32) (S_14 : St) (H : Heap) (locs : List Loc) (hw : jx_w (g_X12_buy_41 x1 x2_8) nn (x3_13, S_14) = some r_15) (hP : va_P D vwCl (W_M q k S_14) H) (hD : va_D A (W_M q k S_14)) (hS : va_S A s.heap H locs) (ls : Array Slot) (hl : lv_has ls 5 [(0, .ref (q 0)), (1, .int x1), (2, .int x2_8), (3, .int x3_13)]), W p l e ({ frames := 3, cells := 0, slots := 0, locals := 79 } : Room) s m ([.ref (q 0), .int x1] : List Value).toArray below meth c H locs 0 0 (MQ below (va_Qi (fun r u => (r, u) = Z) (fun u t => va_P D vwCl (W_M q k u) t.heap) A) ([.ref (q 0), .int x1] : List Value).toArray s 0 0 A) (F0 m 41 ls []) := by
        intro nn
        induction nn with
        | zero =>
          intro x3_13 S_14 H locs hw hP hD hS ls hl
          exact jx_w_zero hw
        | succ n_15 ih_15 =>
          intro x3_13 S_14 H locs hw hP hD hS ls hl
          obtain ⟨o_15, hZ, hk_15⟩ := jx_w_succ hw
          have hZ : b_X12_buy_41 x1 x2_8 x3_13 S_14 = some o_15 := hZ
          unfold b_X12_buy_41 at hZ
          refine lv_aload_n hx hb dX12_buy_41 rfl (lv_at hl 0 rfl) ?_
          refine gf_12_rules hx hb hts in12 hown hK hP (hts (.fieldLink RX12 37 "CoinsOfLastModel" "rules" "[I") (List.mem_of_getElem? (i := 4) rfl)) dX12_buy_42 ?_
          refine lv_iload_n hx hb dX12_buy_45 rfl (lv_at hl 2 rfl) ?_
          obtain ⟨c_70, hZ⟩ := jx_a_some hZ
          refine M_iald hx hb hK hP wM_10 c_70 dX12_buy_46 ?_
          refine lv_if_le (tgt := 71) hx hb dX12_buy_47 (by decide) (fun c_71 => ?_) (fun c_71 => ?_)
          · have hZ := jx_i_pos c_71 hZ
            have ho := Option.some.inj hZ
            subst ho
            have hE := hza_15
            rw [← (show (x3_13, S_14) = r_15 from hk_15)] at hE
            have hZ : f_X12_buy_71 x1 x2_8 x3_13 S_14 = some Z := hE
            exact j71 x1 x2_8 x3_13 S_14 _ _ hZ hP hD hS _ (lv_sub hl [0, 1, 2, 3] rfl)
          · have hZ := jx_i_neg c_71 hZ
            refine lv_iload_n hx hb dX12_buy_50 rfl (lv_at hl 3 rfl) ?_
            refine lv_sipush (v := (1920 : Int32)) hx hb dX12_buy_51 (by decide) ?_
            refine lv_icmp_gt (tgt := 71) hx hb dX12_buy_54 (by decide) (fun c_73 => ?_) (fun c_73 => ?_)
            · have hZ := jx_i_pos c_73 hZ
              have ho := Option.some.inj hZ
              subst ho
              have hE := hza_15
              rw [← (show (x3_13, S_14) = r_15 from hk_15)] at hE
              have hZ : f_X12_buy_71 x1 x2_8 x3_13 S_14 = some Z := hE
              exact j71 x1 x2_8 x3_13 S_14 _ _ hZ hP hD hS _ (lv_sub hl [0, 1, 2, 3] rfl)
            · have hZ := jx_i_neg c_73 hZ
              refine lv_aload_n hx hb dX12_buy_57 rfl (lv_at hl 0 rfl) ?_
              refine lv_iload_n hx hb dX12_buy_58 rfl (lv_at hl 3 rfl) ?_
              obtain ⟨r_77, S_75, hc_76, hZ⟩ := jx_b2_some hZ
              refine call_Vi SM_ok sameM ⟨hx, hb, hml, hown, hts⟩ (c_X12_canPay l D q k x3_13 S_14 _ (r_77, S_75)  hc_76) (cwV 1 hts gX12_buy_X12_canPay rfl rfl rfl hd_X12_canPay ⟨Nat.le_of_ble_eq_true rfl, Nat.le_of_ble_eq_true rfl⟩) hK hP hD hS hA hsp (va_recv hK hP (ci := 12) (q0 := 0) rfl wM_0) (As := [.int x3_13]) rfl hl.1 rfl (Nat.le_of_ble_eq_true rfl) dX12_buy_59 ⟨Nat.zero_le _, Nat.zero_le _⟩ (fun H locs hP hD hS => ?_)
              refine lv_if_ne (tgt := 71) hx hb dX12_buy_62 (by decide) (fun c_78 => ?_) (fun c_78 => ?_)
              · have hZ := jx_i_neg c_78 hZ
                have ho := Option.some.inj hZ
                subst ho
                have hE := hza_15
                rw [← (show (x3_13, S_75) = r_15 from hk_15)] at hE
                have hZ : f_X12_buy_71 x1 x2_8 x3_13 S_75 = some Z := hE
                exact j71 x1 x2_8 x3_13 S_75 _ _ hZ hP hD hS _ (lv_sub hl [0, 1, 2, 3] rfl)
              · have hZ := jx_i_pos c_78 hZ
                obtain ⟨x3_80, e_x3_80, hZ⟩ := jx_l_some hZ
                refine lv_iinc (v := x3_80) (lv' := [(3, .int x3_80), (0, .ref (q 0)), (1, .int x1), (2, .int x2_8)]) hx hb dX12_buy_65 hl (k := 3) rfl (by rw [e_x3_80]; rfl) (by decide) rfl (fun ls hl => ?_)
                refine lv_goto (tgt := 41) hx hb dX12_buy_68 (by decide) ?_
                have ho := Option.some.inj hZ
                subst ho
                exact ih_15 x3_80 S_75 _ _ hk_15 hP hD hS _ (lv_sub hl [1, 2, 3, 0] rfl)
      exact l_15 FU x3_12 S_9 _ _ hw hP hD hS _ (lv_sub hl [2, 3, 1, 0] rfl)
    · have hZ := jx_i_pos c_6 hZ
      refine lv_bipush (v := (-5 : Int32)) hx hb dX12_buy_19 (by decide) ?_
      exact leave_i hx hb hr hlocks hP hS hZ dX12_buy_21
  · have hZ := jx_i_pos c_4 hZ
    refine lv_iconst (v := (-1 : Int32)) hx hb dX12_buy_8 (by decide) ?_
    exact leave_i hx hb hr hlocks hP hS hZ dX12_buy_9
-- X12_apart
def f_X12_apart (x0 : Int32) (x1 : Int32) (S : St) : Option (Int32 × St) :=
  (if x1 ≤ x0 then some ((x0 - x1), S) else some ((x1 - x0), S))
set_option maxHeartbeats 4000000 in
set_option maxRecDepth 100000 in
theorem c_X12_apart (l : Launch) (D : va_G) (q : Nat → Nat) (k : CI) (x0 : Int32) (x1 : Int32) (S : St) (sz : Nat) (Z : Int32 × St) (hZ : f_X12_apart x0 x1 S = some Z) : MetI W_M SM l yX12_apart wsX12_apart { frames := 0, cells := 0, slots := 0, locals := 0 } [.int x0, .int x1] D q k S sz Z := by
  refine enter (cc := cX12_apart) (maxL := 2) (ret := some .int) (by decide) rfl (Nat.le_of_ble_eq_true rfl) ?_
  intro p e s m below meth c A ls hx hb hr hts hown hlocks hml hP hK hD hA hS hsp hAe hl
  have hown : s.vm.findClass RX12 = some m.cls := hown
  have hl : lv_has ls 2 [(0, .int x0), (1, .int x1)] := hl
  unfold f_X12_apart at hZ
  refine lv_iload_n hx hb dX12_apart_0 rfl (lv_at hl 0 rfl) ?_
  refine lv_iload_n hx hb dX12_apart_1 rfl (lv_at hl 1 rfl) ?_
  refine lv_icmp_ge (tgt := 11) hx hb dX12_apart_2 (by decide) (fun c_1 => ?_) (fun c_1 => ?_)
  · have hZ := jx_i_pos c_1 hZ
    refine lv_iload_n hx hb dX12_apart_11 rfl (lv_at hl 0 rfl) ?_
    refine lv_iload_n hx hb dX12_apart_12 rfl (lv_at hl 1 rfl) ?_
    refine lv_isub hx hb dX12_apart_13 ?_
    exact leave_i hx hb hr hlocks hP hS hZ dX12_apart_14
  · have hZ := jx_i_neg c_1 hZ
    refine lv_iload_n hx hb dX12_apart_5 rfl (lv_at hl 1 rfl) ?_
    refine lv_iload_n hx hb dX12_apart_6 rfl (lv_at hl 0 rfl) ?_
    refine lv_isub hx hb dX12_apart_7 ?_
    refine lv_goto (tgt := 14) hx hb dX12_apart_8 (by decide) ?_
    exact leave_i hx hb hr hlocks hP hS hZ dX12_apart_14
theorem hd_X12_apart : yX12_apart.cls ≠ "java/lang/invoke/MethodHandle" ∧ yX12_apart.cls ≠ "java/lang/invoke/VarHandle" ∧ (parseMethodDescriptor yX12_apart.desc).map (fun d => d.parameters.length) = some 2 := by decide +kernel
-- X12_isLike
def f_X12_isLike (x1 : Int32) (x2 : Int32) (x3 : Int32) (S : St) : Option (Int32 × St) :=
  jx_a x1 8 (jx_a x2 8 (jx_b2 (f_X12_apart (S.1 3 (Int32.toNatClampNeg x1)) (S.1 3 (Int32.toNatClampNeg x2)) S) (fun r_5 S_3 => (if x3 < r_5 then some ((0 : Int32), S_3) else jx_a x1 8 (jx_a x2 8 (jx_b2 (f_X12_apart (S_3.1 4 (Int32.toNatClampNeg x1)) (S_3.1 4 (Int32.toNatClampNeg x2)) S_3) (fun r_11 S_9 => (if x3 < r_11 then some ((0 : Int32), S_9) else some ((1 : Int32), S_9)))))))))
set_option maxHeartbeats 4000000 in
set_option maxRecDepth 100000 in
theorem c_X12_isLike (l : Launch) (D : va_G) (q : Nat → Nat) (k : CI) (x1 : Int32) (x2 : Int32) (x3 : Int32) (S : St) (sz : Nat) (Z : Int32 × St) (hZ : f_X12_isLike x1 x2 x3 S = some Z) : MetI W_M SM l yX12_isLike wsX12_isLike { frames := 1, cells := 0, slots := 0, locals := 21 } [.ref (q 0), .int x1, .int x2, .int x3] D q k S sz Z := by
  refine enter (cc := cX12_isLike) (maxL := 4) (ret := some .boolean) (by decide) rfl (Nat.le_of_ble_eq_true rfl) ?_
  intro p e s m below meth c A ls hx hb hr hts hown hlocks hml hP hK hD hA hS hsp hAe hl
  have hown : s.vm.findClass RX12 = some m.cls := hown
  have hl : lv_has ls 4 [(0, .ref (q 0)), (1, .int x1), (2, .int x2), (3, .int x3)] := hl
  have in12 : ∀ w ∈ wsX120, w ∈ wsX12_isLike := fun _ h => (List.mem_cons_of_mem _ (List.mem_append_right _ h))
  unfold f_X12_isLike at hZ
  refine lv_aload_n hx hb dX12_isLike_0 rfl (lv_at hl 0 rfl) ?_
  refine gf_12_sizeOf hx hb hts in12 hown hK hP (hts (.fieldLink RX12 16 "CoinsOfLastModel" "sizeOf" "[I") (List.mem_of_getElem? (i := 1) rfl)) dX12_isLike_1 ?_
  refine lv_iload_n hx hb dX12_isLike_4 rfl (lv_at hl 1 rfl) ?_
  obtain ⟨c_1, hZ⟩ := jx_a_some hZ
  refine M_iald hx hb hK hP wM_3 c_1 dX12_isLike_5 ?_
  refine lv_aload_n hx hb dX12_isLike_6 rfl (lv_at hl 0 rfl) ?_
  refine gf_12_sizeOf hx hb hts in12 hown hK hP (hts (.fieldLink RX12 16 "CoinsOfLastModel" "sizeOf" "[I") (List.mem_of_getElem? (i := 1) rfl)) dX12_isLike_7 ?_
  refine lv_iload_n hx hb dX12_isLike_10 rfl (lv_at hl 2 rfl) ?_
  obtain ⟨c_2, hZ⟩ := jx_a_some hZ
  refine M_iald hx hb hK hP wM_3 c_2 dX12_isLike_11 ?_
  obtain ⟨r_5, S_3, hc_4, hZ⟩ := jx_b2_some hZ
  refine call_Si SM_ok sameM ⟨hx, hb, hml, hown, hts⟩ (c_X12_apart l D q k (S.1 3 (Int32.toNatClampNeg x1)) (S.1 3 (Int32.toNatClampNeg x2)) S _ (r_5, S_3)  hc_4) (va_cwS 2 hts gX12_isLike_X12_apart rfl rfl rfl hd_X12_apart ⟨Nat.le_of_ble_eq_true rfl, Nat.le_of_ble_eq_true rfl⟩) hK hP hD hS hA hsp (As := [.int (S.1 3 (Int32.toNatClampNeg x1)), .int (S.1 3 (Int32.toNatClampNeg x2))]) rfl hl.1 rfl (Nat.le_of_ble_eq_true rfl) dX12_isLike_12 ⟨Nat.zero_le _, Nat.zero_le _⟩ (fun H locs hP hD hS => ?_)
  refine lv_iload_n hx hb dX12_isLike_15 rfl (lv_at hl 3 rfl) ?_
  refine lv_icmp_gt (tgt := 42) hx hb dX12_isLike_16 (by decide) (fun c_6 => ?_) (fun c_6 => ?_)
  · have hZ := jx_i_pos c_6 hZ
    refine lv_iconst (v := (0 : Int32)) hx hb dX12_isLike_42 (by decide) ?_
    exact leave_z hx hb hr hlocks rfl hP hS hZ dX12_isLike_43
  · have hZ := jx_i_neg c_6 hZ
    refine lv_aload_n hx hb dX12_isLike_19 rfl (lv_at hl 0 rfl) ?_
    refine gf_12_weight hx hb hts in12 hown hK hP (hts (.fieldLink RX12 19 "CoinsOfLastModel" "weight" "[I") (List.mem_of_getElem? (i := 2) rfl)) dX12_isLike_20 ?_
    refine lv_iload_n hx hb dX12_isLike_23 rfl (lv_at hl 1 rfl) ?_
    obtain ⟨c_7, hZ⟩ := jx_a_some hZ
    refine M_iald hx hb hK hP wM_4 c_7 dX12_isLike_24 ?_
    refine lv_aload_n hx hb dX12_isLike_25 rfl (lv_at hl 0 rfl) ?_
    refine gf_12_weight hx hb hts in12 hown hK hP (hts (.fieldLink RX12 19 "CoinsOfLastModel" "weight" "[I") (List.mem_of_getElem? (i := 2) rfl)) dX12_isLike_26 ?_
    refine lv_iload_n hx hb dX12_isLike_29 rfl (lv_at hl 2 rfl) ?_
    obtain ⟨c_8, hZ⟩ := jx_a_some hZ
    refine M_iald hx hb hK hP wM_4 c_8 dX12_isLike_30 ?_
    obtain ⟨r_11, S_9, hc_10, hZ⟩ := jx_b2_some hZ
    refine call_Si SM_ok sameM ⟨hx, hb, hml, hown, hts⟩ (c_X12_apart l D q k (S_3.1 4 (Int32.toNatClampNeg x1)) (S_3.1 4 (Int32.toNatClampNeg x2)) S_3 _ (r_11, S_9)  hc_10) (va_cwS 2 hts gX12_isLike_X12_apart rfl rfl rfl hd_X12_apart ⟨Nat.le_of_ble_eq_true rfl, Nat.le_of_ble_eq_true rfl⟩) hK hP hD hS hA hsp (As := [.int (S_3.1 4 (Int32.toNatClampNeg x1)), .int (S_3.1 4 (Int32.toNatClampNeg x2))]) rfl hl.1 rfl (Nat.le_of_ble_eq_true rfl) dX12_isLike_31 ⟨Nat.zero_le _, Nat.zero_le _⟩ (fun H locs hP hD hS => ?_)
    refine lv_iload_n hx hb dX12_isLike_34 rfl (lv_at hl 3 rfl) ?_
    refine lv_icmp_gt (tgt := 42) hx hb dX12_isLike_35 (by decide) (fun c_12 => ?_) (fun c_12 => ?_)
    · have hZ := jx_i_pos c_12 hZ
      refine lv_iconst (v := (0 : Int32)) hx hb dX12_isLike_42 (by decide) ?_
      exact leave_z hx hb hr hlocks rfl hP hS hZ dX12_isLike_43
    · have hZ := jx_i_neg c_12 hZ
      refine lv_iconst (v := (1 : Int32)) hx hb dX12_isLike_38 (by decide) ?_
      refine lv_goto (tgt := 43) hx hb dX12_isLike_39 (by decide) ?_
      exact leave_z hx hb hr hlocks rfl hP hS hZ dX12_isLike_43
theorem hd_X12_isLike : yX12_isLike.cls = RX12 ∧ yX12_isLike.cls ≠ "java/lang/invoke/MethodHandle" ∧ yX12_isLike.cls ≠ "java/lang/invoke/VarHandle" ∧ (parseMethodDescriptor yX12_isLike.desc).map (fun d => d.parameters.length) = some 3 := by decide +kernel
-- X12_like
def f_X12_like_62 (x3_13 : Int32) (S_13 : St) : Option (Int32 × St) :=
  some (x3_13, S_13)
def f_X12_like_54i25 (x1 : Int32) (x2 : Int32) (x4_21 : Int32) (s0_21 : Int32) (s1_21 : Int32) (S_21 : St) : Option ((Int32 × Int32 × St) ⊕ ((Int32 × St))) :=
  jx_l (s0_21 ||| s1_21) (fun x3_22 => jx_l (x4_21 + 1) (fun x4_23 => some (.inl (x3_22, x4_23, S_21))))
def b_X12_like_25 (x1 : Int32) (x2 : Int32) (x3 : Int32) (x4 : Int32) (S : St) : Option ((Int32 × Int32 × St) ⊕ ((Int32 × St))) :=
  (if (S.1 0 0) ≤ x4 then some (.inr (x3, S)) else jx_b2 (f_X12_isLike x1 x4 x2 S) (fun r_19 S_17 => (if r_19 = 0 then f_X12_like_54i25 x1 x2 x4 x3 (0 : Int32) S_17 else f_X12_like_54i25 x1 x2 x4 x3 ((1 : Int32) <<< (x4 &&& 31)) S_17)))
def g_X12_like_25 (x1 : Int32) (x2 : Int32) : (Int32 × Int32 × St) → Option ((Int32 × Int32 × St) ⊕ ((Int32 × St))) := fun z => b_X12_like_25 x1 x2 z.1 z.2.1 z.2.2
def f_X12_like (x1 : Int32) (x2 : Int32) (S : St) : Option (Int32 × St) :=
  jx_b2 (f_X12_isSort x1 S) (fun r_3 S_1 => (if r_3 = 0 then some ((-1 : Int32), S_1) else jx_b2 (f_X12_in x2 (0 : Int32) (99 : Int32) S_1) (fun r_7 S_5 => (if r_7 = 0 then some ((-1 : Int32), S_5) else jx_b (jx_w (g_X12_like_25 x1 x2) FU ((0 : Int32), (0 : Int32), S_5)) (fun z => f_X12_like_62 z.1 z.2)))))
set_option maxHeartbeats 4000000 in
set_option maxRecDepth 100000 in
theorem c_X12_like (l : Launch) (D : va_G) (q : Nat → Nat) (k : CI) (x1 : Int32) (x2 : Int32) (S : St) (sz : Nat) (Z : Int32 × St) (hZ : f_X12_like x1 x2 S = some Z) : MetI W_M SM l yX12_like wsX12_like { frames := 2, cells := 0, slots := 0, locals := 44 } [.ref (q 0), .int x1, .int x2] D q k S sz Z := by
  refine enter (cc := cX12_like) (maxL := 5) (ret := some .int) (by decide) rfl (Nat.le_of_ble_eq_true rfl) ?_
  intro p e s m below meth c A ls hx hb hr hts hown hlocks hml hP hK hD hA hS hsp hAe hl
  have hown : s.vm.findClass RX12 = some m.cls := hown
  have hl : lv_has ls 5 [(0, .ref (q 0)), (1, .int x1), (2, .int x2)] := hl
  have in12 : ∀ w ∈ wsX120, w ∈ wsX12_like := fun _ h => (List.mem_cons_of_mem _ (List.mem_append_right _ h))
  have j62 : ∀ (x3_13 : Int32) (S_13 : St)  (H : Heap) (locs : List Loc) (hZ : f_X12_like_62 x3_13 S_13 = some Z) (hP : va_P D vwCl (W_M q k S_13) H) (hD : va_D A (W_M q k S_13)) (hS : va_S A s.heap H locs) (ls : Array Slot) (hl : lv_has ls 5 [(3, .int x3_13)]), W p l e ({ frames := 2, cells := 0, slots := 0, locals := 44 } : Room) s m ([.ref (q 0), .int x1, .int x2] : List Value).toArray below meth c H locs 0 0 (MQ below (va_Qi (fun r u => (r, u) = Z) (fun u t => va_P D vwCl (W_M q k u) t.heap) A) ([.ref (q 0), .int x1, .int x2] : List Value).toArray s 0 0 A) (F0 m 62 ls []) := by
    intro x3_13 S_13   H locs hZ hP hD hS ls hl
    unfold f_X12_like_62 at hZ
    refine lv_iload_n hx hb dX12_like_62 rfl (lv_at hl 0 rfl) ?_
    exact leave_i hx hb hr hlocks hP hS hZ dX12_like_63
  unfold f_X12_like at hZ
  refine lv_aload_n hx hb dX12_like_0 rfl (lv_at hl 0 rfl) ?_
  refine lv_iload_n hx hb dX12_like_1 rfl (lv_at hl 1 rfl) ?_
  obtain ⟨r_3, S_1, hc_2, hZ⟩ := jx_b2_some hZ
  refine call_Vi SM_ok sameM ⟨hx, hb, hml, hown, hts⟩ (c_X12_isSort l D q k x1 S _ (r_3, S_1)  hc_2) (cwV 1 hts gX12_like_X12_isSort rfl rfl rfl hd_X12_isSort ⟨Nat.le_of_ble_eq_true rfl, Nat.le_of_ble_eq_true rfl⟩) hK hP hD hS hA hsp (va_recv hK hP (ci := 12) (q0 := 0) rfl wM_0) (As := [.int x1]) rfl hl.1 rfl (Nat.le_of_ble_eq_true rfl) dX12_like_2 ⟨Nat.zero_le _, Nat.zero_le _⟩ (fun H locs hP hD hS => ?_)
  refine lv_if_eq (tgt := 18) hx hb dX12_like_5 (by decide) (fun c_4 => ?_) (fun c_4 => ?_)
  · have hZ := jx_i_pos c_4 hZ
    refine lv_iconst (v := (-1 : Int32)) hx hb dX12_like_18 (by decide) ?_
    exact leave_i hx hb hr hlocks hP hS hZ dX12_like_19
  · have hZ := jx_i_neg c_4 hZ
    refine lv_iload_n hx hb dX12_like_8 rfl (lv_at hl 2 rfl) ?_
    refine lv_iconst (v := (0 : Int32)) hx hb dX12_like_9 (by decide) ?_
    refine lv_bipush (v := (99 : Int32)) hx hb dX12_like_10 (by decide) ?_
    obtain ⟨r_7, S_5, hc_6, hZ⟩ := jx_b2_some hZ
    refine call_Si SM_ok sameM ⟨hx, hb, hml, hown, hts⟩ (c_X12_in l D q k x2 (0 : Int32) (99 : Int32) S_1 _ (r_7, S_5)  hc_6) (va_cwS 3 hts gX12_like_X12_in rfl rfl rfl hd_X12_in ⟨Nat.le_of_ble_eq_true rfl, Nat.le_of_ble_eq_true rfl⟩) hK hP hD hS hA hsp (As := [.int x2, .int (0 : Int32), .int (99 : Int32)]) rfl hl.1 rfl (Nat.le_of_ble_eq_true rfl) dX12_like_12 ⟨Nat.zero_le _, Nat.zero_le _⟩ (fun H locs hP hD hS => ?_)
    refine lv_if_ne (tgt := 20) hx hb dX12_like_15 (by decide) (fun c_8 => ?_) (fun c_8 => ?_)
    · have hZ := jx_i_neg c_8 hZ
      refine lv_iconst (v := (0 : Int32)) hx hb dX12_like_20 (by decide) ?_
      refine lv_istore_n (lv' := [(3, .int (0 : Int32)), (0, .ref (q 0)), (1, .int x1), (2, .int x2)]) hx hb dX12_like_21 rfl hl (by decide) rfl (fun ls hl => ?_)
      refine lv_iconst (v := (0 : Int32)) hx hb dX12_like_22 (by decide) ?_
      refine lv_istore (lv' := [(4, .int (0 : Int32)), (3, .int (0 : Int32)), (0, .ref (q 0)), (1, .int x1), (2, .int x2)]) hx hb dX12_like_23 hl (by decide) rfl (fun ls hl => ?_)
      obtain ⟨r_12, hw, hza_12⟩ := jx_b_some hZ
      have l_12 : ∀ (nn : Nat) (x3_9 : Int32) (x4_10 : Int32) (S_11 : St) (H : Heap) (locs : List Loc) (hw : jx_w (g_X12_like_25 x1 x2) nn (x3_9, x4_10, S_11) = some r_12) (hP : va_P D vwCl (W_M q k S_11) H) (hD : va_D A (W_M q k S_11)) (hS : va_S A s.heap H locs) (ls : Array Slot) (hl : lv_has ls 5 [(0, .ref (q 0)), (1, .int x1), (2, .int x2), (3, .int x3_9), (4, .int x4_10)]), W p l e ({ frames := 2, cells := 0, slots := 0, locals := 44 } : Room) s m ([.ref (q 0), .int x1, .int x2] : List Value).toArray below meth c H locs 0 0 (MQ below (va_Qi (fun r u => (r, u) = Z) (fun u t => va_P D vwCl (W_M q k u) t.heap) A) ([.ref (q 0), .int x1, .int x2] : List Value).toArray s 0 0 A) (F0 m 25 ls []) := by
        intro nn
        induction nn with
        | zero =>
          intro x3_9 x4_10 S_11 H locs hw hP hD hS ls hl
          exact jx_w_zero hw
        | succ n_12 ih_12 =>
          intro x3_9 x4_10 S_11 H locs hw hP hD hS ls hl
          obtain ⟨o_12, hZ, hk_12⟩ := jx_w_succ hw
          have hZ : b_X12_like_25 x1 x2 x3_9 x4_10 S_11 = some o_12 := hZ
          have j54i25 : ∀ (x4_32 : Int32) (s0_32 : Int32) (s1_32 : Int32) (S_32 : St)  (o_12 : (Int32 × Int32 × St) ⊕ ((Int32 × St))) (hk_12 : jx_k (g_X12_like_25 x1 x2) n_12 r_12 o_12) (H : Heap) (locs : List Loc) (hZ : f_X12_like_54i25 x1 x2 x4_32 s0_32 s1_32 S_32 = some o_12) (hP : va_P D vwCl (W_M q k S_32) H) (hD : va_D A (W_M q k S_32)) (hS : va_S A s.heap H locs) (ls : Array Slot) (hl : lv_has ls 5 [(0, .ref (q 0)), (1, .int x1), (2, .int x2), (4, .int x4_32)]), W p l e ({ frames := 2, cells := 0, slots := 0, locals := 44 } : Room) s m ([.ref (q 0), .int x1, .int x2] : List Value).toArray below meth c H locs 0 0 (MQ below (va_Qi (fun r u => (r, u) = Z) (fun u t => va_P D vwCl (W_M q k u) t.heap) A) ([.ref (q 0), .int x1, .int x2] : List Value).toArray s 0 0 A) (F0 m 54 ls [.int s1_32, .int s0_32]) := by
            intro x4_32 s0_32 s1_32 S_32  o_12 hk_12 H locs hZ hP hD hS ls hl
            unfold f_X12_like_54i25 at hZ
            refine lv_ior hx hb dX12_like_54 ?_
            obtain ⟨x3_33, e_x3_33, hZ⟩ := jx_l_some hZ
            refine tx_i e_x3_33 ?_
            refine lv_istore_n (lv' := [(3, .int x3_33), (0, .ref (q 0)), (1, .int x1), (2, .int x2), (4, .int x4_32)]) hx hb dX12_like_55 rfl hl (by decide) rfl (fun ls hl => ?_)
            obtain ⟨x4_34, e_x4_34, hZ⟩ := jx_l_some hZ
            refine lv_iinc (v := x4_34) (lv' := [(4, .int x4_34), (3, .int x3_33), (0, .ref (q 0)), (1, .int x1), (2, .int x2)]) hx hb dX12_like_56 hl (k := 4) rfl (by rw [e_x4_34]; rfl) (by decide) rfl (fun ls hl => ?_)
            refine lv_goto (tgt := 25) hx hb dX12_like_59 (by decide) ?_
            have ho := Option.some.inj hZ
            subst ho
            exact ih_12 x3_33 x4_34 S_32 _ _ hk_12 hP hD hS _ (lv_sub hl [2, 3, 4, 1, 0] rfl)
          unfold b_X12_like_25 at hZ
          refine lv_iload hx hb dX12_like_25 (lv_at hl 4 rfl) ?_
          refine lv_aload_n hx hb dX12_like_27 rfl (lv_at hl 0 rfl) ?_
          refine gf_12_sorts hx hb hts in12 hown hK hP (hts (.fieldLink RX12 114 "CoinsOfLastModel" "sorts" "I") (List.mem_of_getElem? (i := 1) rfl)) dX12_like_28 ?_
          refine lv_icmp_ge (tgt := 62) hx hb dX12_like_31 (by decide) (fun c_26 => ?_) (fun c_26 => ?_)
          · have hZ := jx_i_pos c_26 hZ
            have ho := Option.some.inj hZ
            subst ho
            have hE := hza_12
            rw [← (show (x3_9, S_11) = r_12 from hk_12)] at hE
            have hZ : f_X12_like_62 x3_9 S_11 = some Z := hE
            exact j62 x3_9 S_11 _ _ hZ hP hD hS _ (lv_sub hl [3] rfl)
          · have hZ := jx_i_neg c_26 hZ
            refine lv_iload_n hx hb dX12_like_34 rfl (lv_at hl 3 rfl) ?_
            refine lv_aload_n hx hb dX12_like_35 rfl (lv_at hl 0 rfl) ?_
            refine lv_iload_n hx hb dX12_like_36 rfl (lv_at hl 1 rfl) ?_
            refine lv_iload hx hb dX12_like_37 (lv_at hl 4 rfl) ?_
            refine lv_iload_n hx hb dX12_like_39 rfl (lv_at hl 2 rfl) ?_
            obtain ⟨r_30, S_28, hc_29, hZ⟩ := jx_b2_some hZ
            refine call_Vi SM_ok sameM ⟨hx, hb, hml, hown, hts⟩ (c_X12_isLike l D q k x1 x4_10 x2 S_11 _ (r_30, S_28)  hc_29) (cwV 3 hts gX12_like_X12_isLike rfl rfl rfl hd_X12_isLike ⟨Nat.le_of_ble_eq_true rfl, Nat.le_of_ble_eq_true rfl⟩) hK hP hD hS hA hsp (va_recv hK hP (ci := 12) (q0 := 0) rfl wM_0) (As := [.int x1, .int x4_10, .int x2]) rfl hl.1 rfl (Nat.le_of_ble_eq_true rfl) dX12_like_40 ⟨Nat.zero_le _, Nat.zero_le _⟩ (fun H locs hP hD hS => ?_)
            refine lv_if_eq (tgt := 53) hx hb dX12_like_43 (by decide) (fun c_31 => ?_) (fun c_31 => ?_)
            · have hZ := jx_i_pos c_31 hZ
              refine lv_iconst (v := (0 : Int32)) hx hb dX12_like_53 (by decide) ?_
              exact j54i25 x4_10 x3_9 (0 : Int32) S_28 _ hk_12 _ _ hZ hP hD hS _ (lv_sub hl [0, 1, 2, 4] rfl)
            · have hZ := jx_i_neg c_31 hZ
              refine lv_iconst (v := (1 : Int32)) hx hb dX12_like_46 (by decide) ?_
              refine lv_iload hx hb dX12_like_47 (lv_at hl 4 rfl) ?_
              refine lv_ishl hx hb dX12_like_49 ?_
              refine lv_goto (tgt := 54) hx hb dX12_like_50 (by decide) ?_
              exact j54i25 x4_10 x3_9 ((1 : Int32) <<< (x4_10 &&& 31)) S_28 _ hk_12 _ _ hZ hP hD hS _ (lv_sub hl [0, 1, 2, 4] rfl)
      exact l_12 FU (0 : Int32) (0 : Int32) S_5 _ _ hw hP hD hS _ (lv_sub hl [2, 3, 4, 1, 0] rfl)
    · have hZ := jx_i_pos c_8 hZ
      refine lv_iconst (v := (-1 : Int32)) hx hb dX12_like_18 (by decide) ?_
      exact leave_i hx hb hr hlocks hP hS hZ dX12_like_19
-- X12_worthIn
def f_X12_worthIn (x1 : Int32) (x2 : Int32) (x3 : Int32) (S : St) : Option (Int32 × St) :=
  jx_a x1 8 (jx_a x1 8 (jx_b2 (f_X12_rateOf (S.1 1 (Int32.toNatClampNeg x1)) x2 x3 S) (fun r_5 S_3 => jx_d (1000 : Int32) (some ((((S.1 2 (Int32.toNatClampNeg x1)) * r_5) / (1000 : Int32)), S_3)))))
set_option maxHeartbeats 4000000 in
set_option maxRecDepth 100000 in
theorem c_X12_worthIn (l : Launch) (D : va_G) (q : Nat → Nat) (k : CI) (x1 : Int32) (x2 : Int32) (x3 : Int32) (S : St) (sz : Nat) (Z : Int32 × St) (hZ : f_X12_worthIn x1 x2 x3 S = some Z) : MetI W_M SM l yX12_worthIn wsX12_worthIn { frames := 4, cells := 0, slots := 0, locals := 94 } [.ref (q 0), .int x1, .int x2, .int x3] D q k S sz Z := by
  refine enter (cc := cX12_worthIn) (maxL := 4) (ret := some .int) (by decide) rfl (Nat.le_of_ble_eq_true rfl) ?_
  intro p e s m below meth c A ls hx hb hr hts hown hlocks hml hP hK hD hA hS hsp hAe hl
  have hown : s.vm.findClass RX12 = some m.cls := hown
  have hl : lv_has ls 4 [(0, .ref (q 0)), (1, .int x1), (2, .int x2), (3, .int x3)] := hl
  have in12 : ∀ w ∈ wsX120, w ∈ wsX12_worthIn := fun _ h => (List.mem_cons_of_mem _ (List.mem_append_right _ h))
  unfold f_X12_worthIn at hZ
  refine lv_aload_n hx hb dX12_worthIn_0 rfl (lv_at hl 0 rfl) ?_
  refine gf_12_worth hx hb hts in12 hown hK hP (hts (.fieldLink RX12 13 "CoinsOfLastModel" "worth" "[I") (List.mem_of_getElem? (i := 1) rfl)) dX12_worthIn_1 ?_
  refine lv_iload_n hx hb dX12_worthIn_4 rfl (lv_at hl 1 rfl) ?_
  obtain ⟨c_1, hZ⟩ := jx_a_some hZ
  refine M_iald hx hb hK hP wM_2 c_1 dX12_worthIn_5 ?_
  refine lv_aload_n hx hb dX12_worthIn_6 rfl (lv_at hl 0 rfl) ?_
  refine lv_aload_n hx hb dX12_worthIn_7 rfl (lv_at hl 0 rfl) ?_
  refine gf_12_landOf hx hb hts in12 hown hK hP (hts (.fieldLink RX12 7 "CoinsOfLastModel" "landOf" "[I") (List.mem_of_getElem? (i := 2) rfl)) dX12_worthIn_8 ?_
  refine lv_iload_n hx hb dX12_worthIn_11 rfl (lv_at hl 1 rfl) ?_
  obtain ⟨c_2, hZ⟩ := jx_a_some hZ
  refine M_iald hx hb hK hP wM_1 c_2 dX12_worthIn_12 ?_
  refine lv_iload_n hx hb dX12_worthIn_13 rfl (lv_at hl 2 rfl) ?_
  refine lv_iload_n hx hb dX12_worthIn_14 rfl (lv_at hl 3 rfl) ?_
  obtain ⟨r_5, S_3, hc_4, hZ⟩ := jx_b2_some hZ
  refine call_Vi SM_ok sameM ⟨hx, hb, hml, hown, hts⟩ (c_X12_rateOf l D q k (S.1 1 (Int32.toNatClampNeg x1)) x2 x3 S _ (r_5, S_3)  hc_4) (cwV 3 hts gX12_worthIn_X12_rateOf rfl rfl rfl hd_X12_rateOf ⟨Nat.le_of_ble_eq_true rfl, Nat.le_of_ble_eq_true rfl⟩) hK hP hD hS hA hsp (va_recv hK hP (ci := 12) (q0 := 0) rfl wM_0) (As := [.int (S.1 1 (Int32.toNatClampNeg x1)), .int x2, .int x3]) rfl hl.1 rfl (Nat.le_of_ble_eq_true rfl) dX12_worthIn_15 ⟨Nat.zero_le _, Nat.zero_le _⟩ (fun H locs hP hD hS => ?_)
  refine lv_imul hx hb dX12_worthIn_18 ?_
  refine lv_sipush (v := (1000 : Int32)) hx hb dX12_worthIn_19 (by decide) ?_
  obtain ⟨c_6, hZ⟩ := jx_d_some hZ
  refine lv_idiv hx hb dX12_worthIn_22 c_6 ?_
  exact leave_i hx hb hr hlocks hP hS hZ dX12_worthIn_23
theorem hd_X12_worthIn : yX12_worthIn.cls = RX12 ∧ yX12_worthIn.cls ≠ "java/lang/invoke/MethodHandle" ∧ yX12_worthIn.cls ≠ "java/lang/invoke/VarHandle" ∧ (parseMethodDescriptor yX12_worthIn.desc).map (fun d => d.parameters.length) = some 3 := by decide +kernel
-- X12_standIn
def f_X12_standIn_35 (S_5 : St) : Option (Int32 × St) :=
  some ((-2000000000 : Int32), S_5)
def f_X12_standIn_133 (x1_25 : Int32) (x3_25 : Int32) (x4_25 : Int32) (x5_25 : Int32) (S_25 : St) : Option (Int32 × St) :=
  (if x5_25 = (-1 : Int32) then some ((-1 : Int32), S_25) else (if x4_25 = 0 then some (x5_25, S_25) else jx_a x1_25 8 (jx_a x1_25 8 (jx_b2 (f_X12_worthIn x5_25 (S_25.1 1 (Int32.toNatClampNeg x1_25)) x3_25 S_25) (fun r_32 S_30 => some (((S_25.1 2 (Int32.toNatClampNeg x1_25)) - r_32), S_30))))))
def f_X12_standIn_125i45 (x1 : Int32) (x2 : Int32) (x3 : Int32) (x4 : Int32) (x6_41 : Int32) (s0_41 : Int32) (S_41 : St) : Option ((Int32 × Int32 × St) ⊕ ((Int32 × St))) :=
  jx_l (x6_41 + 1) (fun x6_42 => some (.inl (s0_41, x6_42, S_41)))
def f_X12_standIn_123i45 (x1 : Int32) (x2 : Int32) (x3 : Int32) (x4 : Int32) (x5_40 : Int32) (x6_40 : Int32) (S_40 : St) : Option ((Int32 × Int32 × St) ⊕ ((Int32 × St))) :=
  f_X12_standIn_125i45 x1 x2 x3 x4 x6_40 x5_40 S_40
def f_X12_standIn_118i45 (x1 : Int32) (x2 : Int32) (x3 : Int32) (x4 : Int32) (x6_46 : Int32) (S_46 : St) : Option ((Int32 × Int32 × St) ⊕ ((Int32 × St))) :=
  f_X12_standIn_125i45 x1 x2 x3 x4 x6_46 x6_46 S_46
def f_X12_standIn_76i45 (x1 : Int32) (x2 : Int32) (x3 : Int32) (x4 : Int32) (x5_38 : Int32) (x6_38 : Int32) (s0_38 : Int32) (S_38 : St) : Option ((Int32 × Int32 × St) ⊕ ((Int32 × St))) :=
  (if s0_38 = 0 then f_X12_standIn_123i45 x1 x2 x3 x4 x5_38 x6_38 S_38 else (if x5_38 = (-1 : Int32) then f_X12_standIn_118i45 x1 x2 x3 x4 x6_38 S_38 else jx_a x1 8 (jx_b2 (f_X12_worthIn x6_38 (S_38.1 1 (Int32.toNatClampNeg x1)) x3 S_38) (fun r_52 S_50 => jx_a x1 8 (jx_b2 (f_X12_worthIn x5_38 (S_50.1 1 (Int32.toNatClampNeg x1)) x3 S_50) (fun r_56 S_54 => (if r_56 ≤ r_52 then f_X12_standIn_123i45 x1 x2 x3 x4 x5_38 x6_38 S_54 else f_X12_standIn_118i45 x1 x2 x3 x4 x6_38 S_54)))))))
def f_X12_standIn_75i45 (x1 : Int32) (x2 : Int32) (x3 : Int32) (x4 : Int32) (x5_37 : Int32) (x6_37 : Int32) (S_37 : St) : Option ((Int32 × Int32 × St) ⊕ ((Int32 × St))) :=
  f_X12_standIn_76i45 x1 x2 x3 x4 x5_37 x6_37 (0 : Int32) S_37
def b_X12_standIn_45 (x1 : Int32) (x2 : Int32) (x3 : Int32) (x4 : Int32) (x5 : Int32) (x6 : Int32) (S : St) : Option ((Int32 × Int32 × St) ⊕ ((Int32 × St))) :=
  (if (S.1 0 0) ≤ x6 then some (.inr (x5, S)) else (if x6 = x1 then f_X12_standIn_75i45 x1 x2 x3 x4 x5 x6 S else jx_b2 (f_X12_isLike x1 x6 x2 S) (fun r_64 S_62 => (if r_64 = 0 then f_X12_standIn_75i45 x1 x2 x3 x4 x5 x6 S_62 else f_X12_standIn_76i45 x1 x2 x3 x4 x5 x6 (1 : Int32) S_62))))
def g_X12_standIn_45 (x1 : Int32) (x2 : Int32) (x3 : Int32) (x4 : Int32) : (Int32 × Int32 × St) → Option ((Int32 × Int32 × St) ⊕ ((Int32 × St))) := fun z => b_X12_standIn_45 x1 x2 x3 x4 z.1 z.2.1 z.2.2
def f_X12_standIn (x1 : Int32) (x2 : Int32) (x3 : Int32) (x4 : Int32) (S : St) : Option (Int32 × St) :=
  jx_b2 (f_X12_isSort x1 S) (fun r_3 S_1 => (if r_3 = 0 then f_X12_standIn_35 S_1 else jx_b2 (f_X12_in x2 (0 : Int32) (99 : Int32) S_1) (fun r_9 S_7 => (if r_9 = 0 then f_X12_standIn_35 S_7 else jx_b2 (f_X12_isDay x3 S_7) (fun r_14 S_12 => (if r_14 = 0 then f_X12_standIn_35 S_12 else jx_b2 (f_X12_in x4 (0 : Int32) (1 : Int32) S_12) (fun r_19 S_17 => (if r_19 = 0 then f_X12_standIn_35 S_17 else jx_b (jx_w (g_X12_standIn_45 x1 x2 x3 x4) FU ((-1 : Int32), (0 : Int32), S_17)) (fun z => f_X12_standIn_133 x1 x3 x4 z.1 z.2)))))))))
set_option maxHeartbeats 4000000 in
set_option maxRecDepth 100000 in
theorem c_X12_standIn (l : Launch) (D : va_G) (q : Nat → Nat) (k : CI) (x1 : Int32) (x2 : Int32) (x3 : Int32) (x4 : Int32) (S : St) (sz : Nat) (Z : Int32 × St) (hZ : f_X12_standIn x1 x2 x3 x4 S = some Z) : MetI W_M SM l yX12_standIn wsX12_standIn { frames := 5, cells := 0, slots := 0, locals := 117 } [.ref (q 0), .int x1, .int x2, .int x3, .int x4] D q k S sz Z := by
  refine enter (cc := cX12_standIn) (maxL := 8) (ret := some .int) (by decide) rfl (Nat.le_of_ble_eq_true rfl) ?_
  intro p e s m below meth c A ls hx hb hr hts hown hlocks hml hP hK hD hA hS hsp hAe hl
  have hown : s.vm.findClass RX12 = some m.cls := hown
  have hl : lv_has ls 8 [(0, .ref (q 0)), (1, .int x1), (2, .int x2), (3, .int x3), (4, .int x4)] := hl
  have in12 : ∀ w ∈ wsX120, w ∈ wsX12_standIn := fun _ h => (List.mem_cons_of_mem _ (List.mem_append_right _ h))
  have j35 : ∀ (S_5 : St)  (H : Heap) (locs : List Loc) (hZ : f_X12_standIn_35 S_5 = some Z) (hP : va_P D vwCl (W_M q k S_5) H) (hD : va_D A (W_M q k S_5)) (hS : va_S A s.heap H locs) (ls : Array Slot) (hl : lv_has ls 8 []), W p l e ({ frames := 5, cells := 0, slots := 0, locals := 117 } : Room) s m ([.ref (q 0), .int x1, .int x2, .int x3, .int x4] : List Value).toArray below meth c H locs 0 0 (MQ below (va_Qi (fun r u => (r, u) = Z) (fun u t => va_P D vwCl (W_M q k u) t.heap) A) ([.ref (q 0), .int x1, .int x2, .int x3, .int x4] : List Value).toArray s 0 0 A) (F0 m 35 ls []) := by
    intro S_5   H locs hZ hP hD hS ls hl
    unfold f_X12_standIn_35 at hZ
    refine lv_ldcw (v := (-2000000000 : Int32)) hx hb hown (hts (.constant RX12 294 (-2000000000)) (List.mem_of_getElem? (i := 1) rfl)) dX12_standIn_35 ?_
    exact leave_i hx hb hr hlocks hP hS hZ dX12_standIn_38
  have j133 : ∀ (x1_25 : Int32) (x3_25 : Int32) (x4_25 : Int32) (x5_25 : Int32) (S_25 : St)  (H : Heap) (locs : List Loc) (hZ : f_X12_standIn_133 x1_25 x3_25 x4_25 x5_25 S_25 = some Z) (hP : va_P D vwCl (W_M q k S_25) H) (hD : va_D A (W_M q k S_25)) (hS : va_S A s.heap H locs) (ls : Array Slot) (hl : lv_has ls 8 [(0, .ref (q 0)), (1, .int x1_25), (3, .int x3_25), (4, .int x4_25), (5, .int x5_25)]), W p l e ({ frames := 5, cells := 0, slots := 0, locals := 117 } : Room) s m ([.ref (q 0), .int x1, .int x2, .int x3, .int x4] : List Value).toArray below meth c H locs 0 0 (MQ below (va_Qi (fun r u => (r, u) = Z) (fun u t => va_P D vwCl (W_M q k u) t.heap) A) ([.ref (q 0), .int x1, .int x2, .int x3, .int x4] : List Value).toArray s 0 0 A) (F0 m 133 ls []) := by
    intro x1_25 x3_25 x4_25 x5_25 S_25   H locs hZ hP hD hS ls hl
    unfold f_X12_standIn_133 at hZ
    refine lv_iload hx hb dX12_standIn_133 (lv_at hl 4 rfl) ?_
    refine lv_iconst (v := (-1 : Int32)) hx hb dX12_standIn_135 (by decide) ?_
    refine lv_icmp_ne (tgt := 143) hx hb dX12_standIn_136 (by decide) (fun c_26 => ?_) (fun c_26 => ?_)
    · have hZ := jx_i_neg c_26 hZ
      refine lv_iload hx hb dX12_standIn_143 (lv_at hl 3 rfl) ?_
      refine lv_if_ne (tgt := 153) hx hb dX12_standIn_145 (by decide) (fun c_27 => ?_) (fun c_27 => ?_)
      · have hZ := jx_i_neg c_27 hZ
        refine lv_aload_n hx hb dX12_standIn_153 rfl (lv_at hl 0 rfl) ?_
        refine gf_12_worth hx hb hts in12 hown hK hP (hts (.fieldLink RX12 13 "CoinsOfLastModel" "worth" "[I") (List.mem_of_getElem? (i := 4) rfl)) dX12_standIn_154 ?_
        refine lv_iload_n hx hb dX12_standIn_157 rfl (lv_at hl 1 rfl) ?_
        obtain ⟨c_28, hZ⟩ := jx_a_some hZ
        refine M_iald hx hb hK hP wM_2 c_28 dX12_standIn_158 ?_
        refine lv_aload_n hx hb dX12_standIn_159 rfl (lv_at hl 0 rfl) ?_
        refine lv_iload hx hb dX12_standIn_160 (lv_at hl 4 rfl) ?_
        refine lv_aload_n hx hb dX12_standIn_162 rfl (lv_at hl 0 rfl) ?_
        refine gf_12_landOf hx hb hts in12 hown hK hP (hts (.fieldLink RX12 7 "CoinsOfLastModel" "landOf" "[I") (List.mem_of_getElem? (i := 3) rfl)) dX12_standIn_163 ?_
        refine lv_iload_n hx hb dX12_standIn_166 rfl (lv_at hl 1 rfl) ?_
        obtain ⟨c_29, hZ⟩ := jx_a_some hZ
        refine M_iald hx hb hK hP wM_1 c_29 dX12_standIn_167 ?_
        refine lv_iload_n hx hb dX12_standIn_168 rfl (lv_at hl 2 rfl) ?_
        obtain ⟨r_32, S_30, hc_31, hZ⟩ := jx_b2_some hZ
        refine call_Vi SM_ok sameM ⟨hx, hb, hml, hown, hts⟩ (c_X12_worthIn l D q k x5_25 (S_25.1 1 (Int32.toNatClampNeg x1_25)) x3_25 S_25 _ (r_32, S_30)  hc_31) (cwV 3 hts gX12_standIn_X12_worthIn rfl rfl rfl hd_X12_worthIn ⟨Nat.le_of_ble_eq_true rfl, Nat.le_of_ble_eq_true rfl⟩) hK hP hD hS hA hsp (va_recv hK hP (ci := 12) (q0 := 0) rfl wM_0) (As := [.int x5_25, .int (S_25.1 1 (Int32.toNatClampNeg x1_25)), .int x3_25]) rfl hl.1 rfl (Nat.le_of_ble_eq_true rfl) dX12_standIn_169 ⟨Nat.zero_le _, Nat.zero_le _⟩ (fun H locs hP hD hS => ?_)
        refine lv_isub hx hb dX12_standIn_172 ?_
        exact leave_i hx hb hr hlocks hP hS hZ dX12_standIn_173
      · have hZ := jx_i_pos c_27 hZ
        refine lv_iload hx hb dX12_standIn_148 (lv_at hl 4 rfl) ?_
        refine lv_goto (tgt := 173) hx hb dX12_standIn_150 (by decide) ?_
        exact leave_i hx hb hr hlocks hP hS hZ dX12_standIn_173
    · have hZ := jx_i_pos c_26 hZ
      refine lv_iconst (v := (-1 : Int32)) hx hb dX12_standIn_139 (by decide) ?_
      refine lv_goto (tgt := 173) hx hb dX12_standIn_140 (by decide) ?_
      exact leave_i hx hb hr hlocks hP hS hZ dX12_standIn_173
  unfold f_X12_standIn at hZ
  refine lv_aload_n hx hb dX12_standIn_0 rfl (lv_at hl 0 rfl) ?_
  refine lv_iload_n hx hb dX12_standIn_1 rfl (lv_at hl 1 rfl) ?_
  obtain ⟨r_3, S_1, hc_2, hZ⟩ := jx_b2_some hZ
  refine call_Vi SM_ok sameM ⟨hx, hb, hml, hown, hts⟩ (c_X12_isSort l D q k x1 S _ (r_3, S_1)  hc_2) (cwV 1 hts gX12_standIn_X12_isSort rfl rfl rfl hd_X12_isSort ⟨Nat.le_of_ble_eq_true rfl, Nat.le_of_ble_eq_true rfl⟩) hK hP hD hS hA hsp (va_recv hK hP (ci := 12) (q0 := 0) rfl wM_0) (As := [.int x1]) rfl hl.1 rfl (Nat.le_of_ble_eq_true rfl) dX12_standIn_2 ⟨Nat.zero_le _, Nat.zero_le _⟩ (fun H locs hP hD hS => ?_)
  refine lv_if_eq (tgt := 35) hx hb dX12_standIn_5 (by decide) (fun c_4 => ?_) (fun c_4 => ?_)
  · have hZ := jx_i_pos c_4 hZ
    exact j35 S_1 _ _ hZ hP hD hS _ (lv_sub hl [] rfl)
  · have hZ := jx_i_neg c_4 hZ
    refine lv_iload_n hx hb dX12_standIn_8 rfl (lv_at hl 2 rfl) ?_
    refine lv_iconst (v := (0 : Int32)) hx hb dX12_standIn_9 (by decide) ?_
    refine lv_bipush (v := (99 : Int32)) hx hb dX12_standIn_10 (by decide) ?_
    obtain ⟨r_9, S_7, hc_8, hZ⟩ := jx_b2_some hZ
    refine call_Si SM_ok sameM ⟨hx, hb, hml, hown, hts⟩ (c_X12_in l D q k x2 (0 : Int32) (99 : Int32) S_1 _ (r_9, S_7)  hc_8) (va_cwS 3 hts gX12_standIn_X12_in rfl rfl rfl hd_X12_in ⟨Nat.le_of_ble_eq_true rfl, Nat.le_of_ble_eq_true rfl⟩) hK hP hD hS hA hsp (As := [.int x2, .int (0 : Int32), .int (99 : Int32)]) rfl hl.1 rfl (Nat.le_of_ble_eq_true rfl) dX12_standIn_12 ⟨Nat.zero_le _, Nat.zero_le _⟩ (fun H locs hP hD hS => ?_)
    refine lv_if_eq (tgt := 35) hx hb dX12_standIn_15 (by decide) (fun c_10 => ?_) (fun c_10 => ?_)
    · have hZ := jx_i_pos c_10 hZ
      exact j35 S_7 _ _ hZ hP hD hS _ (lv_sub hl [] rfl)
    · have hZ := jx_i_neg c_10 hZ
      refine lv_iload_n hx hb dX12_standIn_18 rfl (lv_at hl 3 rfl) ?_
      obtain ⟨r_14, S_12, hc_13, hZ⟩ := jx_b2_some hZ
      refine call_Si SM_ok sameM ⟨hx, hb, hml, hown, hts⟩ (c_X12_isDay l D q k x3 S_7 _ (r_14, S_12)  hc_13) (va_cwS 1 hts gX12_standIn_X12_isDay rfl rfl rfl hd_X12_isDay ⟨Nat.le_of_ble_eq_true rfl, Nat.le_of_ble_eq_true rfl⟩) hK hP hD hS hA hsp (As := [.int x3]) rfl hl.1 rfl (Nat.le_of_ble_eq_true rfl) dX12_standIn_19 ⟨Nat.zero_le _, Nat.zero_le _⟩ (fun H locs hP hD hS => ?_)
      refine lv_if_eq (tgt := 35) hx hb dX12_standIn_22 (by decide) (fun c_15 => ?_) (fun c_15 => ?_)
      · have hZ := jx_i_pos c_15 hZ
        exact j35 S_12 _ _ hZ hP hD hS _ (lv_sub hl [] rfl)
      · have hZ := jx_i_neg c_15 hZ
        refine lv_iload hx hb dX12_standIn_25 (lv_at hl 4 rfl) ?_
        refine lv_iconst (v := (0 : Int32)) hx hb dX12_standIn_27 (by decide) ?_
        refine lv_iconst (v := (1 : Int32)) hx hb dX12_standIn_28 (by decide) ?_
        obtain ⟨r_19, S_17, hc_18, hZ⟩ := jx_b2_some hZ
        refine call_Si SM_ok sameM ⟨hx, hb, hml, hown, hts⟩ (c_X12_in l D q k x4 (0 : Int32) (1 : Int32) S_12 _ (r_19, S_17)  hc_18) (va_cwS 3 hts gX12_standIn_X12_in rfl rfl rfl hd_X12_in ⟨Nat.le_of_ble_eq_true rfl, Nat.le_of_ble_eq_true rfl⟩) hK hP hD hS hA hsp (As := [.int x4, .int (0 : Int32), .int (1 : Int32)]) rfl hl.1 rfl (Nat.le_of_ble_eq_true rfl) dX12_standIn_29 ⟨Nat.zero_le _, Nat.zero_le _⟩ (fun H locs hP hD hS => ?_)
        refine lv_if_ne (tgt := 39) hx hb dX12_standIn_32 (by decide) (fun c_20 => ?_) (fun c_20 => ?_)
        · have hZ := jx_i_neg c_20 hZ
          refine lv_iconst (v := (-1 : Int32)) hx hb dX12_standIn_39 (by decide) ?_
          refine lv_istore (lv' := [(5, .int (-1 : Int32)), (0, .ref (q 0)), (1, .int x1), (2, .int x2), (3, .int x3), (4, .int x4)]) hx hb dX12_standIn_40 hl (by decide) rfl (fun ls hl => ?_)
          refine lv_iconst (v := (0 : Int32)) hx hb dX12_standIn_42 (by decide) ?_
          refine lv_istore (lv' := [(6, .int (0 : Int32)), (5, .int (-1 : Int32)), (0, .ref (q 0)), (1, .int x1), (2, .int x2), (3, .int x3), (4, .int x4)]) hx hb dX12_standIn_43 hl (by decide) rfl (fun ls hl => ?_)
          obtain ⟨r_24, hw, hza_24⟩ := jx_b_some hZ
          have l_24 : ∀ (nn : Nat) (x5_21 : Int32) (x6_22 : Int32) (S_23 : St) (H : Heap) (locs : List Loc) (hw : jx_w (g_X12_standIn_45 x1 x2 x3 x4) nn (x5_21, x6_22, S_23) = some r_24) (hP : va_P D vwCl (W_M q k S_23) H) (hD : va_D A (W_M q k S_23)) (hS : va_S A s.heap H locs) (ls : Array Slot) (hl : lv_has ls 8 [(0, .ref (q 0)), (1, .int x1), (2, .int x2), (3, .int x3), (4, .int x4), (5, .int x5_21), (6, .int x6_22)]), W p l e ({ frames := 5, cells := 0, slots := 0, locals := 117 } : Room) s m ([.ref (q 0), .int x1, .int x2, .int x3, .int x4] : List Value).toArray below meth c H locs 0 0 (MQ below (va_Qi (fun r u => (r, u) = Z) (fun u t => va_P D vwCl (W_M q k u) t.heap) A) ([.ref (q 0), .int x1, .int x2, .int x3, .int x4] : List Value).toArray s 0 0 A) (F0 m 45 ls []) := by
            intro nn
            induction nn with
            | zero =>
              intro x5_21 x6_22 S_23 H locs hw hP hD hS ls hl
              exact jx_w_zero hw
            | succ n_24 ih_24 =>
              intro x5_21 x6_22 S_23 H locs hw hP hD hS ls hl
              obtain ⟨o_24, hZ, hk_24⟩ := jx_w_succ hw
              have hZ : b_X12_standIn_45 x1 x2 x3 x4 x5_21 x6_22 S_23 = some o_24 := hZ
              have j125i45 : ∀ (x6_75 : Int32) (s0_75 : Int32) (S_75 : St)  (o_24 : (Int32 × Int32 × St) ⊕ ((Int32 × St))) (hk_24 : jx_k (g_X12_standIn_45 x1 x2 x3 x4) n_24 r_24 o_24) (H : Heap) (locs : List Loc) (hZ : f_X12_standIn_125i45 x1 x2 x3 x4 x6_75 s0_75 S_75 = some o_24) (hP : va_P D vwCl (W_M q k S_75) H) (hD : va_D A (W_M q k S_75)) (hS : va_S A s.heap H locs) (ls : Array Slot) (hl : lv_has ls 8 [(0, .ref (q 0)), (1, .int x1), (2, .int x2), (3, .int x3), (4, .int x4), (6, .int x6_75)]), W p l e ({ frames := 5, cells := 0, slots := 0, locals := 117 } : Room) s m ([.ref (q 0), .int x1, .int x2, .int x3, .int x4] : List Value).toArray below meth c H locs 0 0 (MQ below (va_Qi (fun r u => (r, u) = Z) (fun u t => va_P D vwCl (W_M q k u) t.heap) A) ([.ref (q 0), .int x1, .int x2, .int x3, .int x4] : List Value).toArray s 0 0 A) (F0 m 125 ls [.int s0_75]) := by
                intro x6_75 s0_75 S_75  o_24 hk_24 H locs hZ hP hD hS ls hl
                unfold f_X12_standIn_125i45 at hZ
                refine lv_istore (lv' := [(5, .int s0_75), (0, .ref (q 0)), (1, .int x1), (2, .int x2), (3, .int x3), (4, .int x4), (6, .int x6_75)]) hx hb dX12_standIn_125 hl (by decide) rfl (fun ls hl => ?_)
                obtain ⟨x6_76, e_x6_76, hZ⟩ := jx_l_some hZ
                refine lv_iinc (v := x6_76) (lv' := [(6, .int x6_76), (5, .int s0_75), (0, .ref (q 0)), (1, .int x1), (2, .int x2), (3, .int x3), (4, .int x4)]) hx hb dX12_standIn_127 hl (k := 6) rfl (by rw [e_x6_76]; rfl) (by decide) rfl (fun ls hl => ?_)
                refine lv_goto (tgt := 45) hx hb dX12_standIn_130 (by decide) ?_
                have ho := Option.some.inj hZ
                subst ho
                exact ih_24 s0_75 x6_76 S_75 _ _ hk_24 hP hD hS _ (lv_sub hl [2, 3, 4, 5, 6, 1, 0] rfl)
              have j123i45 : ∀ (x5_74 : Int32) (x6_74 : Int32) (S_74 : St)  (o_24 : (Int32 × Int32 × St) ⊕ ((Int32 × St))) (hk_24 : jx_k (g_X12_standIn_45 x1 x2 x3 x4) n_24 r_24 o_24) (H : Heap) (locs : List Loc) (hZ : f_X12_standIn_123i45 x1 x2 x3 x4 x5_74 x6_74 S_74 = some o_24) (hP : va_P D vwCl (W_M q k S_74) H) (hD : va_D A (W_M q k S_74)) (hS : va_S A s.heap H locs) (ls : Array Slot) (hl : lv_has ls 8 [(0, .ref (q 0)), (1, .int x1), (2, .int x2), (3, .int x3), (4, .int x4), (5, .int x5_74), (6, .int x6_74)]), W p l e ({ frames := 5, cells := 0, slots := 0, locals := 117 } : Room) s m ([.ref (q 0), .int x1, .int x2, .int x3, .int x4] : List Value).toArray below meth c H locs 0 0 (MQ below (va_Qi (fun r u => (r, u) = Z) (fun u t => va_P D vwCl (W_M q k u) t.heap) A) ([.ref (q 0), .int x1, .int x2, .int x3, .int x4] : List Value).toArray s 0 0 A) (F0 m 123 ls []) := by
                intro x5_74 x6_74 S_74  o_24 hk_24 H locs hZ hP hD hS ls hl
                unfold f_X12_standIn_123i45 at hZ
                refine lv_iload hx hb dX12_standIn_123 (lv_at hl 5 rfl) ?_
                exact j125i45 x6_74 x5_74 S_74 _ hk_24 _ _ hZ hP hD hS _ (lv_sub hl [0, 1, 2, 3, 4, 6] rfl)
              have j118i45 : ∀ (x6_80 : Int32) (S_80 : St)  (o_24 : (Int32 × Int32 × St) ⊕ ((Int32 × St))) (hk_24 : jx_k (g_X12_standIn_45 x1 x2 x3 x4) n_24 r_24 o_24) (H : Heap) (locs : List Loc) (hZ : f_X12_standIn_118i45 x1 x2 x3 x4 x6_80 S_80 = some o_24) (hP : va_P D vwCl (W_M q k S_80) H) (hD : va_D A (W_M q k S_80)) (hS : va_S A s.heap H locs) (ls : Array Slot) (hl : lv_has ls 8 [(0, .ref (q 0)), (1, .int x1), (2, .int x2), (3, .int x3), (4, .int x4), (6, .int x6_80)]), W p l e ({ frames := 5, cells := 0, slots := 0, locals := 117 } : Room) s m ([.ref (q 0), .int x1, .int x2, .int x3, .int x4] : List Value).toArray below meth c H locs 0 0 (MQ below (va_Qi (fun r u => (r, u) = Z) (fun u t => va_P D vwCl (W_M q k u) t.heap) A) ([.ref (q 0), .int x1, .int x2, .int x3, .int x4] : List Value).toArray s 0 0 A) (F0 m 118 ls []) := by
                intro x6_80 S_80  o_24 hk_24 H locs hZ hP hD hS ls hl
                unfold f_X12_standIn_118i45 at hZ
                refine lv_iload hx hb dX12_standIn_118 (lv_at hl 5 rfl) ?_
                refine lv_goto (tgt := 125) hx hb dX12_standIn_120 (by decide) ?_
                exact j125i45 x6_80 x6_80 S_80 _ hk_24 _ _ hZ hP hD hS _ (lv_sub hl [0, 1, 2, 3, 4, 5] rfl)
              have j76i45 : ∀ (x5_72 : Int32) (x6_72 : Int32) (s0_72 : Int32) (S_72 : St)  (o_24 : (Int32 × Int32 × St) ⊕ ((Int32 × St))) (hk_24 : jx_k (g_X12_standIn_45 x1 x2 x3 x4) n_24 r_24 o_24) (H : Heap) (locs : List Loc) (hZ : f_X12_standIn_76i45 x1 x2 x3 x4 x5_72 x6_72 s0_72 S_72 = some o_24) (hP : va_P D vwCl (W_M q k S_72) H) (hD : va_D A (W_M q k S_72)) (hS : va_S A s.heap H locs) (ls : Array Slot) (hl : lv_has ls 8 [(0, .ref (q 0)), (1, .int x1), (2, .int x2), (3, .int x3), (4, .int x4), (5, .int x5_72), (6, .int x6_72)]), W p l e ({ frames := 5, cells := 0, slots := 0, locals := 117 } : Room) s m ([.ref (q 0), .int x1, .int x2, .int x3, .int x4] : List Value).toArray below meth c H locs 0 0 (MQ below (va_Qi (fun r u => (r, u) = Z) (fun u t => va_P D vwCl (W_M q k u) t.heap) A) ([.ref (q 0), .int x1, .int x2, .int x3, .int x4] : List Value).toArray s 0 0 A) (F0 m 76 ls [.int s0_72]) := by
                intro x5_72 x6_72 s0_72 S_72  o_24 hk_24 H locs hZ hP hD hS ls hl
                unfold f_X12_standIn_76i45 at hZ
                refine lv_istore (lv' := [(7, .int s0_72), (0, .ref (q 0)), (1, .int x1), (2, .int x2), (3, .int x3), (4, .int x4), (5, .int x5_72), (6, .int x6_72)]) hx hb dX12_standIn_76 hl (by decide) rfl (fun ls hl => ?_)
                refine lv_iload hx hb dX12_standIn_78 (lv_at hl 0 rfl) ?_
                refine lv_if_eq (tgt := 123) hx hb dX12_standIn_80 (by decide) (fun c_73 => ?_) (fun c_73 => ?_)
                · have hZ := jx_i_pos c_73 hZ
                  exact j123i45 x5_72 x6_72 S_72 _ hk_24 _ _ hZ hP hD hS _ (lv_sub hl [1, 2, 3, 4, 5, 6, 7] rfl)
                · have hZ := jx_i_neg c_73 hZ
                  refine lv_iload hx hb dX12_standIn_83 (lv_at hl 6 rfl) ?_
                  refine lv_iconst (v := (-1 : Int32)) hx hb dX12_standIn_85 (by decide) ?_
                  refine lv_icmp_eq (tgt := 118) hx hb dX12_standIn_86 (by decide) (fun c_79 => ?_) (fun c_79 => ?_)
                  · have hZ := jx_i_pos c_79 hZ
                    exact j118i45 x6_72 S_72 _ hk_24 _ _ hZ hP hD hS _ (lv_sub hl [1, 2, 3, 4, 5, 7] rfl)
                  · have hZ := jx_i_neg c_79 hZ
                    refine lv_aload_n hx hb dX12_standIn_89 rfl (lv_at hl 1 rfl) ?_
                    refine lv_iload hx hb dX12_standIn_90 (lv_at hl 7 rfl) ?_
                    refine lv_aload_n hx hb dX12_standIn_92 rfl (lv_at hl 1 rfl) ?_
                    refine gf_12_landOf hx hb hts in12 hown hK hP (hts (.fieldLink RX12 7 "CoinsOfLastModel" "landOf" "[I") (List.mem_of_getElem? (i := 3) rfl)) dX12_standIn_93 ?_
                    refine lv_iload_n hx hb dX12_standIn_96 rfl (lv_at hl 2 rfl) ?_
                    obtain ⟨c_83, hZ⟩ := jx_a_some hZ
                    refine M_iald hx hb hK hP wM_1 c_83 dX12_standIn_97 ?_
                    refine lv_iload_n hx hb dX12_standIn_98 rfl (lv_at hl 4 rfl) ?_
                    obtain ⟨r_86, S_84, hc_85, hZ⟩ := jx_b2_some hZ
                    refine call_Vi SM_ok sameM ⟨hx, hb, hml, hown, hts⟩ (c_X12_worthIn l D q k x6_72 (S_72.1 1 (Int32.toNatClampNeg x1)) x3 S_72 _ (r_86, S_84)  hc_85) (cwV 3 hts gX12_standIn_X12_worthIn rfl rfl rfl hd_X12_worthIn ⟨Nat.le_of_ble_eq_true rfl, Nat.le_of_ble_eq_true rfl⟩) hK hP hD hS hA hsp (va_recv hK hP (ci := 12) (q0 := 0) rfl wM_0) (As := [.int x6_72, .int (S_72.1 1 (Int32.toNatClampNeg x1)), .int x3]) rfl hl.1 rfl (Nat.le_of_ble_eq_true rfl) dX12_standIn_99 ⟨Nat.zero_le _, Nat.zero_le _⟩ (fun H locs hP hD hS => ?_)
                    refine lv_aload_n hx hb dX12_standIn_102 rfl (lv_at hl 1 rfl) ?_
                    refine lv_iload hx hb dX12_standIn_103 (lv_at hl 6 rfl) ?_
                    refine lv_aload_n hx hb dX12_standIn_105 rfl (lv_at hl 1 rfl) ?_
                    refine gf_12_landOf hx hb hts in12 hown hK hP (hts (.fieldLink RX12 7 "CoinsOfLastModel" "landOf" "[I") (List.mem_of_getElem? (i := 3) rfl)) dX12_standIn_106 ?_
                    refine lv_iload_n hx hb dX12_standIn_109 rfl (lv_at hl 2 rfl) ?_
                    obtain ⟨c_87, hZ⟩ := jx_a_some hZ
                    refine M_iald hx hb hK hP wM_1 c_87 dX12_standIn_110 ?_
                    refine lv_iload_n hx hb dX12_standIn_111 rfl (lv_at hl 4 rfl) ?_
                    obtain ⟨r_90, S_88, hc_89, hZ⟩ := jx_b2_some hZ
                    refine call_Vi SM_ok sameM ⟨hx, hb, hml, hown, hts⟩ (c_X12_worthIn l D q k x5_72 (S_84.1 1 (Int32.toNatClampNeg x1)) x3 S_84 _ (r_90, S_88)  hc_89) (cwV 3 hts gX12_standIn_X12_worthIn rfl rfl rfl hd_X12_worthIn ⟨Nat.le_of_ble_eq_true rfl, Nat.le_of_ble_eq_true rfl⟩) hK hP hD hS hA hsp (va_recv hK hP (ci := 12) (q0 := 0) rfl wM_0) (As := [.int x5_72, .int (S_84.1 1 (Int32.toNatClampNeg x1)), .int x3]) rfl hl.1 rfl (Nat.le_of_ble_eq_true rfl) dX12_standIn_112 ⟨Nat.zero_le _, Nat.zero_le _⟩ (fun H locs hP hD hS => ?_)
                    refine lv_icmp_ge (tgt := 123) hx hb dX12_standIn_115 (by decide) (fun c_91 => ?_) (fun c_91 => ?_)
                    · have hZ := jx_i_pos c_91 hZ
                      exact j123i45 x5_72 x6_72 S_88 _ hk_24 _ _ hZ hP hD hS _ (lv_sub hl [1, 2, 3, 4, 5, 6, 7] rfl)
                    · have hZ := jx_i_neg c_91 hZ
                      exact j118i45 x6_72 S_88 _ hk_24 _ _ hZ hP hD hS _ (lv_sub hl [1, 2, 3, 4, 5, 7] rfl)
              have j75i45 : ∀ (x5_71 : Int32) (x6_71 : Int32) (S_71 : St)  (o_24 : (Int32 × Int32 × St) ⊕ ((Int32 × St))) (hk_24 : jx_k (g_X12_standIn_45 x1 x2 x3 x4) n_24 r_24 o_24) (H : Heap) (locs : List Loc) (hZ : f_X12_standIn_75i45 x1 x2 x3 x4 x5_71 x6_71 S_71 = some o_24) (hP : va_P D vwCl (W_M q k S_71) H) (hD : va_D A (W_M q k S_71)) (hS : va_S A s.heap H locs) (ls : Array Slot) (hl : lv_has ls 8 [(0, .ref (q 0)), (1, .int x1), (2, .int x2), (3, .int x3), (4, .int x4), (5, .int x5_71), (6, .int x6_71)]), W p l e ({ frames := 5, cells := 0, slots := 0, locals := 117 } : Room) s m ([.ref (q 0), .int x1, .int x2, .int x3, .int x4] : List Value).toArray below meth c H locs 0 0 (MQ below (va_Qi (fun r u => (r, u) = Z) (fun u t => va_P D vwCl (W_M q k u) t.heap) A) ([.ref (q 0), .int x1, .int x2, .int x3, .int x4] : List Value).toArray s 0 0 A) (F0 m 75 ls []) := by
                intro x5_71 x6_71 S_71  o_24 hk_24 H locs hZ hP hD hS ls hl
                unfold f_X12_standIn_75i45 at hZ
                refine lv_iconst (v := (0 : Int32)) hx hb dX12_standIn_75 (by decide) ?_
                exact j76i45 x5_71 x6_71 (0 : Int32) S_71 _ hk_24 _ _ hZ hP hD hS _ (lv_sub hl [0, 1, 2, 3, 4, 5, 6] rfl)
              unfold b_X12_standIn_45 at hZ
              refine lv_iload hx hb dX12_standIn_45 (lv_at hl 6 rfl) ?_
              refine lv_aload_n hx hb dX12_standIn_47 rfl (lv_at hl 0 rfl) ?_
              refine gf_12_sorts hx hb hts in12 hown hK hP (hts (.fieldLink RX12 114 "CoinsOfLastModel" "sorts" "I") (List.mem_of_getElem? (i := 2) rfl)) dX12_standIn_48 ?_
              refine lv_icmp_ge (tgt := 133) hx hb dX12_standIn_51 (by decide) (fun c_68 => ?_) (fun c_68 => ?_)
              · have hZ := jx_i_pos c_68 hZ
                have ho := Option.some.inj hZ
                subst ho
                have hE := hza_24
                rw [← (show (x5_21, S_23) = r_24 from hk_24)] at hE
                have hZ : f_X12_standIn_133 x1 x3 x4 x5_21 S_23 = some Z := hE
                exact j133 x1 x3 x4 x5_21 S_23 _ _ hZ hP hD hS _ (lv_sub hl [0, 1, 3, 4, 5] rfl)
              · have hZ := jx_i_neg c_68 hZ
                refine lv_iload hx hb dX12_standIn_54 (lv_at hl 6 rfl) ?_
                refine lv_iload_n hx hb dX12_standIn_56 rfl (lv_at hl 1 rfl) ?_
                refine lv_icmp_eq (tgt := 75) hx hb dX12_standIn_57 (by decide) (fun c_70 => ?_) (fun c_70 => ?_)
                · have hZ := jx_i_pos c_70 hZ
                  exact j75i45 x5_21 x6_22 S_23 _ hk_24 _ _ hZ hP hD hS _ (lv_sub hl [0, 1, 2, 3, 4, 5, 6] rfl)
                · have hZ := jx_i_neg c_70 hZ
                  refine lv_aload_n hx hb dX12_standIn_60 rfl (lv_at hl 0 rfl) ?_
                  refine lv_iload_n hx hb dX12_standIn_61 rfl (lv_at hl 1 rfl) ?_
                  refine lv_iload hx hb dX12_standIn_62 (lv_at hl 6 rfl) ?_
                  refine lv_iload_n hx hb dX12_standIn_64 rfl (lv_at hl 2 rfl) ?_
                  obtain ⟨r_98, S_96, hc_97, hZ⟩ := jx_b2_some hZ
                  refine call_Vi SM_ok sameM ⟨hx, hb, hml, hown, hts⟩ (c_X12_isLike l D q k x1 x6_22 x2 S_23 _ (r_98, S_96)  hc_97) (cwV 3 hts gX12_standIn_X12_isLike rfl rfl rfl hd_X12_isLike ⟨Nat.le_of_ble_eq_true rfl, Nat.le_of_ble_eq_true rfl⟩) hK hP hD hS hA hsp (va_recv hK hP (ci := 12) (q0 := 0) rfl wM_0) (As := [.int x1, .int x6_22, .int x2]) rfl hl.1 rfl (Nat.le_of_ble_eq_true rfl) dX12_standIn_65 ⟨Nat.zero_le _, Nat.zero_le _⟩ (fun H locs hP hD hS => ?_)
                  refine lv_if_eq (tgt := 75) hx hb dX12_standIn_68 (by decide) (fun c_99 => ?_) (fun c_99 => ?_)
                  · have hZ := jx_i_pos c_99 hZ
                    exact j75i45 x5_21 x6_22 S_96 _ hk_24 _ _ hZ hP hD hS _ (lv_sub hl [0, 1, 2, 3, 4, 5, 6] rfl)
                  · have hZ := jx_i_neg c_99 hZ
                    refine lv_iconst (v := (1 : Int32)) hx hb dX12_standIn_71 (by decide) ?_
                    refine lv_goto (tgt := 76) hx hb dX12_standIn_72 (by decide) ?_
                    exact j76i45 x5_21 x6_22 (1 : Int32) S_96 _ hk_24 _ _ hZ hP hD hS _ (lv_sub hl [0, 1, 2, 3, 4, 5, 6] rfl)
          exact l_24 FU (-1 : Int32) (0 : Int32) S_17 _ _ hw hP hD hS _ (lv_sub hl [2, 3, 4, 5, 6, 1, 0] rfl)
        · have hZ := jx_i_pos c_20 hZ
          exact j35 S_17 _ _ hZ hP hD hS _ (lv_sub hl [] rfl)
-- X12_changedTo
def f_X12_changedTo (x1 : Int64) (x3 : Int32) (x4 : Int32) (x5 : Int32) (S : St) : Option (Int64 × St) :=
  jx_b2 (f_X12_rateOf x3 x4 x5 S) (fun r_3 S_1 => jx_e (1000 : Int64) (jx_l ((x1 * (Int32.toInt64 r_3)) / (1000 : Int64)) (fun x6_5 => jx_e (100 : Int64) (jx_l ((x6_5 - (((x6_5 * (Int32.toInt64 (S_1.1 0 12))) + (99 : Int64)) / (100 : Int64))) - (Int32.toInt64 (S_1.1 0 13))) (fun x6_7 => (if 0 ≤ (lg_cmp x6_7 (0 : Int64)) then some (x6_7, S_1) else some ((0 : Int64), S_1)))))))
set_option maxHeartbeats 4000000 in
set_option maxRecDepth 100000 in
theorem c_X12_changedTo (l : Launch) (D : va_G) (q : Nat → Nat) (k : CI) (x1 : Int64) (x3 : Int32) (x4 : Int32) (x5 : Int32) (S : St) (sz : Nat) (Z : Int64 × St) (hZ : f_X12_changedTo x1 x3 x4 x5 S = some Z) : MetL W_M SM l yX12_changedTo wsX12_changedTo { frames := 4, cells := 0, slots := 0, locals := 94 } [.ref (q 0), .long x1, .int x3, .int x4, .int x5] D q k S sz Z := by
  refine enter (cc := cX12_changedTo) (maxL := 8) (ret := some .long) (by decide) rfl (Nat.le_of_ble_eq_true rfl) ?_
  intro p e s m below meth c A ls hx hb hr hts hown hlocks hml hP hK hD hA hS hsp hAe hl
  have hown : s.vm.findClass RX12 = some m.cls := hown
  have hl : lv_has ls 8 [(0, .ref (q 0)), (1, .long x1), (3, .int x3), (4, .int x4), (5, .int x5)] := hl
  have in12 : ∀ w ∈ wsX120, w ∈ wsX12_changedTo := fun _ h => (List.mem_cons_of_mem _ (List.mem_append_right _ h))
  unfold f_X12_changedTo at hZ
  refine lv_lload_n hx hb dX12_changedTo_0 rfl (lv_at hl 1 rfl) ?_
  refine lv_aload_n hx hb dX12_changedTo_1 rfl (lv_at hl 0 rfl) ?_
  refine lv_iload_n hx hb dX12_changedTo_2 rfl (lv_at hl 2 rfl) ?_
  refine lv_iload hx hb dX12_changedTo_3 (lv_at hl 3 rfl) ?_
  refine lv_iload hx hb dX12_changedTo_5 (lv_at hl 4 rfl) ?_
  obtain ⟨r_3, S_1, hc_2, hZ⟩ := jx_b2_some hZ
  refine call_Vi SM_ok sameM ⟨hx, hb, hml, hown, hts⟩ (c_X12_rateOf l D q k x3 x4 x5 S _ (r_3, S_1)  hc_2) (cwV 3 hts gX12_changedTo_X12_rateOf rfl rfl rfl hd_X12_rateOf ⟨Nat.le_of_ble_eq_true rfl, Nat.le_of_ble_eq_true rfl⟩) hK hP hD hS hA hsp (va_recv hK hP (ci := 12) (q0 := 0) rfl wM_0) (As := [.int x3, .int x4, .int x5]) rfl hl.1 rfl (Nat.le_of_ble_eq_true rfl) dX12_changedTo_7 ⟨Nat.zero_le _, Nat.zero_le _⟩ (fun H locs hP hD hS => ?_)
  refine lv_i2l (v := (Int32.toInt64 r_3)) hx hb dX12_changedTo_10 rfl ?_
  refine lv_lmul hx hb dX12_changedTo_11 ?_
  refine lv_ldc2 (v := (1000 : Int64)) hx hb hown (hts (.constantLong RX12 298 (1000)) (List.mem_of_getElem? (i := 1) rfl)) dX12_changedTo_12 ?_
  obtain ⟨c_4, hZ⟩ := jx_e_some hZ
  refine lv_ldiv hx hb dX12_changedTo_15 c_4 ?_
  obtain ⟨x6_5, e_x6_5, hZ⟩ := jx_l_some hZ
  refine tx_l e_x6_5 ?_
  refine lv_lstore (lv' := [(6, .long x6_5), (0, .ref (q 0)), (1, .long x1), (3, .int x3), (4, .int x4), (5, .int x5)]) hx hb dX12_changedTo_16 hl (by decide) rfl (fun ls hl => ?_)
  refine lv_lload hx hb dX12_changedTo_18 (lv_at hl 0 rfl) ?_
  refine lv_lload hx hb dX12_changedTo_20 (lv_at hl 0 rfl) ?_
  refine lv_aload_n hx hb dX12_changedTo_22 rfl (lv_at hl 1 rfl) ?_
  refine gf_12_share hx hb hts in12 hown hK hP (hts (.fieldLink RX12 145 "CoinsOfLastModel" "share" "I") (List.mem_of_getElem? (i := 2) rfl)) dX12_changedTo_23 ?_
  refine lv_i2l (v := (Int32.toInt64 (S_1.1 0 12))) hx hb dX12_changedTo_26 rfl ?_
  refine lv_lmul hx hb dX12_changedTo_27 ?_
  refine lv_ldc2 (v := (99 : Int64)) hx hb hown (hts (.constantLong RX12 300 (99)) (List.mem_of_getElem? (i := 3) rfl)) dX12_changedTo_28 ?_
  refine lv_ladd hx hb dX12_changedTo_31 ?_
  refine lv_ldc2 (v := (100 : Int64)) hx hb hown (hts (.constantLong RX12 302 (100)) (List.mem_of_getElem? (i := 4) rfl)) dX12_changedTo_32 ?_
  obtain ⟨c_6, hZ⟩ := jx_e_some hZ
  refine lv_ldiv hx hb dX12_changedTo_35 c_6 ?_
  refine lv_lsub hx hb dX12_changedTo_36 ?_
  refine lv_aload_n hx hb dX12_changedTo_37 rfl (lv_at hl 1 rfl) ?_
  refine gf_12_fee hx hb hts in12 hown hK hP (hts (.fieldLink RX12 148 "CoinsOfLastModel" "fee" "I") (List.mem_of_getElem? (i := 5) rfl)) dX12_changedTo_38 ?_
  refine lv_i2l (v := (Int32.toInt64 (S_1.1 0 13))) hx hb dX12_changedTo_41 rfl ?_
  refine lv_lsub hx hb dX12_changedTo_42 ?_
  obtain ⟨x6_7, e_x6_7, hZ⟩ := jx_l_some hZ
  refine tx_l e_x6_7 ?_
  refine lv_lstore (lv' := [(6, .long x6_7), (0, .ref (q 0)), (1, .long x1), (3, .int x3), (4, .int x4), (5, .int x5)]) hx hb dX12_changedTo_43 hl (by decide) rfl (fun ls hl => ?_)
  refine lv_lload hx hb dX12_changedTo_45 (lv_at hl 0 rfl) ?_
  refine lv_lconst (v := (0 : Int64)) hx hb dX12_changedTo_47 (by decide) ?_
  refine W.lcmp hx hb dX12_changedTo_48 ?_
  refine lv_if_ge (tgt := 56) hx hb dX12_changedTo_49 (by decide) (fun c_8 => ?_) (fun c_8 => ?_)
  · have hZ := jx_i_pos c_8 hZ
    refine lv_lload hx hb dX12_changedTo_56 (lv_at hl 0 rfl) ?_
    exact leave_l hx hb hr hlocks hP hS hZ dX12_changedTo_58
  · have hZ := jx_i_neg c_8 hZ
    refine lv_lconst (v := (0 : Int64)) hx hb dX12_changedTo_52 (by decide) ?_
    refine lv_goto (tgt := 58) hx hb dX12_changedTo_53 (by decide) ?_
    exact leave_l hx hb hr hlocks hP hS hZ dX12_changedTo_58
-- X12_isSum
def f_X12_isSum (x0 : Int32) (S : St) : Option (Int32 × St) :=
  jx_b2 (f_X12_in x0 (0 : Int32) (9999 : Int32) S) (fun r_3 S_1 => jx_z r_3 (some (r_3, S_1)))
set_option maxHeartbeats 4000000 in
set_option maxRecDepth 100000 in
theorem c_X12_isSum (l : Launch) (D : va_G) (q : Nat → Nat) (k : CI) (x0 : Int32) (S : St) (sz : Nat) (Z : Int32 × St) (hZ : f_X12_isSum x0 S = some Z) : MetI W_M SM l yX12_isSum wsX12_isSum { frames := 1, cells := 0, slots := 0, locals := 22 } [.int x0] D q k S sz Z := by
  refine enter (cc := cX12_isSum) (maxL := 1) (ret := some .boolean) (by decide) rfl (Nat.le_of_ble_eq_true rfl) ?_
  intro p e s m below meth c A ls hx hb hr hts hown hlocks hml hP hK hD hA hS hsp hAe hl
  have hown : s.vm.findClass RX12 = some m.cls := hown
  have hl : lv_has ls 1 [(0, .int x0)] := hl
  unfold f_X12_isSum at hZ
  refine lv_iload_n hx hb dX12_isSum_0 rfl (lv_at hl 0 rfl) ?_
  refine lv_iconst (v := (0 : Int32)) hx hb dX12_isSum_1 (by decide) ?_
  refine lv_sipush (v := (9999 : Int32)) hx hb dX12_isSum_2 (by decide) ?_
  obtain ⟨r_3, S_1, hc_2, hZ⟩ := jx_b2_some hZ
  refine call_Si SM_ok sameM ⟨hx, hb, hml, hown, hts⟩ (c_X12_in l D q k x0 (0 : Int32) (9999 : Int32) S _ (r_3, S_1)  hc_2) (va_cwS 3 hts gX12_isSum_X12_in rfl rfl rfl hd_X12_in ⟨Nat.le_of_ble_eq_true rfl, Nat.le_of_ble_eq_true rfl⟩) hK hP hD hS hA hsp (As := [.int x0, .int (0 : Int32), .int (9999 : Int32)]) rfl hl.1 rfl (Nat.le_of_ble_eq_true rfl) dX12_isSum_5 ⟨Nat.zero_le _, Nat.zero_le _⟩ (fun H locs hP hD hS => ?_)
  obtain ⟨hnz, hZ⟩ := jx_z_some hZ
  exact leave_z hx hb hr hlocks hnz hP hS hZ dX12_isSum_8
theorem hd_X12_changedTo : yX12_changedTo.cls = RX12 ∧ yX12_changedTo.cls ≠ "java/lang/invoke/MethodHandle" ∧ yX12_changedTo.cls ≠ "java/lang/invoke/VarHandle" ∧ (parseMethodDescriptor yX12_changedTo.desc).map (fun d => d.parameters.length) = some 4 := by decide +kernel
theorem hd_X12_isSum : yX12_isSum.cls ≠ "java/lang/invoke/MethodHandle" ∧ yX12_isSum.cls ≠ "java/lang/invoke/VarHandle" ∧ (parseMethodDescriptor yX12_isSum.desc).map (fun d => d.parameters.length) = some 1 := by decide +kernel
-- X12_change
def f_X12_change (x1 : Int32) (x2 : Int32) (x3 : Int32) (S : St) : Option (Int32 × St) :=
  jx_b2 (f_X12_isSum x1 S) (fun r_3 S_1 => (if r_3 = 0 then some ((-1 : Int32), S_1) else jx_b2 (f_X12_isPair x2 S_1) (fun r_7 S_5 => (if r_7 = 0 then some ((-1 : Int32), S_5) else jx_d (10 : Int32) (jx_d (10 : Int32) ((if (x2 / (10 : Int32)) = (x2 - x2 / (10 : Int32) * (10 : Int32)) then some ((-1 : Int32), S_5) else jx_b2 (f_X12_isDay x3 S_5) (fun r_14 S_12 => (if r_14 = 0 then some ((-1 : Int32), S_12) else jx_d (10 : Int32) (jx_d (10 : Int32) (jx_b2 (f_X12_changedTo (Int32.toInt64 x1) (x2 / (10 : Int32)) (x2 - x2 / (10 : Int32) * (10 : Int32)) x3 S_12) (fun r_20 S_18 => some ((Int64.toInt32 r_20), S_18)))))))))))))
set_option maxHeartbeats 4000000 in
set_option maxRecDepth 100000 in
theorem c_X12_change (l : Launch) (D : va_G) (q : Nat → Nat) (k : CI) (x1 : Int32) (x2 : Int32) (x3 : Int32) (S : St) (sz : Nat) (Z : Int32 × St) (hZ : f_X12_change x1 x2 x3 S = some Z) : MetI W_M SM l yX12_change wsX12_change { frames := 5, cells := 0, slots := 0, locals := 121 } [.ref (q 0), .int x1, .int x2, .int x3] D q k S sz Z := by
  refine enter (cc := cX12_change) (maxL := 4) (ret := some .int) (by decide) rfl (Nat.le_of_ble_eq_true rfl) ?_
  intro p e s m below meth c A ls hx hb hr hts hown hlocks hml hP hK hD hA hS hsp hAe hl
  have hown : s.vm.findClass RX12 = some m.cls := hown
  have hl : lv_has ls 4 [(0, .ref (q 0)), (1, .int x1), (2, .int x2), (3, .int x3)] := hl
  unfold f_X12_change at hZ
  refine lv_iload_n hx hb dX12_change_0 rfl (lv_at hl 1 rfl) ?_
  obtain ⟨r_3, S_1, hc_2, hZ⟩ := jx_b2_some hZ
  refine call_Si SM_ok sameM ⟨hx, hb, hml, hown, hts⟩ (c_X12_isSum l D q k x1 S _ (r_3, S_1)  hc_2) (va_cwS 1 hts gX12_change_X12_isSum rfl rfl rfl hd_X12_isSum ⟨Nat.le_of_ble_eq_true rfl, Nat.le_of_ble_eq_true rfl⟩) hK hP hD hS hA hsp (As := [.int x1]) rfl hl.1 rfl (Nat.le_of_ble_eq_true rfl) dX12_change_1 ⟨Nat.zero_le _, Nat.zero_le _⟩ (fun H locs hP hD hS => ?_)
  refine lv_if_eq (tgt := 32) hx hb dX12_change_4 (by decide) (fun c_4 => ?_) (fun c_4 => ?_)
  · have hZ := jx_i_pos c_4 hZ
    refine lv_iconst (v := (-1 : Int32)) hx hb dX12_change_32 (by decide) ?_
    exact leave_i hx hb hr hlocks hP hS hZ dX12_change_33
  · have hZ := jx_i_neg c_4 hZ
    refine lv_iload_n hx hb dX12_change_7 rfl (lv_at hl 2 rfl) ?_
    obtain ⟨r_7, S_5, hc_6, hZ⟩ := jx_b2_some hZ
    refine call_Si SM_ok sameM ⟨hx, hb, hml, hown, hts⟩ (c_X12_isPair l D q k x2 S_1 _ (r_7, S_5)  hc_6) (va_cwS 1 hts gX12_change_X12_isPair rfl rfl rfl hd_X12_isPair ⟨Nat.le_of_ble_eq_true rfl, Nat.le_of_ble_eq_true rfl⟩) hK hP hD hS hA hsp (As := [.int x2]) rfl hl.1 rfl (Nat.le_of_ble_eq_true rfl) dX12_change_8 ⟨Nat.zero_le _, Nat.zero_le _⟩ (fun H locs hP hD hS => ?_)
    refine lv_if_eq (tgt := 32) hx hb dX12_change_11 (by decide) (fun c_8 => ?_) (fun c_8 => ?_)
    · have hZ := jx_i_pos c_8 hZ
      refine lv_iconst (v := (-1 : Int32)) hx hb dX12_change_32 (by decide) ?_
      exact leave_i hx hb hr hlocks hP hS hZ dX12_change_33
    · have hZ := jx_i_neg c_8 hZ
      refine lv_iload_n hx hb dX12_change_14 rfl (lv_at hl 2 rfl) ?_
      refine lv_bipush (v := (10 : Int32)) hx hb dX12_change_15 (by decide) ?_
      obtain ⟨c_9, hZ⟩ := jx_d_some hZ
      refine lv_idiv hx hb dX12_change_17 c_9 ?_
      refine lv_iload_n hx hb dX12_change_18 rfl (lv_at hl 2 rfl) ?_
      refine lv_bipush (v := (10 : Int32)) hx hb dX12_change_19 (by decide) ?_
      obtain ⟨c_10, hZ⟩ := jx_d_some hZ
      refine lv_irem hx hb dX12_change_21 c_10 ?_
      refine lv_icmp_eq (tgt := 32) hx hb dX12_change_22 (by decide) (fun c_11 => ?_) (fun c_11 => ?_)
      · have hZ := jx_i_pos c_11 hZ
        refine lv_iconst (v := (-1 : Int32)) hx hb dX12_change_32 (by decide) ?_
        exact leave_i hx hb hr hlocks hP hS hZ dX12_change_33
      · have hZ := jx_i_neg c_11 hZ
        refine lv_iload_n hx hb dX12_change_25 rfl (lv_at hl 3 rfl) ?_
        obtain ⟨r_14, S_12, hc_13, hZ⟩ := jx_b2_some hZ
        refine call_Si SM_ok sameM ⟨hx, hb, hml, hown, hts⟩ (c_X12_isDay l D q k x3 S_5 _ (r_14, S_12)  hc_13) (va_cwS 1 hts gX12_change_X12_isDay rfl rfl rfl hd_X12_isDay ⟨Nat.le_of_ble_eq_true rfl, Nat.le_of_ble_eq_true rfl⟩) hK hP hD hS hA hsp (As := [.int x3]) rfl hl.1 rfl (Nat.le_of_ble_eq_true rfl) dX12_change_26 ⟨Nat.zero_le _, Nat.zero_le _⟩ (fun H locs hP hD hS => ?_)
        refine lv_if_ne (tgt := 34) hx hb dX12_change_29 (by decide) (fun c_15 => ?_) (fun c_15 => ?_)
        · have hZ := jx_i_neg c_15 hZ
          refine lv_aload_n hx hb dX12_change_34 rfl (lv_at hl 0 rfl) ?_
          refine lv_iload_n hx hb dX12_change_35 rfl (lv_at hl 1 rfl) ?_
          refine lv_i2l (v := (Int32.toInt64 x1)) hx hb dX12_change_36 rfl ?_
          refine lv_iload_n hx hb dX12_change_37 rfl (lv_at hl 2 rfl) ?_
          refine lv_bipush (v := (10 : Int32)) hx hb dX12_change_38 (by decide) ?_
          obtain ⟨c_16, hZ⟩ := jx_d_some hZ
          refine lv_idiv hx hb dX12_change_40 c_16 ?_
          refine lv_iload_n hx hb dX12_change_41 rfl (lv_at hl 2 rfl) ?_
          refine lv_bipush (v := (10 : Int32)) hx hb dX12_change_42 (by decide) ?_
          obtain ⟨c_17, hZ⟩ := jx_d_some hZ
          refine lv_irem hx hb dX12_change_44 c_17 ?_
          refine lv_iload_n hx hb dX12_change_45 rfl (lv_at hl 3 rfl) ?_
          obtain ⟨r_20, S_18, hc_19, hZ⟩ := jx_b2_some hZ
          refine call_Vl SM_ok sameM ⟨hx, hb, hml, hown, hts⟩ (c_X12_changedTo l D q k (Int32.toInt64 x1) (x2 / (10 : Int32)) (x2 - x2 / (10 : Int32) * (10 : Int32)) x3 S_12 _ (r_20, S_18)  hc_19) (cwV 4 hts gX12_change_X12_changedTo rfl rfl rfl hd_X12_changedTo ⟨Nat.le_of_ble_eq_true rfl, Nat.le_of_ble_eq_true rfl⟩) hK hP hD hS hA hsp (va_recv hK hP (ci := 12) (q0 := 0) rfl wM_0) (As := [.long (Int32.toInt64 x1), .int (x2 / (10 : Int32)), .int (x2 - x2 / (10 : Int32) * (10 : Int32)), .int x3]) rfl hl.1 rfl (Nat.le_of_ble_eq_true rfl) dX12_change_46 ⟨Nat.zero_le _, Nat.zero_le _⟩ (fun H locs hP hD hS => ?_)
          refine lv_l2i (v := (Int64.toInt32 r_20)) hx hb dX12_change_49 rfl ?_
          exact leave_i hx hb hr hlocks hP hS hZ dX12_change_50
        · have hZ := jx_i_pos c_15 hZ
          refine lv_iconst (v := (-1 : Int32)) hx hb dX12_change_32 (by decide) ?_
          exact leave_i hx hb hr hlocks hP hS hZ dX12_change_33
theorem hd_X12_goes : yX12_goes.cls = RX12 ∧ yX12_goes.cls ≠ "java/lang/invoke/MethodHandle" ∧ yX12_goes.cls ≠ "java/lang/invoke/VarHandle" ∧ (parseMethodDescriptor yX12_goes.desc).map (fun d => d.parameters.length) = some 6 := by decide +kernel
-- X12_goes
def f_X12_goes_165 (rc : Int64 → Int32 → Int32 → Int32 → Int32 → Int32 → St → Option (St)) (S_4 : St) : Option (St) :=
  some S_4
def f_X12_goes_159i3 (rc : Int64 → Int32 → Int32 → Int32 → Int32 → Int32 → St → Option (St)) (x1 : Int64) (x3 : Int32) (x4 : Int32) (x5 : Int32) (x6 : Int32) (x7 : Int32) (x8_20 : Int32) (S_20 : St) : Option ((Int32 × St) ⊕ (St)) :=
  jx_l (x8_20 + 1) (fun x8_21 => some (.inl (x8_21, S_20)))
def f_X12_goes_130i3 (rc : Int64 → Int32 → Int32 → Int32 → Int32 → Int32 → St → Option (St)) (x1 : Int64) (x3 : Int32) (x4 : Int32) (x5 : Int32) (x6 : Int32) (x7 : Int32) (x8_30 : Int32) (s1_30 : Int32) (S_30 : St) : Option ((Int32 × St) ⊕ (St)) :=
  jx_l (u1 S_30 0 41 s1_30) (fun S_31 => f_X12_goes_159i3 rc x1 x3 x4 x5 x6 x7 x8_30 S_31)
def f_X12_goes_112i3 (rc : Int64 → Int32 → Int32 → Int32 → Int32 → Int32 → St → Option (St)) (x1 : Int64) (x3 : Int32) (x4 : Int32) (x5 : Int32) (x6 : Int32) (x7 : Int32) (x8_27 : Int32) (x12_27 : Int32) (x13_27 : Int32) (s1_27 : Int64) (S_27 : St) : Option ((Int32 × St) ⊕ (St)) :=
  jx_l (u2 S_27 0 40 s1_27) (fun S_28 => (if x13_27 = 0 then f_X12_goes_130i3 rc x1 x3 x4 x5 x6 x7 x8_27 (S_28.1 0 41) S_28 else f_X12_goes_130i3 rc x1 x3 x4 x5 x6 x7 x8_27 x12_27 S_28))
def f_X12_goes_95i3 (rc : Int64 → Int32 → Int32 → Int32 → Int32 → Int32 → St → Option (St)) (x1 : Int64) (x3 : Int32) (x4 : Int32) (x5 : Int32) (x6 : Int32) (x7 : Int32) (x8_25 : Int32) (x10_25 : Int64) (x12_25 : Int32) (s0_25 : Int32) (S_25 : St) : Option ((Int32 × St) ⊕ (St)) :=
  (if s0_25 = 0 then f_X12_goes_112i3 rc x1 x3 x4 x5 x6 x7 x8_25 x12_25 s0_25 (S_25.2 0 40) S_25 else f_X12_goes_112i3 rc x1 x3 x4 x5 x6 x7 x8_25 x12_25 s0_25 x10_25 S_25)
def f_X12_goes_90i3 (rc : Int64 → Int32 → Int32 → Int32 → Int32 → Int32 → St → Option (St)) (x1 : Int64) (x3 : Int32) (x4 : Int32) (x5 : Int32) (x6 : Int32) (x7 : Int32) (x8_24 : Int32) (x10_24 : Int64) (x12_24 : Int32) (S_24 : St) : Option ((Int32 × St) ⊕ (St)) :=
  f_X12_goes_95i3 rc x1 x3 x4 x5 x6 x7 x8_24 x10_24 x12_24 (1 : Int32) S_24
def f_X12_goes_44i3 (rc : Int64 → Int32 → Int32 → Int32 → Int32 → Int32 → St → Option (St)) (x1 : Int64) (x3 : Int32) (x4 : Int32) (x5 : Int32) (x6 : Int32) (x7 : Int32) (x8_12 : Int32) (x9_12 : Int32) (S_12 : St) : Option ((Int32 × St) ⊕ (St)) :=
  jx_b2 (f_X12_changedTo x1 x3 x8_12 x6 S_12) (fun r_15 S_13 => jx_l ((((10 : Int32) * x7) + x8_12) + (1 : Int32)) (fun x12_16 => (if x9_12 = 0 then jx_b (rc r_15 x8_12 x4 (x5 ||| ((1 : Int32) <<< (x8_12 &&& 31))) (x6 + (1 : Int32)) x12_16 S_13) (fun S_18 => f_X12_goes_159i3 rc x1 x3 x4 x5 x6 x7 x8_12 S_18) else (if (S_13.1 0 41) = 0 then f_X12_goes_90i3 rc x1 x3 x4 x5 x6 x7 x8_12 r_15 x12_16 S_13 else (if (lg_cmp r_15 (S_13.2 0 40)) ≤ 0 then f_X12_goes_95i3 rc x1 x3 x4 x5 x6 x7 x8_12 r_15 x12_16 (0 : Int32) S_13 else f_X12_goes_90i3 rc x1 x3 x4 x5 x6 x7 x8_12 r_15 x12_16 S_13)))))
def f_X12_goes_27i3 (rc : Int64 → Int32 → Int32 → Int32 → Int32 → Int32 → St → Option (St)) (x1 : Int64) (x3 : Int32) (x4 : Int32) (x5 : Int32) (x6 : Int32) (x7 : Int32) (x8_10 : Int32) (s0_10 : Int32) (S_10 : St) : Option ((Int32 × St) ⊕ (St)) :=
  (if s0_10 = 0 then (if ((x5 >>> (x8_10 &&& 31)) &&& (1 : Int32)) = 0 then f_X12_goes_44i3 rc x1 x3 x4 x5 x6 x7 x8_10 s0_10 S_10 else f_X12_goes_159i3 rc x1 x3 x4 x5 x6 x7 x8_10 S_10) else f_X12_goes_44i3 rc x1 x3 x4 x5 x6 x7 x8_10 s0_10 S_10)
def f_X12_goes_26i3 (rc : Int64 → Int32 → Int32 → Int32 → Int32 → Int32 → St → Option (St)) (x1 : Int64) (x3 : Int32) (x4 : Int32) (x5 : Int32) (x6 : Int32) (x7 : Int32) (x8_9 : Int32) (S_9 : St) : Option ((Int32 × St) ⊕ (St)) :=
  f_X12_goes_27i3 rc x1 x3 x4 x5 x6 x7 x8_9 (0 : Int32) S_9
def b_X12_goes_3 (rc : Int64 → Int32 → Int32 → Int32 → Int32 → Int32 → St → Option (St)) (x1 : Int64) (x3 : Int32) (x4 : Int32) (x5 : Int32) (x6 : Int32) (x7 : Int32) (x8 : Int32) (S : St) : Option ((Int32 × St) ⊕ (St)) :=
  (if (4 : Int32) ≤ x8 then some (.inr S) else (if x8 = x4 then (if x3 = x4 then f_X12_goes_26i3 rc x1 x3 x4 x5 x6 x7 x8 S else f_X12_goes_27i3 rc x1 x3 x4 x5 x6 x7 x8 (1 : Int32) S) else f_X12_goes_26i3 rc x1 x3 x4 x5 x6 x7 x8 S))
def g_X12_goes_3 (rc : Int64 → Int32 → Int32 → Int32 → Int32 → Int32 → St → Option (St)) (x1 : Int64) (x3 : Int32) (x4 : Int32) (x5 : Int32) (x6 : Int32) (x7 : Int32) : (Int32 × St) → Option ((Int32 × St) ⊕ (St)) := fun z => b_X12_goes_3 rc x1 x3 x4 x5 x6 x7 z.1 z.2
def fb_X12_goes (rc : Int64 → Int32 → Int32 → Int32 → Int32 → Int32 → St → Option (St)) (x1 : Int64) (x3 : Int32) (x4 : Int32) (x5 : Int32) (x6 : Int32) (x7 : Int32) (S : St) : Option (St) :=
  jx_b (jx_w (g_X12_goes_3 rc x1 x3 x4 x5 x6 x7) FU ((0 : Int32), S)) (fun z => f_X12_goes_165 rc z)
def f_X12_goes : Nat → Int64 → Int32 → Int32 → Int32 → Int32 → Int32 → St → Option (St)
  | 0, _, _, _, _, _, _, _ => none
  | n + 1, x1, x3, x4, x5, x6, x7, S => fb_X12_goes (f_X12_goes n) x1 x3 x4 x5 x6 x7 S
set_option maxHeartbeats 4000000 in
set_option maxRecDepth 100000 in
theorem cb_X12_goes (l : Launch) (D : va_G) (q : Nat → Nat) (k : CI) (rc : Int64 → Int32 → Int32 → Int32 → Int32 → Int32 → St → Option (St)) (fr lo : Nat) (hrc : ∀ (x1 : Int64) (x3 : Int32) (x4 : Int32) (x5 : Int32) (x6 : Int32) (x7 : Int32) (S : St) (sz : Nat) (Z : St), rc x1 x3 x4 x5 x6 x7 S = some Z → MetV W_M SM l yX12_goes wsX12_goes { frames := fr, cells := 0, slots := 0, locals := lo } [.ref (q 0), .long x1, .int x3, .int x4, .int x5, .int x6, .int x7] D q k S sz Z) (x1 : Int64) (x3 : Int32) (x4 : Int32) (x5 : Int32) (x6 : Int32) (x7 : Int32) (S : St) (sz : Nat) (Z : St) (hZ : fb_X12_goes rc x1 x3 x4 x5 x6 x7 S = some Z) : MetV W_M SM l yX12_goes wsX12_goes { frames := fr + 5, cells := 0, slots := 0, locals := lo + 121 } [.ref (q 0), .long x1, .int x3, .int x4, .int x5, .int x6, .int x7] D q k S sz Z := by
  refine enter (cc := cX12_goes) (maxL := 14) (ret := none) (by decide) rfl (Nat.le_of_ble_eq_true rfl) ?_
  intro p e s m below meth c A ls hx hb hr hts hown hlocks hml hP hK hD hA hS hsp hAe hl
  have hown : s.vm.findClass RX12 = some m.cls := hown
  have hl : lv_has ls 14 [(0, .ref (q 0)), (1, .long x1), (3, .int x3), (4, .int x4), (5, .int x5), (6, .int x6), (7, .int x7)] := hl
  have in12 : ∀ w ∈ wsX120, w ∈ wsX12_goes := fun _ h => (List.mem_cons_of_mem _ (List.mem_append_right _ h))
  have j165 : ∀ (S_4 : St)  (H : Heap) (locs : List Loc) (hZ : f_X12_goes_165 rc S_4 = some Z) (hP : va_P D vwCl (W_M q k S_4) H) (hD : va_D A (W_M q k S_4)) (hS : va_S A s.heap H locs) (ls : Array Slot) (hl : lv_has ls 14 []), W p l e ({ frames := fr + 5, cells := 0, slots := 0, locals := lo + 121 } : Room) s m ([.ref (q 0), .long x1, .int x3, .int x4, .int x5, .int x6, .int x7] : List Value).toArray below meth c H locs 0 0 (MQ below (va_Qv (fun u => u = Z) (fun u t => va_P D vwCl (W_M q k u) t.heap) A) ([.ref (q 0), .long x1, .int x3, .int x4, .int x5, .int x6, .int x7] : List Value).toArray s 0 0 A) (F0 m 165 ls []) := by
    intro S_4   H locs hZ hP hD hS ls hl
    unfold f_X12_goes_165 at hZ
    exact leave_v hx hb hr hlocks hP hS hZ dX12_goes_165
  unfold fb_X12_goes at hZ
  refine lv_iconst (v := (0 : Int32)) hx hb dX12_goes_0 (by decide) ?_
  refine lv_istore (lv' := [(8, .int (0 : Int32)), (0, .ref (q 0)), (1, .long x1), (3, .int x3), (4, .int x4), (5, .int x5), (6, .int x6), (7, .int x7)]) hx hb dX12_goes_1 hl (by decide) rfl (fun ls hl => ?_)
  obtain ⟨r_3, hw, hza_3⟩ := jx_b_some hZ
  have l_3 : ∀ (nn : Nat) (x8_1 : Int32) (S_2 : St) (H : Heap) (locs : List Loc) (hw : jx_w (g_X12_goes_3 rc x1 x3 x4 x5 x6 x7) nn (x8_1, S_2) = some r_3) (hP : va_P D vwCl (W_M q k S_2) H) (hD : va_D A (W_M q k S_2)) (hS : va_S A s.heap H locs) (ls : Array Slot) (hl : lv_has ls 14 [(0, .ref (q 0)), (1, .long x1), (3, .int x3), (4, .int x4), (5, .int x5), (6, .int x6), (7, .int x7), (8, .int x8_1)]), W p l e ({ frames := fr + 5, cells := 0, slots := 0, locals := lo + 121 } : Room) s m ([.ref (q 0), .long x1, .int x3, .int x4, .int x5, .int x6, .int x7] : List Value).toArray below meth c H locs 0 0 (MQ below (va_Qv (fun u => u = Z) (fun u t => va_P D vwCl (W_M q k u) t.heap) A) ([.ref (q 0), .long x1, .int x3, .int x4, .int x5, .int x6, .int x7] : List Value).toArray s 0 0 A) (F0 m 3 ls []) := by
    intro nn
    induction nn with
    | zero =>
      intro x8_1 S_2 H locs hw hP hD hS ls hl
      exact jx_w_zero hw
    | succ n_3 ih_3 =>
      intro x8_1 S_2 H locs hw hP hD hS ls hl
      obtain ⟨o_3, hZ, hk_3⟩ := jx_w_succ hw
      have hZ : b_X12_goes_3 rc x1 x3 x4 x5 x6 x7 x8_1 S_2 = some o_3 := hZ
      have j159i3 : ∀ (x8_65 : Int32) (S_65 : St)  (o_3 : (Int32 × St) ⊕ (St)) (hk_3 : jx_k (g_X12_goes_3 rc x1 x3 x4 x5 x6 x7) n_3 r_3 o_3) (H : Heap) (locs : List Loc) (hZ : f_X12_goes_159i3 rc x1 x3 x4 x5 x6 x7 x8_65 S_65 = some o_3) (hP : va_P D vwCl (W_M q k S_65) H) (hD : va_D A (W_M q k S_65)) (hS : va_S A s.heap H locs) (ls : Array Slot) (hl : lv_has ls 14 [(0, .ref (q 0)), (1, .long x1), (3, .int x3), (4, .int x4), (5, .int x5), (6, .int x6), (7, .int x7), (8, .int x8_65)]), W p l e ({ frames := fr + 5, cells := 0, slots := 0, locals := lo + 121 } : Room) s m ([.ref (q 0), .long x1, .int x3, .int x4, .int x5, .int x6, .int x7] : List Value).toArray below meth c H locs 0 0 (MQ below (va_Qv (fun u => u = Z) (fun u t => va_P D vwCl (W_M q k u) t.heap) A) ([.ref (q 0), .long x1, .int x3, .int x4, .int x5, .int x6, .int x7] : List Value).toArray s 0 0 A) (F0 m 159 ls []) := by
        intro x8_65 S_65  o_3 hk_3 H locs hZ hP hD hS ls hl
        unfold f_X12_goes_159i3 at hZ
        obtain ⟨x8_66, e_x8_66, hZ⟩ := jx_l_some hZ
        refine lv_iinc (v := x8_66) (lv' := [(8, .int x8_66), (0, .ref (q 0)), (1, .long x1), (3, .int x3), (4, .int x4), (5, .int x5), (6, .int x6), (7, .int x7)]) hx hb dX12_goes_159 hl (k := 7) rfl (by rw [e_x8_66]; rfl) (by decide) rfl (fun ls hl => ?_)
        refine lv_goto (tgt := 3) hx hb dX12_goes_162 (by decide) ?_
        have ho := Option.some.inj hZ
        subst ho
        exact ih_3 x8_66 S_65 _ _ hk_3 hP hD hS _ (lv_sub hl [1, 2, 3, 4, 5, 6, 7, 0] rfl)
      have j130i3 : ∀ (x8_75 : Int32) (s1_75 : Int32) (S_75 : St)  (o_3 : (Int32 × St) ⊕ (St)) (hk_3 : jx_k (g_X12_goes_3 rc x1 x3 x4 x5 x6 x7) n_3 r_3 o_3) (H : Heap) (locs : List Loc) (hZ : f_X12_goes_130i3 rc x1 x3 x4 x5 x6 x7 x8_75 s1_75 S_75 = some o_3) (hP : va_P D vwCl (W_M q k S_75) H) (hD : va_D A (W_M q k S_75)) (hS : va_S A s.heap H locs) (ls : Array Slot) (hl : lv_has ls 14 [(0, .ref (q 0)), (1, .long x1), (3, .int x3), (4, .int x4), (5, .int x5), (6, .int x6), (7, .int x7), (8, .int x8_75)]), W p l e ({ frames := fr + 5, cells := 0, slots := 0, locals := lo + 121 } : Room) s m ([.ref (q 0), .long x1, .int x3, .int x4, .int x5, .int x6, .int x7] : List Value).toArray below meth c H locs 0 0 (MQ below (va_Qv (fun u => u = Z) (fun u t => va_P D vwCl (W_M q k u) t.heap) A) ([.ref (q 0), .long x1, .int x3, .int x4, .int x5, .int x6, .int x7] : List Value).toArray s 0 0 A) (F0 m 130 ls [.int s1_75, .ref (q 0)]) := by
        intro x8_75 s1_75 S_75  o_3 hk_3 H locs hZ hP hD hS ls hl
        unfold f_X12_goes_130i3 at hZ
        obtain ⟨S_76, e_S_76, hZ⟩ := jx_l_some hZ
        refine pf_12_bestDigits hx hb hts in12 hown hK hP hD hS (hts (.fieldLink RX12 311 "CoinsOfLastModel" "bestDigits" "I") (List.mem_of_getElem? (i := 1) rfl)) e_S_76 dX12_goes_130 (fun H locs hP hD hS => ?_)
        refine lv_goto (tgt := 159) hx hb dX12_goes_133 (by decide) ?_
        exact j159i3 x8_75 S_76 _ hk_3 _ _ hZ hP hD hS _ (lv_sub hl [0, 1, 2, 3, 4, 5, 6, 7] rfl)
      have j112i3 : ∀ (x8_72 : Int32) (x12_72 : Int32) (x13_72 : Int32) (s1_72 : Int64) (S_72 : St)  (o_3 : (Int32 × St) ⊕ (St)) (hk_3 : jx_k (g_X12_goes_3 rc x1 x3 x4 x5 x6 x7) n_3 r_3 o_3) (H : Heap) (locs : List Loc) (hZ : f_X12_goes_112i3 rc x1 x3 x4 x5 x6 x7 x8_72 x12_72 x13_72 s1_72 S_72 = some o_3) (hP : va_P D vwCl (W_M q k S_72) H) (hD : va_D A (W_M q k S_72)) (hS : va_S A s.heap H locs) (ls : Array Slot) (hl : lv_has ls 14 [(0, .ref (q 0)), (1, .long x1), (3, .int x3), (4, .int x4), (5, .int x5), (6, .int x6), (7, .int x7), (8, .int x8_72), (12, .int x12_72), (13, .int x13_72)]), W p l e ({ frames := fr + 5, cells := 0, slots := 0, locals := lo + 121 } : Room) s m ([.ref (q 0), .long x1, .int x3, .int x4, .int x5, .int x6, .int x7] : List Value).toArray below meth c H locs 0 0 (MQ below (va_Qv (fun u => u = Z) (fun u t => va_P D vwCl (W_M q k u) t.heap) A) ([.ref (q 0), .long x1, .int x3, .int x4, .int x5, .int x6, .int x7] : List Value).toArray s 0 0 A) (F0 m 112 ls [.long s1_72, .ref (q 0)]) := by
        intro x8_72 x12_72 x13_72 s1_72 S_72  o_3 hk_3 H locs hZ hP hD hS ls hl
        unfold f_X12_goes_112i3 at hZ
        obtain ⟨S_73, e_S_73, hZ⟩ := jx_l_some hZ
        refine pf_12_bestSum hx hb hts in12 hown hK hP hD hS (hts (.fieldLink RX12 314 "CoinsOfLastModel" "bestSum" "J") (List.mem_of_getElem? (i := 2) rfl)) e_S_73 dX12_goes_112 (fun H locs hP hD hS => ?_)
        refine lv_aload_n hx hb dX12_goes_115 rfl (lv_at hl 0 rfl) ?_
        refine lv_iload hx hb dX12_goes_116 (lv_at hl 9 rfl) ?_
        refine lv_if_eq (tgt := 126) hx hb dX12_goes_118 (by decide) (fun c_74 => ?_) (fun c_74 => ?_)
        · have hZ := jx_i_pos c_74 hZ
          refine lv_aload_n hx hb dX12_goes_126 rfl (lv_at hl 0 rfl) ?_
          refine gf_12_bestDigits hx hb hts in12 hown hK hP (hts (.fieldLink RX12 311 "CoinsOfLastModel" "bestDigits" "I") (List.mem_of_getElem? (i := 1) rfl)) dX12_goes_127 ?_
          exact j130i3 x8_72 (S_73.1 0 41) S_73 _ hk_3 _ _ hZ hP hD hS _ (lv_sub hl [0, 1, 2, 3, 4, 5, 6, 7] rfl)
        · have hZ := jx_i_neg c_74 hZ
          refine lv_iload hx hb dX12_goes_121 (lv_at hl 8 rfl) ?_
          refine lv_goto (tgt := 130) hx hb dX12_goes_123 (by decide) ?_
          exact j130i3 x8_72 x12_72 S_73 _ hk_3 _ _ hZ hP hD hS _ (lv_sub hl [0, 1, 2, 3, 4, 5, 6, 7] rfl)
      have j95i3 : ∀ (x8_70 : Int32) (x10_70 : Int64) (x12_70 : Int32) (s0_70 : Int32) (S_70 : St)  (o_3 : (Int32 × St) ⊕ (St)) (hk_3 : jx_k (g_X12_goes_3 rc x1 x3 x4 x5 x6 x7) n_3 r_3 o_3) (H : Heap) (locs : List Loc) (hZ : f_X12_goes_95i3 rc x1 x3 x4 x5 x6 x7 x8_70 x10_70 x12_70 s0_70 S_70 = some o_3) (hP : va_P D vwCl (W_M q k S_70) H) (hD : va_D A (W_M q k S_70)) (hS : va_S A s.heap H locs) (ls : Array Slot) (hl : lv_has ls 14 [(0, .ref (q 0)), (1, .long x1), (3, .int x3), (4, .int x4), (5, .int x5), (6, .int x6), (7, .int x7), (8, .int x8_70), (10, .long x10_70), (12, .int x12_70)]), W p l e ({ frames := fr + 5, cells := 0, slots := 0, locals := lo + 121 } : Room) s m ([.ref (q 0), .long x1, .int x3, .int x4, .int x5, .int x6, .int x7] : List Value).toArray below meth c H locs 0 0 (MQ below (va_Qv (fun u => u = Z) (fun u t => va_P D vwCl (W_M q k u) t.heap) A) ([.ref (q 0), .long x1, .int x3, .int x4, .int x5, .int x6, .int x7] : List Value).toArray s 0 0 A) (F0 m 95 ls [.int s0_70]) := by
        intro x8_70 x10_70 x12_70 s0_70 S_70  o_3 hk_3 H locs hZ hP hD hS ls hl
        unfold f_X12_goes_95i3 at hZ
        refine lv_istore (lv' := [(13, .int s0_70), (0, .ref (q 0)), (1, .long x1), (3, .int x3), (4, .int x4), (5, .int x5), (6, .int x6), (7, .int x7), (8, .int x8_70), (10, .long x10_70), (12, .int x12_70)]) hx hb dX12_goes_95 hl (by decide) rfl (fun ls hl => ?_)
        refine lv_aload_n hx hb dX12_goes_97 rfl (lv_at hl 1 rfl) ?_
        refine lv_iload hx hb dX12_goes_98 (lv_at hl 0 rfl) ?_
        refine lv_if_eq (tgt := 108) hx hb dX12_goes_100 (by decide) (fun c_71 => ?_) (fun c_71 => ?_)
        · have hZ := jx_i_pos c_71 hZ
          refine lv_aload_n hx hb dX12_goes_108 rfl (lv_at hl 1 rfl) ?_
          refine gf_12_bestSum hx hb hts in12 hown hK hP (hts (.fieldLink RX12 314 "CoinsOfLastModel" "bestSum" "J") (List.mem_of_getElem? (i := 2) rfl)) dX12_goes_109 ?_
          exact j112i3 x8_70 x12_70 s0_70 (S_70.2 0 40) S_70 _ hk_3 _ _ hZ hP hD hS _ (lv_sub hl [1, 2, 3, 4, 5, 6, 7, 8, 10, 0] rfl)
        · have hZ := jx_i_neg c_71 hZ
          refine lv_lload hx hb dX12_goes_103 (lv_at hl 9 rfl) ?_
          refine lv_goto (tgt := 112) hx hb dX12_goes_105 (by decide) ?_
          exact j112i3 x8_70 x12_70 s0_70 x10_70 S_70 _ hk_3 _ _ hZ hP hD hS _ (lv_sub hl [1, 2, 3, 4, 5, 6, 7, 8, 10, 0] rfl)
      have j90i3 : ∀ (x8_69 : Int32) (x10_69 : Int64) (x12_69 : Int32) (S_69 : St)  (o_3 : (Int32 × St) ⊕ (St)) (hk_3 : jx_k (g_X12_goes_3 rc x1 x3 x4 x5 x6 x7) n_3 r_3 o_3) (H : Heap) (locs : List Loc) (hZ : f_X12_goes_90i3 rc x1 x3 x4 x5 x6 x7 x8_69 x10_69 x12_69 S_69 = some o_3) (hP : va_P D vwCl (W_M q k S_69) H) (hD : va_D A (W_M q k S_69)) (hS : va_S A s.heap H locs) (ls : Array Slot) (hl : lv_has ls 14 [(0, .ref (q 0)), (1, .long x1), (3, .int x3), (4, .int x4), (5, .int x5), (6, .int x6), (7, .int x7), (8, .int x8_69), (10, .long x10_69), (12, .int x12_69)]), W p l e ({ frames := fr + 5, cells := 0, slots := 0, locals := lo + 121 } : Room) s m ([.ref (q 0), .long x1, .int x3, .int x4, .int x5, .int x6, .int x7] : List Value).toArray below meth c H locs 0 0 (MQ below (va_Qv (fun u => u = Z) (fun u t => va_P D vwCl (W_M q k u) t.heap) A) ([.ref (q 0), .long x1, .int x3, .int x4, .int x5, .int x6, .int x7] : List Value).toArray s 0 0 A) (F0 m 90 ls []) := by
        intro x8_69 x10_69 x12_69 S_69  o_3 hk_3 H locs hZ hP hD hS ls hl
        unfold f_X12_goes_90i3 at hZ
        refine lv_iconst (v := (1 : Int32)) hx hb dX12_goes_90 (by decide) ?_
        refine lv_goto (tgt := 95) hx hb dX12_goes_91 (by decide) ?_
        exact j95i3 x8_69 x10_69 x12_69 (1 : Int32) S_69 _ hk_3 _ _ hZ hP hD hS _ (lv_sub hl [0, 1, 2, 3, 4, 5, 6, 7, 8, 9] rfl)
      have j44i3 : ∀ (x8_57 : Int32) (x9_57 : Int32) (S_57 : St)  (o_3 : (Int32 × St) ⊕ (St)) (hk_3 : jx_k (g_X12_goes_3 rc x1 x3 x4 x5 x6 x7) n_3 r_3 o_3) (H : Heap) (locs : List Loc) (hZ : f_X12_goes_44i3 rc x1 x3 x4 x5 x6 x7 x8_57 x9_57 S_57 = some o_3) (hP : va_P D vwCl (W_M q k S_57) H) (hD : va_D A (W_M q k S_57)) (hS : va_S A s.heap H locs) (ls : Array Slot) (hl : lv_has ls 14 [(0, .ref (q 0)), (1, .long x1), (3, .int x3), (4, .int x4), (5, .int x5), (6, .int x6), (7, .int x7), (8, .int x8_57), (9, .int x9_57)]), W p l e ({ frames := fr + 5, cells := 0, slots := 0, locals := lo + 121 } : Room) s m ([.ref (q 0), .long x1, .int x3, .int x4, .int x5, .int x6, .int x7] : List Value).toArray below meth c H locs 0 0 (MQ below (va_Qv (fun u => u = Z) (fun u t => va_P D vwCl (W_M q k u) t.heap) A) ([.ref (q 0), .long x1, .int x3, .int x4, .int x5, .int x6, .int x7] : List Value).toArray s 0 0 A) (F0 m 44 ls []) := by
        intro x8_57 x9_57 S_57  o_3 hk_3 H locs hZ hP hD hS ls hl
        unfold f_X12_goes_44i3 at hZ
        refine lv_aload_n hx hb dX12_goes_44 rfl (lv_at hl 0 rfl) ?_
        refine lv_lload_n hx hb dX12_goes_45 rfl (lv_at hl 1 rfl) ?_
        refine lv_iload_n hx hb dX12_goes_46 rfl (lv_at hl 2 rfl) ?_
        refine lv_iload hx hb dX12_goes_47 (lv_at hl 7 rfl) ?_
        refine lv_iload hx hb dX12_goes_49 (lv_at hl 5 rfl) ?_
        obtain ⟨r_60, S_58, hc_59, hZ⟩ := jx_b2_some hZ
        refine call_Vl SM_ok sameM ⟨hx, hb, hml, hown, hts⟩ (c_X12_changedTo l D q k x1 x3 x8_57 x6 S_57 _ (r_60, S_58)  hc_59) (cwV 4 hts gX12_goes_X12_changedTo rfl rfl rfl hd_X12_changedTo ⟨by dsimp only; omega, by dsimp only; omega⟩) hK hP hD hS hA hsp (va_recv hK hP (ci := 12) (q0 := 0) rfl wM_0) (As := [.long x1, .int x3, .int x8_57, .int x6]) rfl hl.1 rfl (Nat.le_of_ble_eq_true rfl) dX12_goes_51 ⟨Nat.zero_le _, Nat.zero_le _⟩ (fun H locs hP hD hS => ?_)
        refine lv_lstore (lv' := [(10, .long r_60), (0, .ref (q 0)), (1, .long x1), (3, .int x3), (4, .int x4), (5, .int x5), (6, .int x6), (7, .int x7), (8, .int x8_57), (9, .int x9_57)]) hx hb dX12_goes_54 hl (by decide) rfl (fun ls hl => ?_)
        refine lv_bipush (v := (10 : Int32)) hx hb dX12_goes_56 (by decide) ?_
        refine lv_iload hx hb dX12_goes_58 (lv_at hl 7 rfl) ?_
        refine lv_imul hx hb dX12_goes_60 ?_
        refine lv_iload hx hb dX12_goes_61 (lv_at hl 8 rfl) ?_
        refine lv_iadd hx hb dX12_goes_63 ?_
        refine lv_iconst (v := (1 : Int32)) hx hb dX12_goes_64 (by decide) ?_
        refine lv_iadd hx hb dX12_goes_65 ?_
        obtain ⟨x12_61, e_x12_61, hZ⟩ := jx_l_some hZ
        refine tx_i e_x12_61 ?_
        refine lv_istore (lv' := [(12, .int x12_61), (10, .long r_60), (0, .ref (q 0)), (1, .long x1), (3, .int x3), (4, .int x4), (5, .int x5), (6, .int x6), (7, .int x7), (8, .int x8_57), (9, .int x9_57)]) hx hb dX12_goes_66 hl (by decide) rfl (fun ls hl => ?_)
        refine lv_iload hx hb dX12_goes_68 (lv_at hl 10 rfl) ?_
        refine lv_if_eq (tgt := 136) hx hb dX12_goes_70 (by decide) (fun c_62 => ?_) (fun c_62 => ?_)
        · have hZ := jx_i_pos c_62 hZ
          refine lv_aload_n hx hb dX12_goes_136 rfl (lv_at hl 2 rfl) ?_
          refine lv_lload hx hb dX12_goes_137 (lv_at hl 1 rfl) ?_
          refine lv_iload hx hb dX12_goes_139 (lv_at hl 9 rfl) ?_
          refine lv_iload hx hb dX12_goes_141 (lv_at hl 5 rfl) ?_
          refine lv_iload hx hb dX12_goes_143 (lv_at hl 6 rfl) ?_
          refine lv_iconst (v := (1 : Int32)) hx hb dX12_goes_145 (by decide) ?_
          refine lv_iload hx hb dX12_goes_146 (lv_at hl 9 rfl) ?_
          refine lv_ishl hx hb dX12_goes_148 ?_
          refine lv_ior hx hb dX12_goes_149 ?_
          refine lv_iload hx hb dX12_goes_150 (lv_at hl 7 rfl) ?_
          refine lv_iconst (v := (1 : Int32)) hx hb dX12_goes_152 (by decide) ?_
          refine lv_iadd hx hb dX12_goes_153 ?_
          refine lv_iload hx hb dX12_goes_154 (lv_at hl 0 rfl) ?_
          obtain ⟨S_63, hc_64, hZ⟩ := jx_b_some hZ
          refine call_Vv SM_ok sameM ⟨hx, hb, hml, hown, hts⟩ (hrc r_60 x8_57 x4 (x5 ||| ((1 : Int32) <<< (x8_57 &&& 31))) (x6 + (1 : Int32)) x12_61 S_58 _ S_63  hc_64) (cwV 6 hts gX12_goes_X12_goes rfl rfl rfl hd_X12_goes ⟨by dsimp only; omega, by dsimp only; omega⟩) hK hP hD hS hA hsp (va_recv hK hP (ci := 12) (q0 := 0) rfl wM_0) (As := [.long r_60, .int x8_57, .int x4, .int (x5 ||| ((1 : Int32) <<< (x8_57 &&& 31))), .int (x6 + (1 : Int32)), .int x12_61]) rfl hl.1 rfl (Nat.le_of_ble_eq_true rfl) dX12_goes_156 ⟨Nat.zero_le _, Nat.zero_le _⟩ (fun H locs hP hD hS => ?_)
          exact j159i3 x8_57 S_63 _ hk_3 _ _ hZ hP hD hS _ (lv_sub hl [2, 3, 4, 5, 6, 7, 8, 9] rfl)
        · have hZ := jx_i_neg c_62 hZ
          refine lv_aload_n hx hb dX12_goes_73 rfl (lv_at hl 2 rfl) ?_
          refine gf_12_bestDigits hx hb hts in12 hown hK hP (hts (.fieldLink RX12 311 "CoinsOfLastModel" "bestDigits" "I") (List.mem_of_getElem? (i := 1) rfl)) dX12_goes_74 ?_
          refine lv_if_eq (tgt := 90) hx hb dX12_goes_77 (by decide) (fun c_68 => ?_) (fun c_68 => ?_)
          · have hZ := jx_i_pos c_68 hZ
            exact j90i3 x8_57 r_60 x12_61 S_58 _ hk_3 _ _ hZ hP hD hS _ (lv_sub hl [2, 3, 4, 5, 6, 7, 8, 9, 1, 0] rfl)
          · have hZ := jx_i_neg c_68 hZ
            refine lv_lload hx hb dX12_goes_80 (lv_at hl 1 rfl) ?_
            refine lv_aload_n hx hb dX12_goes_82 rfl (lv_at hl 2 rfl) ?_
            refine gf_12_bestSum hx hb hts in12 hown hK hP (hts (.fieldLink RX12 314 "CoinsOfLastModel" "bestSum" "J") (List.mem_of_getElem? (i := 2) rfl)) dX12_goes_83 ?_
            refine W.lcmp hx hb dX12_goes_86 ?_
            refine lv_if_le (tgt := 94) hx hb dX12_goes_87 (by decide) (fun c_84 => ?_) (fun c_84 => ?_)
            · have hZ := jx_i_pos c_84 hZ
              refine lv_iconst (v := (0 : Int32)) hx hb dX12_goes_94 (by decide) ?_
              exact j95i3 x8_57 r_60 x12_61 (0 : Int32) S_58 _ hk_3 _ _ hZ hP hD hS _ (lv_sub hl [2, 3, 4, 5, 6, 7, 8, 9, 1, 0] rfl)
            · have hZ := jx_i_neg c_84 hZ
              exact j90i3 x8_57 r_60 x12_61 S_58 _ hk_3 _ _ hZ hP hD hS _ (lv_sub hl [2, 3, 4, 5, 6, 7, 8, 9, 1, 0] rfl)
      have j27i3 : ∀ (x8_55 : Int32) (s0_55 : Int32) (S_55 : St)  (o_3 : (Int32 × St) ⊕ (St)) (hk_3 : jx_k (g_X12_goes_3 rc x1 x3 x4 x5 x6 x7) n_3 r_3 o_3) (H : Heap) (locs : List Loc) (hZ : f_X12_goes_27i3 rc x1 x3 x4 x5 x6 x7 x8_55 s0_55 S_55 = some o_3) (hP : va_P D vwCl (W_M q k S_55) H) (hD : va_D A (W_M q k S_55)) (hS : va_S A s.heap H locs) (ls : Array Slot) (hl : lv_has ls 14 [(0, .ref (q 0)), (1, .long x1), (3, .int x3), (4, .int x4), (5, .int x5), (6, .int x6), (7, .int x7), (8, .int x8_55)]), W p l e ({ frames := fr + 5, cells := 0, slots := 0, locals := lo + 121 } : Room) s m ([.ref (q 0), .long x1, .int x3, .int x4, .int x5, .int x6, .int x7] : List Value).toArray below meth c H locs 0 0 (MQ below (va_Qv (fun u => u = Z) (fun u t => va_P D vwCl (W_M q k u) t.heap) A) ([.ref (q 0), .long x1, .int x3, .int x4, .int x5, .int x6, .int x7] : List Value).toArray s 0 0 A) (F0 m 27 ls [.int s0_55]) := by
        intro x8_55 s0_55 S_55  o_3 hk_3 H locs hZ hP hD hS ls hl
        unfold f_X12_goes_27i3 at hZ
        refine lv_istore (lv' := [(9, .int s0_55), (0, .ref (q 0)), (1, .long x1), (3, .int x3), (4, .int x4), (5, .int x5), (6, .int x6), (7, .int x7), (8, .int x8_55)]) hx hb dX12_goes_27 hl (by decide) rfl (fun ls hl => ?_)
        refine lv_iload hx hb dX12_goes_29 (lv_at hl 0 rfl) ?_
        refine lv_if_ne (tgt := 44) hx hb dX12_goes_31 (by decide) (fun c_56 => ?_) (fun c_56 => ?_)
        · have hZ := jx_i_neg c_56 hZ
          exact j44i3 x8_55 s0_55 S_55 _ hk_3 _ _ hZ hP hD hS _ (lv_sub hl [1, 2, 3, 4, 5, 6, 7, 8, 0] rfl)
        · have hZ := jx_i_pos c_56 hZ
          refine lv_iload hx hb dX12_goes_34 (lv_at hl 5 rfl) ?_
          refine lv_iload hx hb dX12_goes_36 (lv_at hl 8 rfl) ?_
          refine lv_ishr hx hb dX12_goes_38 ?_
          refine lv_iconst (v := (1 : Int32)) hx hb dX12_goes_39 (by decide) ?_
          refine lv_iand hx hb dX12_goes_40 ?_
          refine lv_if_ne (tgt := 159) hx hb dX12_goes_41 (by decide) (fun c_88 => ?_) (fun c_88 => ?_)
          · have hZ := jx_i_neg c_88 hZ
            exact j159i3 x8_55 S_55 _ hk_3 _ _ hZ hP hD hS _ (lv_sub hl [1, 2, 3, 4, 5, 6, 7, 8] rfl)
          · have hZ := jx_i_pos c_88 hZ
            exact j44i3 x8_55 s0_55 S_55 _ hk_3 _ _ hZ hP hD hS _ (lv_sub hl [1, 2, 3, 4, 5, 6, 7, 8, 0] rfl)
      have j26i3 : ∀ (x8_54 : Int32) (S_54 : St)  (o_3 : (Int32 × St) ⊕ (St)) (hk_3 : jx_k (g_X12_goes_3 rc x1 x3 x4 x5 x6 x7) n_3 r_3 o_3) (H : Heap) (locs : List Loc) (hZ : f_X12_goes_26i3 rc x1 x3 x4 x5 x6 x7 x8_54 S_54 = some o_3) (hP : va_P D vwCl (W_M q k S_54) H) (hD : va_D A (W_M q k S_54)) (hS : va_S A s.heap H locs) (ls : Array Slot) (hl : lv_has ls 14 [(0, .ref (q 0)), (1, .long x1), (3, .int x3), (4, .int x4), (5, .int x5), (6, .int x6), (7, .int x7), (8, .int x8_54)]), W p l e ({ frames := fr + 5, cells := 0, slots := 0, locals := lo + 121 } : Room) s m ([.ref (q 0), .long x1, .int x3, .int x4, .int x5, .int x6, .int x7] : List Value).toArray below meth c H locs 0 0 (MQ below (va_Qv (fun u => u = Z) (fun u t => va_P D vwCl (W_M q k u) t.heap) A) ([.ref (q 0), .long x1, .int x3, .int x4, .int x5, .int x6, .int x7] : List Value).toArray s 0 0 A) (F0 m 26 ls []) := by
        intro x8_54 S_54  o_3 hk_3 H locs hZ hP hD hS ls hl
        unfold f_X12_goes_26i3 at hZ
        refine lv_iconst (v := (0 : Int32)) hx hb dX12_goes_26 (by decide) ?_
        exact j27i3 x8_54 (0 : Int32) S_54 _ hk_3 _ _ hZ hP hD hS _ (lv_sub hl [0, 1, 2, 3, 4, 5, 6, 7] rfl)
      unfold b_X12_goes_3 at hZ
      refine lv_iload hx hb dX12_goes_3 (lv_at hl 7 rfl) ?_
      refine lv_iconst (v := (4 : Int32)) hx hb dX12_goes_5 (by decide) ?_
      refine lv_icmp_ge (tgt := 165) hx hb dX12_goes_6 (by decide) (fun c_51 => ?_) (fun c_51 => ?_)
      · have hZ := jx_i_pos c_51 hZ
        have ho := Option.some.inj hZ
        subst ho
        have hE := hza_3
        rw [← (show S_2 = r_3 from hk_3)] at hE
        have hZ : f_X12_goes_165 rc S_2 = some Z := hE
        exact j165 S_2 _ _ hZ hP hD hS _ (lv_sub hl [] rfl)
      · have hZ := jx_i_neg c_51 hZ
        refine lv_iload hx hb dX12_goes_9 (lv_at hl 7 rfl) ?_
        refine lv_iload hx hb dX12_goes_11 (lv_at hl 3 rfl) ?_
        refine lv_icmp_ne (tgt := 26) hx hb dX12_goes_13 (by decide) (fun c_53 => ?_) (fun c_53 => ?_)
        · have hZ := jx_i_neg c_53 hZ
          exact j26i3 x8_1 S_2 _ hk_3 _ _ hZ hP hD hS _ (lv_sub hl [0, 1, 2, 3, 4, 5, 6, 7] rfl)
        · have hZ := jx_i_pos c_53 hZ
          refine lv_iload_n hx hb dX12_goes_16 rfl (lv_at hl 2 rfl) ?_
          refine lv_iload hx hb dX12_goes_17 (lv_at hl 3 rfl) ?_
          refine lv_icmp_eq (tgt := 26) hx hb dX12_goes_19 (by decide) (fun c_93 => ?_) (fun c_93 => ?_)
          · have hZ := jx_i_pos c_93 hZ
            exact j26i3 x8_1 S_2 _ hk_3 _ _ hZ hP hD hS _ (lv_sub hl [0, 1, 2, 3, 4, 5, 6, 7] rfl)
          · have hZ := jx_i_neg c_93 hZ
            refine lv_iconst (v := (1 : Int32)) hx hb dX12_goes_22 (by decide) ?_
            refine lv_goto (tgt := 27) hx hb dX12_goes_23 (by decide) ?_
            exact j27i3 x8_1 (1 : Int32) S_2 _ hk_3 _ _ hZ hP hD hS _ (lv_sub hl [0, 1, 2, 3, 4, 5, 6, 7] rfl)
  exact l_3 FU (0 : Int32) S _ _ hw hP hD hS _ (lv_sub hl [1, 2, 3, 4, 5, 6, 7, 0] rfl)
theorem c_X12_goes (l : Launch) (D : va_G) (q : Nat → Nat) (k : CI) : ∀ (n : Nat) (x1 : Int64) (x3 : Int32) (x4 : Int32) (x5 : Int32) (x6 : Int32) (x7 : Int32) (S : St) (sz : Nat) (Z : St) (hZ : f_X12_goes n x1 x3 x4 x5 x6 x7 S = some Z), MetV W_M SM l yX12_goes wsX12_goes { frames := 5 * n, cells := 0, slots := 0, locals := 121 * n } [.ref (q 0), .long x1, .int x3, .int x4, .int x5, .int x6, .int x7] D q k S sz Z := by
  intro n
  induction n with
  | zero =>
    intro x1 x3 x4 x5 x6 x7 S sz Z  hZ
    unfold f_X12_goes at hZ
    cases hZ
  | succ n ih =>
    intro x1 x3 x4 x5 x6 x7 S sz Z  hZ
    unfold f_X12_goes at hZ
    exact cb_X12_goes l D q k (f_X12_goes n) (5 * n) (121 * n) ih x1 x3 x4 x5 x6 x7 S sz Z  hZ
