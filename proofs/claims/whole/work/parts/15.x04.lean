theorem hd_X8_joined : yX8_joined.cls ≠ "java/lang/invoke/MethodHandle" ∧ yX8_joined.cls ≠ "java/lang/invoke/VarHandle" ∧ (parseMethodDescriptor yX8_joined.desc).map (fun d => d.parameters.length) = some 3 := by decide +kernel
theorem hd_X8_operandsOf : yX8_operandsOf.cls ≠ "java/lang/invoke/MethodHandle" ∧ yX8_operandsOf.cls ≠ "java/lang/invoke/VarHandle" ∧ (parseMethodDescriptor yX8_operandsOf.desc).map (fun d => d.parameters.length) = some 1 := by decide +kernel
theorem hd_X8_told : yX8_told.cls = RX8 ∧ yX8_told.cls ≠ "java/lang/invoke/MethodHandle" ∧ yX8_told.cls ≠ "java/lang/invoke/VarHandle" ∧ (parseMethodDescriptor yX8_told.desc).map (fun d => d.parameters.length) = some 1 := by decide +kernel
-- X8_worked
def f_X8_worked_175 (t : Nat) (S_5 : St) : Option (Int32 × St) :=
  some ((0 : Int32), S_5)
def f_X8_worked_48 (t : Nat) (S_7 : St) : Option (Int32 × St) :=
  some ((0 : Int32), S_7)
def f_X8_worked_111 (t : Nat) (x3_9 : Int32) (x5_9 : Int32) (x6_9 : Int32) (S_9 : St) : Option (Int32 × St) :=
  (if x3_9 = (20000 : Int32) then some (x5_9, S_9) else some (x6_9, S_9))
def f_X8_worked_169i4 (t : Nat) (x1_34 : Int32) (x2_34 : Int32) (S_34 : St) : Option ((Int32 × Int32 × St) ⊕ ((St) ⊕ ((St) ⊕ ((Int32 × Int32 × Int32 × St))))) :=
  jx_l (x2_34 + 1) (fun x2_35 => some (.inl (x1_34, x2_35, S_34)))
def f_X8_worked_165i4 (t : Nat) (x1_41 : Int32) (x2_41 : Int32) (s1_41 : Int32) (s2_41 : Int32) (S_41 : St) : Option ((Int32 × Int32 × St) ⊕ ((St) ⊕ ((St) ⊕ ((Int32 × Int32 × Int32 × St))))) :=
  jx_a s1_41 128 (jx_l (u1 S_41 (40 + 4 * t + 2) (Int32.toNatClampNeg s1_41) s2_41) (fun S_43 => jx_l (x1_41 + 1) (fun x1_44 => f_X8_worked_169i4 t x1_44 x2_41 S_43)))
def f_X8_worked_126i4 (t : Nat) (x1_32 : Int32) (x2_32 : Int32) (x3_32 : Int32) (x5_32 : Int32) (x6_32 : Int32) (S_32 : St) : Option ((Int32 × Int32 × St) ⊕ ((St) ⊕ ((St) ⊕ ((Int32 × Int32 × Int32 × St))))) :=
  (if x3_32 = (20001 : Int32) then f_X8_worked_169i4 t x1_32 x2_32 S_32 else (if (30000 : Int32) ≤ x3_32 then jx_b2 (f_X8_joined (x3_32 - (30000 : Int32)) x5_32 x6_32 S_32) (fun r_40 S_38 => f_X8_worked_165i4 t x1_32 x2_32 x1_32 r_40 S_38) else jx_b2 (f_X8_told t x3_32 S_32) (fun r_49 S_47 => f_X8_worked_165i4 t x1_32 x2_32 x1_32 r_49 S_47)))
def f_X8_worked_90i4 (t : Nat) (x1_28 : Int32) (x2_28 : Int32) (x3_28 : Int32) (x5_28 : Int32) (s0_28 : Int32) (S_28 : St) : Option ((Int32 × Int32 × St) ⊕ ((St) ⊕ ((St) ⊕ ((Int32 × Int32 × Int32 × St))))) :=
  (if x3_28 = (20000 : Int32) then some (.inr (.inr (.inr (x3_28, x5_28, s0_28, S_28)))) else (if x3_28 = (20001 : Int32) then (if x5_28 = 0 then f_X8_worked_126i4 t x1_28 x2_28 x3_28 x5_28 s0_28 S_28 else some (.inr (.inr (.inr (x3_28, x5_28, s0_28, S_28))))) else f_X8_worked_126i4 t x1_28 x2_28 x3_28 x5_28 s0_28 S_28))
def f_X8_worked_70i4 (t : Nat) (x1_26 : Int32) (x2_26 : Int32) (x3_26 : Int32) (x4_26 : Int32) (s0_26 : Int32) (S_26 : St) : Option ((Int32 × Int32 × St) ⊕ ((St) ⊕ ((St) ⊕ ((Int32 × Int32 × Int32 × St))))) :=
  (if x4_26 ≤ (1 : Int32) then f_X8_worked_90i4 t x1_26 x2_26 x3_26 s0_26 (0 : Int32) S_26 else jx_a (x1_26 + (1 : Int32)) 128 (f_X8_worked_90i4 t x1_26 x2_26 x3_26 s0_26 (S_26.1 (40 + 4 * t + 2) (Int32.toNatClampNeg (x1_26 + (1 : Int32)))) S_26))
def b_X8_worked_4 (t : Nat) (x1 : Int32) (x2 : Int32) (S : St) : Option ((Int32 × Int32 × St) ⊕ ((St) ⊕ ((St) ⊕ ((Int32 × Int32 × Int32 × St))))) :=
  (if (S.1 (40 + 4 * t) 3) ≤ x2 then some (.inr (.inl S)) else (if (128 : Int32) ≤ x2 then some (.inr (.inl S)) else jx_a x2 128 (jx_l (S.1 (40 + 4 * t + 1) (Int32.toNatClampNeg x2)) (fun x3_17 => jx_b2 (f_X8_operandsOf x3_17 S) (fun r_20 S_18 => (if x1 < r_20 then some (.inr (.inr (.inl S_18))) else (if (x1 - r_20) < (128 : Int32) then jx_l (x1 - r_20) (fun x1_24 => (if r_20 ≤ 0 then f_X8_worked_70i4 t x1_24 x2 x3_17 r_20 (0 : Int32) S_18 else jx_a x1_24 128 (f_X8_worked_70i4 t x1_24 x2 x3_17 r_20 (S_18.1 (40 + 4 * t + 2) (Int32.toNatClampNeg x1_24)) S_18))) else some (.inr (.inr (.inl S_18))))))))))
def g_X8_worked_4 (t : Nat) : (Int32 × Int32 × St) → Option ((Int32 × Int32 × St) ⊕ ((St) ⊕ ((St) ⊕ ((Int32 × Int32 × Int32 × St))))) := fun z => b_X8_worked_4 t z.1 z.2.1 z.2.2
def f_X8_worked (t : Nat) (S : St) : Option (Int32 × St) :=
  jx_b (jx_w (g_X8_worked_4 t) FU ((0 : Int32), (0 : Int32), S)) (fun z => Sum.elim (fun z => f_X8_worked_175 t z) (fun z => Sum.elim (fun z => f_X8_worked_48 t z) (fun z => f_X8_worked_111 t z.1 z.2.1 z.2.2.1 z.2.2.2) z) z)
set_option maxHeartbeats 4000000 in
set_option maxRecDepth 100000 in
theorem c_X8_worked (l : Launch) (D : va_G) (q : Nat → Nat) (k : CI) (t : Nat) (S : St) (sz : Nat) (Z : Int32 × St) (ht : t < 2) (hZ : f_X8_worked t S = some Z) : MetI W_X SX l yX8_worked wsX8_worked { frames := 1, cells := 0, slots := 0, locals := 22 } [.ref (q (40 + 4 * t))] D q k S sz Z := by
  refine enter (cc := cX8_worked) (maxL := 7) (ret := some .int) (by decide) rfl (Nat.le_of_ble_eq_true rfl) ?_
  intro p e s m below meth c A ls hx hb hr hts hown hlocks hml hP hK hD hA hS hsp hAe hl
  have hown : s.vm.findClass RX8 = some m.cls := hown
  have hl : lv_has ls 7 [(0, .ref (q (40 + 4 * t)))] := hl
  have in8 : ∀ w ∈ wsX80, w ∈ wsX8_worked := fun _ h => (List.mem_cons_of_mem _ (List.mem_append_right _ h))
  have j175 : ∀ (S_5 : St)  (H : Heap) (locs : List Loc) (hZ : f_X8_worked_175 t S_5 = some Z) (hP : va_P D vwCl (W_X q k S_5) H) (hD : va_D A (W_X q k S_5)) (hS : va_S A s.heap H locs) (ls : Array Slot) (hl : lv_has ls 7 []), W p l e ({ frames := 1, cells := 0, slots := 0, locals := 22 } : Room) s m ([.ref (q (40 + 4 * t))] : List Value).toArray below meth c H locs 0 0 (MQ below (va_Qi (fun r u => (r, u) = Z) (fun u t => va_P D vwCl (W_X q k u) t.heap) A) ([.ref (q (40 + 4 * t))] : List Value).toArray s 0 0 A) (F0 m 175 ls []) := by
    intro S_5   H locs hZ hP hD hS ls hl
    unfold f_X8_worked_175 at hZ
    refine lv_iconst (v := (0 : Int32)) hx hb dX8_worked_175 (by decide) ?_
    exact leave_i hx hb hr hlocks hP hS hZ dX8_worked_176
  have j48 : ∀ (S_7 : St)  (H : Heap) (locs : List Loc) (hZ : f_X8_worked_48 t S_7 = some Z) (hP : va_P D vwCl (W_X q k S_7) H) (hD : va_D A (W_X q k S_7)) (hS : va_S A s.heap H locs) (ls : Array Slot) (hl : lv_has ls 7 []), W p l e ({ frames := 1, cells := 0, slots := 0, locals := 22 } : Room) s m ([.ref (q (40 + 4 * t))] : List Value).toArray below meth c H locs 0 0 (MQ below (va_Qi (fun r u => (r, u) = Z) (fun u t => va_P D vwCl (W_X q k u) t.heap) A) ([.ref (q (40 + 4 * t))] : List Value).toArray s 0 0 A) (F0 m 48 ls []) := by
    intro S_7   H locs hZ hP hD hS ls hl
    unfold f_X8_worked_48 at hZ
    refine lv_iconst (v := (0 : Int32)) hx hb dX8_worked_48 (by decide) ?_
    exact leave_i hx hb hr hlocks hP hS hZ dX8_worked_49
  have j111 : ∀ (x3_9 : Int32) (x5_9 : Int32) (x6_9 : Int32) (S_9 : St)  (H : Heap) (locs : List Loc) (hZ : f_X8_worked_111 t x3_9 x5_9 x6_9 S_9 = some Z) (hP : va_P D vwCl (W_X q k S_9) H) (hD : va_D A (W_X q k S_9)) (hS : va_S A s.heap H locs) (ls : Array Slot) (hl : lv_has ls 7 [(3, .int x3_9), (5, .int x5_9), (6, .int x6_9)]), W p l e ({ frames := 1, cells := 0, slots := 0, locals := 22 } : Room) s m ([.ref (q (40 + 4 * t))] : List Value).toArray below meth c H locs 0 0 (MQ below (va_Qi (fun r u => (r, u) = Z) (fun u t => va_P D vwCl (W_X q k u) t.heap) A) ([.ref (q (40 + 4 * t))] : List Value).toArray s 0 0 A) (F0 m 111 ls []) := by
    intro x3_9 x5_9 x6_9 S_9   H locs hZ hP hD hS ls hl
    unfold f_X8_worked_111 at hZ
    refine lv_iload_n hx hb dX8_worked_111 rfl (lv_at hl 0 rfl) ?_
    refine lv_sipush (v := (20000 : Int32)) hx hb dX8_worked_112 (by decide) ?_
    refine lv_icmp_ne (tgt := 123) hx hb dX8_worked_115 (by decide) (fun c_10 => ?_) (fun c_10 => ?_)
    · have hZ := jx_i_neg c_10 hZ
      refine lv_iload hx hb dX8_worked_123 (lv_at hl 2 rfl) ?_
      exact leave_i hx hb hr hlocks hP hS hZ dX8_worked_125
    · have hZ := jx_i_pos c_10 hZ
      refine lv_iload hx hb dX8_worked_118 (lv_at hl 1 rfl) ?_
      refine lv_goto (tgt := 125) hx hb dX8_worked_120 (by decide) ?_
      exact leave_i hx hb hr hlocks hP hS hZ dX8_worked_125
  unfold f_X8_worked at hZ
  refine lv_iconst (v := (0 : Int32)) hx hb dX8_worked_0 (by decide) ?_
  refine lv_istore_n (lv' := [(1, .int (0 : Int32)), (0, .ref (q (40 + 4 * t)))]) hx hb dX8_worked_1 rfl hl (by decide) rfl (fun ls hl => ?_)
  refine lv_iconst (v := (0 : Int32)) hx hb dX8_worked_2 (by decide) ?_
  refine lv_istore_n (lv' := [(2, .int (0 : Int32)), (1, .int (0 : Int32)), (0, .ref (q (40 + 4 * t)))]) hx hb dX8_worked_3 rfl hl (by decide) rfl (fun ls hl => ?_)
  obtain ⟨r_4, hw, hza_4⟩ := jx_b_some hZ
  have l_4 : ∀ (nn : Nat) (x1_1 : Int32) (x2_2 : Int32) (S_3 : St) (H : Heap) (locs : List Loc) (hw : jx_w (g_X8_worked_4 t) nn (x1_1, x2_2, S_3) = some r_4) (hP : va_P D vwCl (W_X q k S_3) H) (hD : va_D A (W_X q k S_3)) (hS : va_S A s.heap H locs) (ls : Array Slot) (hl : lv_has ls 7 [(0, .ref (q (40 + 4 * t))), (1, .int x1_1), (2, .int x2_2)]), W p l e ({ frames := 1, cells := 0, slots := 0, locals := 22 } : Room) s m ([.ref (q (40 + 4 * t))] : List Value).toArray below meth c H locs 0 0 (MQ below (va_Qi (fun r u => (r, u) = Z) (fun u t => va_P D vwCl (W_X q k u) t.heap) A) ([.ref (q (40 + 4 * t))] : List Value).toArray s 0 0 A) (F0 m 4 ls []) := by
    intro nn
    induction nn with
    | zero =>
      intro x1_1 x2_2 S_3 H locs hw hP hD hS ls hl
      exact jx_w_zero hw
    | succ n_4 ih_4 =>
      intro x1_1 x2_2 S_3 H locs hw hP hD hS ls hl
      obtain ⟨o_4, hZ, hk_4⟩ := jx_w_succ hw
      have hZ : b_X8_worked_4 t x1_1 x2_2 S_3 = some o_4 := hZ
      have j169i4 : ∀ (x1_84 : Int32) (x2_84 : Int32) (S_84 : St)  (o_4 : (Int32 × Int32 × St) ⊕ ((St) ⊕ ((St) ⊕ ((Int32 × Int32 × Int32 × St))))) (hk_4 : jx_k (g_X8_worked_4 t) n_4 r_4 o_4) (H : Heap) (locs : List Loc) (hZ : f_X8_worked_169i4 t x1_84 x2_84 S_84 = some o_4) (hP : va_P D vwCl (W_X q k S_84) H) (hD : va_D A (W_X q k S_84)) (hS : va_S A s.heap H locs) (ls : Array Slot) (hl : lv_has ls 7 [(0, .ref (q (40 + 4 * t))), (1, .int x1_84), (2, .int x2_84)]), W p l e ({ frames := 1, cells := 0, slots := 0, locals := 22 } : Room) s m ([.ref (q (40 + 4 * t))] : List Value).toArray below meth c H locs 0 0 (MQ below (va_Qi (fun r u => (r, u) = Z) (fun u t => va_P D vwCl (W_X q k u) t.heap) A) ([.ref (q (40 + 4 * t))] : List Value).toArray s 0 0 A) (F0 m 169 ls []) := by
        intro x1_84 x2_84 S_84  o_4 hk_4 H locs hZ hP hD hS ls hl
        unfold f_X8_worked_169i4 at hZ
        obtain ⟨x2_85, e_x2_85, hZ⟩ := jx_l_some hZ
        refine lv_iinc (v := x2_85) (lv' := [(2, .int x2_85), (0, .ref (q (40 + 4 * t))), (1, .int x1_84)]) hx hb dX8_worked_169 hl (k := 2) rfl (by rw [e_x2_85]; rfl) (by decide) rfl (fun ls hl => ?_)
        refine lv_goto (tgt := 4) hx hb dX8_worked_172 (by decide) ?_
        have ho := Option.some.inj hZ
        subst ho
        exact ih_4 x1_84 x2_85 S_84 _ _ hk_4 hP hD hS _ (lv_sub hl [1, 2, 0] rfl)
      have j165i4 : ∀ (x1_91 : Int32) (x2_91 : Int32) (s1_91 : Int32) (s2_91 : Int32) (S_91 : St)  (o_4 : (Int32 × Int32 × St) ⊕ ((St) ⊕ ((St) ⊕ ((Int32 × Int32 × Int32 × St))))) (hk_4 : jx_k (g_X8_worked_4 t) n_4 r_4 o_4) (H : Heap) (locs : List Loc) (hZ : f_X8_worked_165i4 t x1_91 x2_91 s1_91 s2_91 S_91 = some o_4) (hP : va_P D vwCl (W_X q k S_91) H) (hD : va_D A (W_X q k S_91)) (hS : va_S A s.heap H locs) (ls : Array Slot) (hl : lv_has ls 7 [(0, .ref (q (40 + 4 * t))), (1, .int x1_91), (2, .int x2_91)]), W p l e ({ frames := 1, cells := 0, slots := 0, locals := 22 } : Room) s m ([.ref (q (40 + 4 * t))] : List Value).toArray below meth c H locs 0 0 (MQ below (va_Qi (fun r u => (r, u) = Z) (fun u t => va_P D vwCl (W_X q k u) t.heap) A) ([.ref (q (40 + 4 * t))] : List Value).toArray s 0 0 A) (F0 m 165 ls [.int s2_91, .int s1_91, .ref (q (40 + 4 * t + 2))]) := by
        intro x1_91 x2_91 s1_91 s2_91 S_91  o_4 hk_4 H locs hZ hP hD hS ls hl
        unfold f_X8_worked_165i4 at hZ
        obtain ⟨c_92, hZ⟩ := jx_a_some hZ
        obtain ⟨S_93, e_S_93, hZ⟩ := jx_l_some hZ
        refine X_iast hx hb hK hP hD hS (wX_a8_stack ht) (fun _ => wXs_a8_stack ht) c_92 e_S_93 dX8_worked_165 (fun H locs hP hD hS => ?_)
        obtain ⟨x1_94, e_x1_94, hZ⟩ := jx_l_some hZ
        refine lv_iinc (v := x1_94) (lv' := [(1, .int x1_94), (0, .ref (q (40 + 4 * t))), (2, .int x2_91)]) hx hb dX8_worked_166 hl (k := 1) rfl (by rw [e_x1_94]; rfl) (by decide) rfl (fun ls hl => ?_)
        exact j169i4 x1_94 x2_91 S_93 _ hk_4 _ _ hZ hP hD hS _ (lv_sub hl [1, 0, 2] rfl)
      have j126i4 : ∀ (x1_82 : Int32) (x2_82 : Int32) (x3_82 : Int32) (x5_82 : Int32) (x6_82 : Int32) (S_82 : St)  (o_4 : (Int32 × Int32 × St) ⊕ ((St) ⊕ ((St) ⊕ ((Int32 × Int32 × Int32 × St))))) (hk_4 : jx_k (g_X8_worked_4 t) n_4 r_4 o_4) (H : Heap) (locs : List Loc) (hZ : f_X8_worked_126i4 t x1_82 x2_82 x3_82 x5_82 x6_82 S_82 = some o_4) (hP : va_P D vwCl (W_X q k S_82) H) (hD : va_D A (W_X q k S_82)) (hS : va_S A s.heap H locs) (ls : Array Slot) (hl : lv_has ls 7 [(0, .ref (q (40 + 4 * t))), (1, .int x1_82), (2, .int x2_82), (3, .int x3_82), (5, .int x5_82), (6, .int x6_82)]), W p l e ({ frames := 1, cells := 0, slots := 0, locals := 22 } : Room) s m ([.ref (q (40 + 4 * t))] : List Value).toArray below meth c H locs 0 0 (MQ below (va_Qi (fun r u => (r, u) = Z) (fun u t => va_P D vwCl (W_X q k u) t.heap) A) ([.ref (q (40 + 4 * t))] : List Value).toArray s 0 0 A) (F0 m 126 ls []) := by
        intro x1_82 x2_82 x3_82 x5_82 x6_82 S_82  o_4 hk_4 H locs hZ hP hD hS ls hl
        unfold f_X8_worked_126i4 at hZ
        refine lv_iload_n hx hb dX8_worked_126 rfl (lv_at hl 3 rfl) ?_
        refine lv_sipush (v := (20001 : Int32)) hx hb dX8_worked_127 (by decide) ?_
        refine lv_icmp_eq (tgt := 169) hx hb dX8_worked_130 (by decide) (fun c_83 => ?_) (fun c_83 => ?_)
        · have hZ := jx_i_pos c_83 hZ
          exact j169i4 x1_82 x2_82 S_82 _ hk_4 _ _ hZ hP hD hS _ (lv_sub hl [0, 1, 2] rfl)
        · have hZ := jx_i_neg c_83 hZ
          refine lv_aload_n hx hb dX8_worked_133 rfl (lv_at hl 0 rfl) ?_
          refine gf_8_stack ht hx hb hts in8 hown hK hP (hts (.fieldLink RX8 15 "CoinsOfLast$Text" "stack" "[I") (List.mem_of_getElem? (i := 3) rfl)) dX8_worked_134 ?_
          refine lv_iload_n hx hb dX8_worked_137 rfl (lv_at hl 1 rfl) ?_
          refine lv_iload_n hx hb dX8_worked_138 rfl (lv_at hl 3 rfl) ?_
          refine lv_sipush (v := (30000 : Int32)) hx hb dX8_worked_139 (by decide) ?_
          refine lv_icmp_ge (tgt := 153) hx hb dX8_worked_142 (by decide) (fun c_87 => ?_) (fun c_87 => ?_)
          · have hZ := jx_i_pos c_87 hZ
            refine lv_iload_n hx hb dX8_worked_153 rfl (lv_at hl 3 rfl) ?_
            refine lv_sipush (v := (30000 : Int32)) hx hb dX8_worked_154 (by decide) ?_
            refine lv_isub hx hb dX8_worked_157 ?_
            refine lv_iload hx hb dX8_worked_158 (lv_at hl 4 rfl) ?_
            refine lv_iload hx hb dX8_worked_160 (lv_at hl 5 rfl) ?_
            obtain ⟨r_90, S_88, hc_89, hZ⟩ := jx_b2_some hZ
            refine call_Si SX_ok sameX ⟨hx, hb, hml, hown, hts⟩ (c_X8_joined l D q k (x3_82 - (30000 : Int32)) x5_82 x6_82 S_82 _ (r_90, S_88)  hc_89) (va_cwS 3 hts gX8_worked_X8_joined rfl rfl rfl hd_X8_joined ⟨Nat.le_of_ble_eq_true rfl, Nat.le_of_ble_eq_true rfl⟩) hK hP hD hS hA hsp (As := [.int (x3_82 - (30000 : Int32)), .int x5_82, .int x6_82]) rfl hl.1 rfl (Nat.le_of_ble_eq_true rfl) dX8_worked_162 ⟨Nat.zero_le _, Nat.zero_le _⟩ (fun H locs hP hD hS => ?_)
            exact j165i4 x1_82 x2_82 x1_82 r_90 S_88 _ hk_4 _ _ hZ hP hD hS _ (lv_sub hl [0, 1, 2] rfl)
          · have hZ := jx_i_neg c_87 hZ
            refine lv_aload_n hx hb dX8_worked_145 rfl (lv_at hl 0 rfl) ?_
            refine lv_iload_n hx hb dX8_worked_146 rfl (lv_at hl 3 rfl) ?_
            obtain ⟨r_99, S_97, hc_98, hZ⟩ := jx_b2_some hZ
            refine call_Vi SX_ok sameX ⟨hx, hb, hml, hown, hts⟩ (c_X8_told l D q k t x3_82 S_82 _ (r_99, S_97) ht hc_98) (cwV 1 hts gX8_worked_X8_told rfl rfl rfl hd_X8_told ⟨Nat.le_of_ble_eq_true rfl, Nat.le_of_ble_eq_true rfl⟩) hK hP hD hS hA hsp (va_recv hK hP (ci := 8) (q0 := (40 + 4 * t)) rfl (wX_o8 ht)) (As := [.int x3_82]) rfl hl.1 rfl (Nat.le_of_ble_eq_true rfl) dX8_worked_147 ⟨Nat.zero_le _, Nat.zero_le _⟩ (fun H locs hP hD hS => ?_)
            refine lv_goto (tgt := 165) hx hb dX8_worked_150 (by decide) ?_
            exact j165i4 x1_82 x2_82 x1_82 r_99 S_97 _ hk_4 _ _ hZ hP hD hS _ (lv_sub hl [0, 1, 2] rfl)
      have j90i4 : ∀ (x1_78 : Int32) (x2_78 : Int32) (x3_78 : Int32) (x5_78 : Int32) (s0_78 : Int32) (S_78 : St)  (o_4 : (Int32 × Int32 × St) ⊕ ((St) ⊕ ((St) ⊕ ((Int32 × Int32 × Int32 × St))))) (hk_4 : jx_k (g_X8_worked_4 t) n_4 r_4 o_4) (H : Heap) (locs : List Loc) (hZ : f_X8_worked_90i4 t x1_78 x2_78 x3_78 x5_78 s0_78 S_78 = some o_4) (hP : va_P D vwCl (W_X q k S_78) H) (hD : va_D A (W_X q k S_78)) (hS : va_S A s.heap H locs) (ls : Array Slot) (hl : lv_has ls 7 [(0, .ref (q (40 + 4 * t))), (1, .int x1_78), (2, .int x2_78), (3, .int x3_78), (5, .int x5_78)]), W p l e ({ frames := 1, cells := 0, slots := 0, locals := 22 } : Room) s m ([.ref (q (40 + 4 * t))] : List Value).toArray below meth c H locs 0 0 (MQ below (va_Qi (fun r u => (r, u) = Z) (fun u t => va_P D vwCl (W_X q k u) t.heap) A) ([.ref (q (40 + 4 * t))] : List Value).toArray s 0 0 A) (F0 m 90 ls [.int s0_78]) := by
        intro x1_78 x2_78 x3_78 x5_78 s0_78 S_78  o_4 hk_4 H locs hZ hP hD hS ls hl
        unfold f_X8_worked_90i4 at hZ
        refine lv_istore (lv' := [(6, .int s0_78), (0, .ref (q (40 + 4 * t))), (1, .int x1_78), (2, .int x2_78), (3, .int x3_78), (5, .int x5_78)]) hx hb dX8_worked_90 hl (by decide) rfl (fun ls hl => ?_)
        refine lv_iload_n hx hb dX8_worked_92 rfl (lv_at hl 4 rfl) ?_
        refine lv_sipush (v := (20000 : Int32)) hx hb dX8_worked_93 (by decide) ?_
        refine lv_icmp_eq (tgt := 111) hx hb dX8_worked_96 (by decide) (fun c_79 => ?_) (fun c_79 => ?_)
        · have hZ := jx_i_pos c_79 hZ
          have ho := Option.some.inj hZ
          subst ho
          have hE := hza_4
          rw [← (show .inr (.inr (x3_78, x5_78, s0_78, S_78)) = r_4 from hk_4)] at hE
          have hZ : f_X8_worked_111 t x3_78 x5_78 s0_78 S_78 = some Z := hE
          exact j111 x3_78 x5_78 s0_78 S_78 _ _ hZ hP hD hS _ (lv_sub hl [4, 5, 0] rfl)
        · have hZ := jx_i_neg c_79 hZ
          refine lv_iload_n hx hb dX8_worked_99 rfl (lv_at hl 4 rfl) ?_
          refine lv_sipush (v := (20001 : Int32)) hx hb dX8_worked_100 (by decide) ?_
          refine lv_icmp_ne (tgt := 126) hx hb dX8_worked_103 (by decide) (fun c_81 => ?_) (fun c_81 => ?_)
          · have hZ := jx_i_neg c_81 hZ
            exact j126i4 x1_78 x2_78 x3_78 x5_78 s0_78 S_78 _ hk_4 _ _ hZ hP hD hS _ (lv_sub hl [1, 2, 3, 4, 5, 0] rfl)
          · have hZ := jx_i_pos c_81 hZ
            refine lv_iload hx hb dX8_worked_106 (lv_at hl 5 rfl) ?_
            refine lv_if_eq (tgt := 126) hx hb dX8_worked_108 (by decide) (fun c_102 => ?_) (fun c_102 => ?_)
            · have hZ := jx_i_pos c_102 hZ
              exact j126i4 x1_78 x2_78 x3_78 x5_78 s0_78 S_78 _ hk_4 _ _ hZ hP hD hS _ (lv_sub hl [1, 2, 3, 4, 5, 0] rfl)
            · have hZ := jx_i_neg c_102 hZ
              have ho := Option.some.inj hZ
              subst ho
              have hE := hza_4
              rw [← (show .inr (.inr (x3_78, x5_78, s0_78, S_78)) = r_4 from hk_4)] at hE
              have hZ : f_X8_worked_111 t x3_78 x5_78 s0_78 S_78 = some Z := hE
              exact j111 x3_78 x5_78 s0_78 S_78 _ _ hZ hP hD hS _ (lv_sub hl [4, 5, 0] rfl)
      have j70i4 : ∀ (x1_76 : Int32) (x2_76 : Int32) (x3_76 : Int32) (x4_76 : Int32) (s0_76 : Int32) (S_76 : St)  (o_4 : (Int32 × Int32 × St) ⊕ ((St) ⊕ ((St) ⊕ ((Int32 × Int32 × Int32 × St))))) (hk_4 : jx_k (g_X8_worked_4 t) n_4 r_4 o_4) (H : Heap) (locs : List Loc) (hZ : f_X8_worked_70i4 t x1_76 x2_76 x3_76 x4_76 s0_76 S_76 = some o_4) (hP : va_P D vwCl (W_X q k S_76) H) (hD : va_D A (W_X q k S_76)) (hS : va_S A s.heap H locs) (ls : Array Slot) (hl : lv_has ls 7 [(0, .ref (q (40 + 4 * t))), (1, .int x1_76), (2, .int x2_76), (3, .int x3_76), (4, .int x4_76)]), W p l e ({ frames := 1, cells := 0, slots := 0, locals := 22 } : Room) s m ([.ref (q (40 + 4 * t))] : List Value).toArray below meth c H locs 0 0 (MQ below (va_Qi (fun r u => (r, u) = Z) (fun u t => va_P D vwCl (W_X q k u) t.heap) A) ([.ref (q (40 + 4 * t))] : List Value).toArray s 0 0 A) (F0 m 70 ls [.int s0_76]) := by
        intro x1_76 x2_76 x3_76 x4_76 s0_76 S_76  o_4 hk_4 H locs hZ hP hD hS ls hl
        unfold f_X8_worked_70i4 at hZ
        refine lv_istore (lv' := [(5, .int s0_76), (0, .ref (q (40 + 4 * t))), (1, .int x1_76), (2, .int x2_76), (3, .int x3_76), (4, .int x4_76)]) hx hb dX8_worked_70 hl (by decide) rfl (fun ls hl => ?_)
        refine lv_iload hx hb dX8_worked_72 (lv_at hl 5 rfl) ?_
        refine lv_iconst (v := (1 : Int32)) hx hb dX8_worked_74 (by decide) ?_
        refine lv_icmp_le (tgt := 89) hx hb dX8_worked_75 (by decide) (fun c_77 => ?_) (fun c_77 => ?_)
        · have hZ := jx_i_pos c_77 hZ
          refine lv_iconst (v := (0 : Int32)) hx hb dX8_worked_89 (by decide) ?_
          exact j90i4 x1_76 x2_76 x3_76 s0_76 (0 : Int32) S_76 _ hk_4 _ _ hZ hP hD hS _ (lv_sub hl [1, 2, 3, 4, 0] rfl)
        · have hZ := jx_i_neg c_77 hZ
          refine lv_aload_n hx hb dX8_worked_78 rfl (lv_at hl 1 rfl) ?_
          refine gf_8_stack ht hx hb hts in8 hown hK hP (hts (.fieldLink RX8 15 "CoinsOfLast$Text" "stack" "[I") (List.mem_of_getElem? (i := 3) rfl)) dX8_worked_79 ?_
          refine lv_iload_n hx hb dX8_worked_82 rfl (lv_at hl 2 rfl) ?_
          refine lv_iconst (v := (1 : Int32)) hx hb dX8_worked_83 (by decide) ?_
          refine lv_iadd hx hb dX8_worked_84 ?_
          obtain ⟨c_106, hZ⟩ := jx_a_some hZ
          refine X_iald hx hb hK hP (wX_a8_stack ht) c_106 dX8_worked_85 ?_
          refine lv_goto (tgt := 90) hx hb dX8_worked_86 (by decide) ?_
          exact j90i4 x1_76 x2_76 x3_76 s0_76 (S_76.1 (40 + 4 * t + 2) (Int32.toNatClampNeg (x1_76 + (1 : Int32)))) S_76 _ hk_4 _ _ hZ hP hD hS _ (lv_sub hl [1, 2, 3, 4, 0] rfl)
      unfold b_X8_worked_4 at hZ
      refine lv_iload_n hx hb dX8_worked_4 rfl (lv_at hl 2 rfl) ?_
      refine lv_aload_n hx hb dX8_worked_5 rfl (lv_at hl 0 rfl) ?_
      refine gf_8_codes ht hx hb hts in8 hown hK hP (hts (.fieldLink RX8 21 "CoinsOfLast$Text" "codes" "I") (List.mem_of_getElem? (i := 1) rfl)) dX8_worked_6 ?_
      refine lv_icmp_ge (tgt := 175) hx hb dX8_worked_9 (by decide) (fun c_62 => ?_) (fun c_62 => ?_)
      · have hZ := jx_i_pos c_62 hZ
        have ho := Option.some.inj hZ
        subst ho
        have hE := hza_4
        rw [← (show .inl S_3 = r_4 from hk_4)] at hE
        have hZ : f_X8_worked_175 t S_3 = some Z := hE
        exact j175 S_3 _ _ hZ hP hD hS _ (lv_sub hl [] rfl)
      · have hZ := jx_i_neg c_62 hZ
        refine lv_iload_n hx hb dX8_worked_12 rfl (lv_at hl 2 rfl) ?_
        refine lv_sipush (v := (128 : Int32)) hx hb dX8_worked_13 (by decide) ?_
        refine lv_icmp_ge (tgt := 175) hx hb dX8_worked_16 (by decide) (fun c_64 => ?_) (fun c_64 => ?_)
        · have hZ := jx_i_pos c_64 hZ
          have ho := Option.some.inj hZ
          subst ho
          have hE := hza_4
          rw [← (show .inl S_3 = r_4 from hk_4)] at hE
          have hZ : f_X8_worked_175 t S_3 = some Z := hE
          exact j175 S_3 _ _ hZ hP hD hS _ (lv_sub hl [] rfl)
        · have hZ := jx_i_neg c_64 hZ
          refine lv_aload_n hx hb dX8_worked_19 rfl (lv_at hl 0 rfl) ?_
          refine gf_8_code ht hx hb hts in8 hown hK hP (hts (.fieldLink RX8 9 "CoinsOfLast$Text" "code" "[I") (List.mem_of_getElem? (i := 2) rfl)) dX8_worked_20 ?_
          refine lv_iload_n hx hb dX8_worked_23 rfl (lv_at hl 2 rfl) ?_
          obtain ⟨c_66, hZ⟩ := jx_a_some hZ
          refine X_iald hx hb hK hP (wX_a8_code ht) c_66 dX8_worked_24 ?_
          obtain ⟨x3_67, e_x3_67, hZ⟩ := jx_l_some hZ
          refine tx_i e_x3_67 ?_
          refine lv_istore_n (lv' := [(3, .int x3_67), (0, .ref (q (40 + 4 * t))), (1, .int x1_1), (2, .int x2_2)]) hx hb dX8_worked_25 rfl hl (by decide) rfl (fun ls hl => ?_)
          refine lv_iload_n hx hb dX8_worked_26 rfl (lv_at hl 0 rfl) ?_
          obtain ⟨r_70, S_68, hc_69, hZ⟩ := jx_b2_some hZ
          refine call_Si SX_ok sameX ⟨hx, hb, hml, hown, hts⟩ (c_X8_operandsOf l D q k x3_67 S_3 _ (r_70, S_68)  hc_69) (va_cwS 1 hts gX8_worked_X8_operandsOf rfl rfl rfl hd_X8_operandsOf ⟨Nat.le_of_ble_eq_true rfl, Nat.le_of_ble_eq_true rfl⟩) hK hP hD hS hA hsp (As := [.int x3_67]) rfl hl.1 rfl (Nat.le_of_ble_eq_true rfl) dX8_worked_27 ⟨Nat.zero_le _, Nat.zero_le _⟩ (fun H locs hP hD hS => ?_)
          refine lv_istore (lv' := [(4, .int r_70), (3, .int x3_67), (0, .ref (q (40 + 4 * t))), (1, .int x1_1), (2, .int x2_2)]) hx hb dX8_worked_30 hl (by decide) rfl (fun ls hl => ?_)
          refine lv_iload_n hx hb dX8_worked_32 rfl (lv_at hl 3 rfl) ?_
          refine lv_iload hx hb dX8_worked_33 (lv_at hl 0 rfl) ?_
          refine lv_icmp_lt (tgt := 48) hx hb dX8_worked_35 (by decide) (fun c_71 => ?_) (fun c_71 => ?_)
          · have hZ := jx_i_pos c_71 hZ
            have ho := Option.some.inj hZ
            subst ho
            have hE := hza_4
            rw [← (show .inr (.inl S_68) = r_4 from hk_4)] at hE
            have hZ : f_X8_worked_48 t S_68 = some Z := hE
            exact j48 S_68 _ _ hZ hP hD hS _ (lv_sub hl [] rfl)
          · have hZ := jx_i_neg c_71 hZ
            refine lv_iload_n hx hb dX8_worked_38 rfl (lv_at hl 3 rfl) ?_
            refine lv_iload hx hb dX8_worked_39 (lv_at hl 0 rfl) ?_
            refine lv_isub hx hb dX8_worked_41 ?_
            refine lv_sipush (v := (128 : Int32)) hx hb dX8_worked_42 (by decide) ?_
            refine lv_icmp_lt (tgt := 50) hx hb dX8_worked_45 (by decide) (fun c_73 => ?_) (fun c_73 => ?_)
            · have hZ := jx_i_pos c_73 hZ
              refine lv_iload_n hx hb dX8_worked_50 rfl (lv_at hl 3 rfl) ?_
              refine lv_iload hx hb dX8_worked_51 (lv_at hl 0 rfl) ?_
              refine lv_isub hx hb dX8_worked_53 ?_
              obtain ⟨x1_74, e_x1_74, hZ⟩ := jx_l_some hZ
              refine tx_i e_x1_74 ?_
              refine lv_istore_n (lv' := [(1, .int x1_74), (4, .int r_70), (3, .int x3_67), (0, .ref (q (40 + 4 * t))), (2, .int x2_2)]) hx hb dX8_worked_54 rfl hl (by decide) rfl (fun ls hl => ?_)
              refine lv_iload hx hb dX8_worked_55 (lv_at hl 1 rfl) ?_
              refine lv_if_le (tgt := 69) hx hb dX8_worked_57 (by decide) (fun c_75 => ?_) (fun c_75 => ?_)
              · have hZ := jx_i_pos c_75 hZ
                refine lv_iconst (v := (0 : Int32)) hx hb dX8_worked_69 (by decide) ?_
                exact j70i4 x1_74 x2_2 x3_67 r_70 (0 : Int32) S_68 _ hk_4 _ _ hZ hP hD hS _ (lv_sub hl [3, 0, 4, 2, 1] rfl)
              · have hZ := jx_i_neg c_75 hZ
                refine lv_aload_n hx hb dX8_worked_60 rfl (lv_at hl 3 rfl) ?_
                refine gf_8_stack ht hx hb hts in8 hown hK hP (hts (.fieldLink RX8 15 "CoinsOfLast$Text" "stack" "[I") (List.mem_of_getElem? (i := 3) rfl)) dX8_worked_61 ?_
                refine lv_iload_n hx hb dX8_worked_64 rfl (lv_at hl 0 rfl) ?_
                obtain ⟨c_109, hZ⟩ := jx_a_some hZ
                refine X_iald hx hb hK hP (wX_a8_stack ht) c_109 dX8_worked_65 ?_
                refine lv_goto (tgt := 70) hx hb dX8_worked_66 (by decide) ?_
                exact j70i4 x1_74 x2_2 x3_67 r_70 (S_68.1 (40 + 4 * t + 2) (Int32.toNatClampNeg x1_74)) S_68 _ hk_4 _ _ hZ hP hD hS _ (lv_sub hl [3, 0, 4, 2, 1] rfl)
            · have hZ := jx_i_neg c_73 hZ
              have ho := Option.some.inj hZ
              subst ho
              have hE := hza_4
              rw [← (show .inr (.inl S_68) = r_4 from hk_4)] at hE
              have hZ : f_X8_worked_48 t S_68 = some Z := hE
              exact j48 S_68 _ _ hZ hP hD hS _ (lv_sub hl [] rfl)
  exact l_4 FU (0 : Int32) (0 : Int32) S _ _ hw hP hD hS _ (lv_sub hl [2, 1, 0] rfl)
-- X9_fits
def f_X9_fits (x0 : Int32) (x1 : Int32) (x2 : Int32) (S : St) : Option (Int32 × St) :=
  jx_b2 (f_X11_isLand x0 S) (fun r_3 S_1 => (if r_3 = 0 then some ((0 : Int32), S_1) else jx_b2 (f_X11_within x1 (1 : Int32) (200 : Int32) S_1) (fun r_7 S_5 => (if r_7 = 0 then some ((0 : Int32), S_5) else jx_b2 (f_X11_within x2 (0 : Int32) (99 : Int32) S_5) (fun r_11 S_9 => (if r_11 = 0 then some ((0 : Int32), S_9) else some ((1 : Int32), S_9)))))))
theorem gX9_fits_X11_isLand : GoodIn wsX9_fits wsX11_isLand := goodIn_r _ [3, 4, 5, 2, 6] rfl (by decide +kernel)
theorem gX9_fits_X11_within : GoodIn wsX9_fits wsX11_within := goodIn_r _ [6] rfl (by decide +kernel)
set_option maxHeartbeats 4000000 in
set_option maxRecDepth 100000 in
theorem c_X9_fits (l : Launch) (D : va_G) (q : Nat → Nat) (k : CI) (x0 : Int32) (x1 : Int32) (x2 : Int32) (S : St) (sz : Nat) (Z : Int32 × St) (hZ : f_X9_fits x0 x1 x2 S = some Z) : MetI W_X SX l yX9_fits wsX9_fits { frames := 2, cells := 0, slots := 0, locals := 42 } [.int x0, .int x1, .int x2] D q k S sz Z := by
  refine enter (cc := cX9_fits) (maxL := 3) (ret := some .boolean) (by decide) rfl (Nat.le_of_ble_eq_true rfl) ?_
  intro p e s m below meth c A ls hx hb hr hts hown hlocks hml hP hK hD hA hS hsp hAe hl
  have hown : s.vm.findClass RX9 = some m.cls := hown
  have hl : lv_has ls 3 [(0, .int x0), (1, .int x1), (2, .int x2)] := hl
  unfold f_X9_fits at hZ
  refine lv_iload_n hx hb dX9_fits_0 rfl (lv_at hl 0 rfl) ?_
  obtain ⟨r_3, S_1, hc_2, hZ⟩ := jx_b2_some hZ
  refine call_Ni SX_ok sameX ⟨hx, hb, hml, hown, hts⟩ (c_X11_isLand l D q k x0 S _ (r_3, S_1)  hc_2) (va_cnB 1 hts gX9_fits_X11_isLand rfl rfl rfl (hsp.1 _ (List.mem_of_getElem? (i := 68) rfl)) (hts _ (List.mem_of_getElem? (i := 2) rfl)) hd_X11_isLand ⟨Nat.le_of_ble_eq_true rfl, Nat.le_of_ble_eq_true rfl⟩) (hts _ (List.mem_of_getElem? (i := 1) rfl)) hK hP hD hS hA hsp (As := [.int x0]) rfl hl.1 rfl (Nat.le_of_ble_eq_true rfl) dX9_fits_1 ⟨Nat.zero_le _, Nat.zero_le _⟩ (fun H locs hP hD hS => ?_)
  refine lv_if_eq (tgt := 32) hx hb dX9_fits_4 (by decide) (fun c_4 => ?_) (fun c_4 => ?_)
  · have hZ := jx_i_pos c_4 hZ
    refine lv_iconst (v := (0 : Int32)) hx hb dX9_fits_32 (by decide) ?_
    exact leave_z hx hb hr hlocks rfl hP hS hZ dX9_fits_33
  · have hZ := jx_i_neg c_4 hZ
    refine lv_iload_n hx hb dX9_fits_7 rfl (lv_at hl 1 rfl) ?_
    refine lv_iconst (v := (1 : Int32)) hx hb dX9_fits_8 (by decide) ?_
    refine lv_sipush (v := (200 : Int32)) hx hb dX9_fits_9 (by decide) ?_
    obtain ⟨r_7, S_5, hc_6, hZ⟩ := jx_b2_some hZ
    refine call_Ni SX_ok sameX ⟨hx, hb, hml, hown, hts⟩ (c_X11_within l D q k x1 (1 : Int32) (200 : Int32) S_1 _ (r_7, S_5)  hc_6) (va_cnB 3 hts gX9_fits_X11_within rfl rfl rfl (hsp.1 _ (List.mem_of_getElem? (i := 69) rfl)) (hts _ (List.mem_of_getElem? (i := 2) rfl)) hd_X11_within ⟨Nat.le_of_ble_eq_true rfl, Nat.le_of_ble_eq_true rfl⟩) (hts _ (List.mem_of_getElem? (i := 5) rfl)) hK hP hD hS hA hsp (As := [.int x1, .int (1 : Int32), .int (200 : Int32)]) rfl hl.1 rfl (Nat.le_of_ble_eq_true rfl) dX9_fits_12 ⟨Nat.zero_le _, Nat.zero_le _⟩ (fun H locs hP hD hS => ?_)
    refine lv_if_eq (tgt := 32) hx hb dX9_fits_15 (by decide) (fun c_8 => ?_) (fun c_8 => ?_)
    · have hZ := jx_i_pos c_8 hZ
      refine lv_iconst (v := (0 : Int32)) hx hb dX9_fits_32 (by decide) ?_
      exact leave_z hx hb hr hlocks rfl hP hS hZ dX9_fits_33
    · have hZ := jx_i_neg c_8 hZ
      refine lv_iload_n hx hb dX9_fits_18 rfl (lv_at hl 2 rfl) ?_
      refine lv_iconst (v := (0 : Int32)) hx hb dX9_fits_19 (by decide) ?_
      refine lv_bipush (v := (99 : Int32)) hx hb dX9_fits_20 (by decide) ?_
      obtain ⟨r_11, S_9, hc_10, hZ⟩ := jx_b2_some hZ
      refine call_Ni SX_ok sameX ⟨hx, hb, hml, hown, hts⟩ (c_X11_within l D q k x2 (0 : Int32) (99 : Int32) S_5 _ (r_11, S_9)  hc_10) (va_cnB 3 hts gX9_fits_X11_within rfl rfl rfl (hsp.1 _ (List.mem_of_getElem? (i := 69) rfl)) (hts _ (List.mem_of_getElem? (i := 2) rfl)) hd_X11_within ⟨Nat.le_of_ble_eq_true rfl, Nat.le_of_ble_eq_true rfl⟩) (hts _ (List.mem_of_getElem? (i := 5) rfl)) hK hP hD hS hA hsp (As := [.int x2, .int (0 : Int32), .int (99 : Int32)]) rfl hl.1 rfl (Nat.le_of_ble_eq_true rfl) dX9_fits_22 ⟨Nat.zero_le _, Nat.zero_le _⟩ (fun H locs hP hD hS => ?_)
      refine lv_if_eq (tgt := 32) hx hb dX9_fits_25 (by decide) (fun c_12 => ?_) (fun c_12 => ?_)
      · have hZ := jx_i_pos c_12 hZ
        refine lv_iconst (v := (0 : Int32)) hx hb dX9_fits_32 (by decide) ?_
        exact leave_z hx hb hr hlocks rfl hP hS hZ dX9_fits_33
      · have hZ := jx_i_neg c_12 hZ
        refine lv_iconst (v := (1 : Int32)) hx hb dX9_fits_28 (by decide) ?_
        refine lv_goto (tgt := 33) hx hb dX9_fits_29 (by decide) ?_
        exact leave_z hx hb hr hlocks rfl hP hS hZ dX9_fits_33
-- X9_knows
def f_X9_knows (x1 : Int32) (S : St) : Option (Int32 × St) :=
  (if x1 < 0 then some ((0 : Int32), S) else (if (S.1 7 4) ≤ x1 then some ((0 : Int32), S) else some ((1 : Int32), S)))
set_option maxHeartbeats 4000000 in
set_option maxRecDepth 100000 in
theorem c_X9_knows (l : Launch) (D : va_G) (q : Nat → Nat) (k : CI) (x1 : Int32) (S : St) (sz : Nat) (Z : Int32 × St) (hZ : f_X9_knows x1 S = some Z) : MetI W_X SX l yX9_knows wsX9_knows { frames := 0, cells := 0, slots := 0, locals := 0 } [.ref (q 7), .int x1] D q k S sz Z := by
  refine enter (cc := cX9_knows) (maxL := 2) (ret := some .boolean) (by decide) rfl (Nat.le_of_ble_eq_true rfl) ?_
  intro p e s m below meth c A ls hx hb hr hts hown hlocks hml hP hK hD hA hS hsp hAe hl
  have hown : s.vm.findClass RX9 = some m.cls := hown
  have hl : lv_has ls 2 [(0, .ref (q 7)), (1, .int x1)] := hl
  have in9 : ∀ w ∈ wsX90, w ∈ wsX9_knows := fun _ h => (List.mem_cons_of_mem _ (List.mem_append_right _ h))
  unfold f_X9_knows at hZ
  refine lv_iload_n hx hb dX9_knows_0 rfl (lv_at hl 1 rfl) ?_
  refine lv_if_lt (tgt := 16) hx hb dX9_knows_1 (by decide) (fun c_1 => ?_) (fun c_1 => ?_)
  · have hZ := jx_i_pos c_1 hZ
    refine lv_iconst (v := (0 : Int32)) hx hb dX9_knows_16 (by decide) ?_
    exact leave_z hx hb hr hlocks rfl hP hS hZ dX9_knows_17
  · have hZ := jx_i_neg c_1 hZ
    refine lv_iload_n hx hb dX9_knows_4 rfl (lv_at hl 1 rfl) ?_
    refine lv_aload_n hx hb dX9_knows_5 rfl (lv_at hl 0 rfl) ?_
    refine gf_9_known hx hb hts in9 hown hK hP (hts (.fieldLink RX9 32 "CoinsOfLast$Things" "known" "I") (List.mem_of_getElem? (i := 1) rfl)) dX9_knows_6 ?_
    refine lv_icmp_ge (tgt := 16) hx hb dX9_knows_9 (by decide) (fun c_2 => ?_) (fun c_2 => ?_)
    · have hZ := jx_i_pos c_2 hZ
      refine lv_iconst (v := (0 : Int32)) hx hb dX9_knows_16 (by decide) ?_
      exact leave_z hx hb hr hlocks rfl hP hS hZ dX9_knows_17
    · have hZ := jx_i_neg c_2 hZ
      refine lv_iconst (v := (1 : Int32)) hx hb dX9_knows_12 (by decide) ?_
      refine lv_goto (tgt := 17) hx hb dX9_knows_13 (by decide) ?_
      exact leave_z hx hb hr hlocks rfl hP hS hZ dX9_knows_17
-- X9_add
def f_X9_add (x1 : Int32) (x2 : Int32) (x3 : Int32) (x4 : Int32) (S : St) : Option (Int32 × St) :=
  (if (S.1 7 4) < (10 : Int32) then jx_a (S.1 7 4) 10 (jx_l (u1 S 8 (Int32.toNatClampNeg (S.1 7 4)) x1) (fun S_3 => jx_a (S_3.1 7 4) 10 (jx_l (u1 S_3 9 (Int32.toNatClampNeg (S_3.1 7 4)) x2) (fun S_5 => jx_a (S_5.1 7 4) 10 (jx_l (u1 S_5 10 (Int32.toNatClampNeg (S_5.1 7 4)) x3) (fun S_7 => jx_b2 (f_X11_bounded x4 (0 : Int32) (9 : Int32) S_7) (fun r_10 S_8 => jx_a (S_7.1 7 4) 10 (jx_l (u1 S_8 11 (Int32.toNatClampNeg (S_7.1 7 4)) r_10) (fun S_12 => jx_l (u1 S_12 7 4 ((S_12.1 7 4) + (1 : Int32))) (fun S_13 => some ((1 : Int32), S_13))))))))))) else some ((0 : Int32), S))
theorem gX9_add_X11_bounded : GoodIn wsX9_add wsX11_bounded := goodIn_r _ [8, 9, 10, 11, 12, 13, 14, 15] rfl (by decide +kernel)
set_option maxHeartbeats 4000000 in
set_option maxRecDepth 100000 in
theorem c_X9_add (l : Launch) (D : va_G) (q : Nat → Nat) (k : CI) (x1 : Int32) (x2 : Int32) (x3 : Int32) (x4 : Int32) (S : St) (sz : Nat) (Z : Int32 × St) (hZ : f_X9_add x1 x2 x3 x4 S = some Z) : MetI W_X SX l yX9_add wsX9_add { frames := 2, cells := 0, slots := 0, locals := 43 } [.ref (q 7), .int x1, .int x2, .int x3, .int x4] D q k S sz Z := by
  refine enter (cc := cX9_add) (maxL := 5) (ret := some .boolean) (by decide) rfl (Nat.le_of_ble_eq_true rfl) ?_
  intro p e s m below meth c A ls hx hb hr hts hown hlocks hml hP hK hD hA hS hsp hAe hl
  have hown : s.vm.findClass RX9 = some m.cls := hown
  have hl : lv_has ls 5 [(0, .ref (q 7)), (1, .int x1), (2, .int x2), (3, .int x3), (4, .int x4)] := hl
  have in9 : ∀ w ∈ wsX90, w ∈ wsX9_add := fun _ h => (List.mem_cons_of_mem _ (List.mem_append_right _ h))
  unfold f_X9_add at hZ
  refine lv_aload_n hx hb dX9_add_0 rfl (lv_at hl 0 rfl) ?_
  refine gf_9_known hx hb hts in9 hown hK hP (hts (.fieldLink RX9 32 "CoinsOfLast$Things" "known" "I") (List.mem_of_getElem? (i := 1) rfl)) dX9_add_1 ?_
  refine lv_bipush (v := (10 : Int32)) hx hb dX9_add_4 (by decide) ?_
  refine lv_icmp_lt (tgt := 11) hx hb dX9_add_6 (by decide) (fun c_1 => ?_) (fun c_1 => ?_)
  · have hZ := jx_i_pos c_1 hZ
    refine lv_aload_n hx hb dX9_add_11 rfl (lv_at hl 0 rfl) ?_
    refine gf_9_land hx hb hts in9 hown hK hP (hts (.fieldLink RX9 9 "CoinsOfLast$Things" "land" "[I") (List.mem_of_getElem? (i := 2) rfl)) dX9_add_12 ?_
    refine lv_aload_n hx hb dX9_add_15 rfl (lv_at hl 0 rfl) ?_
    refine gf_9_known hx hb hts in9 hown hK hP (hts (.fieldLink RX9 32 "CoinsOfLast$Things" "known" "I") (List.mem_of_getElem? (i := 1) rfl)) dX9_add_16 ?_
    refine lv_iload_n hx hb dX9_add_19 rfl (lv_at hl 1 rfl) ?_
    obtain ⟨c_2, hZ⟩ := jx_a_some hZ
    obtain ⟨S_3, e_S_3, hZ⟩ := jx_l_some hZ
    refine X_iast hx hb hK hP hD hS wX_8 (fun _ => wXs_8) c_2 e_S_3 dX9_add_20 (fun H locs hP hD hS => ?_)
    refine lv_aload_n hx hb dX9_add_21 rfl (lv_at hl 0 rfl) ?_
    refine gf_9_price hx hb hts in9 hown hK hP (hts (.fieldLink RX9 15 "CoinsOfLast$Things" "price" "[I") (List.mem_of_getElem? (i := 3) rfl)) dX9_add_22 ?_
    refine lv_aload_n hx hb dX9_add_25 rfl (lv_at hl 0 rfl) ?_
    refine gf_9_known hx hb hts in9 hown hK hP (hts (.fieldLink RX9 32 "CoinsOfLast$Things" "known" "I") (List.mem_of_getElem? (i := 1) rfl)) dX9_add_26 ?_
    refine lv_iload_n hx hb dX9_add_29 rfl (lv_at hl 2 rfl) ?_
    obtain ⟨c_4, hZ⟩ := jx_a_some hZ
    obtain ⟨S_5, e_S_5, hZ⟩ := jx_l_some hZ
    refine X_iast hx hb hK hP hD hS wX_9 (fun _ => wXs_9) c_4 e_S_5 dX9_add_30 (fun H locs hP hD hS => ?_)
    refine lv_aload_n hx hb dX9_add_31 rfl (lv_at hl 0 rfl) ?_
    refine gf_9_value hx hb hts in9 hown hK hP (hts (.fieldLink RX9 18 "CoinsOfLast$Things" "value" "[I") (List.mem_of_getElem? (i := 4) rfl)) dX9_add_32 ?_
    refine lv_aload_n hx hb dX9_add_35 rfl (lv_at hl 0 rfl) ?_
    refine gf_9_known hx hb hts in9 hown hK hP (hts (.fieldLink RX9 32 "CoinsOfLast$Things" "known" "I") (List.mem_of_getElem? (i := 1) rfl)) dX9_add_36 ?_
    refine lv_iload_n hx hb dX9_add_39 rfl (lv_at hl 3 rfl) ?_
    obtain ⟨c_6, hZ⟩ := jx_a_some hZ
    obtain ⟨S_7, e_S_7, hZ⟩ := jx_l_some hZ
    refine X_iast hx hb hK hP hD hS wX_10 (fun _ => wXs_10) c_6 e_S_7 dX9_add_40 (fun H locs hP hD hS => ?_)
    refine lv_aload_n hx hb dX9_add_41 rfl (lv_at hl 0 rfl) ?_
    refine gf_9_many hx hb hts in9 hown hK hP (hts (.fieldLink RX9 21 "CoinsOfLast$Things" "many" "[I") (List.mem_of_getElem? (i := 5) rfl)) dX9_add_42 ?_
    refine lv_aload_n hx hb dX9_add_45 rfl (lv_at hl 0 rfl) ?_
    refine gf_9_known hx hb hts in9 hown hK hP (hts (.fieldLink RX9 32 "CoinsOfLast$Things" "known" "I") (List.mem_of_getElem? (i := 1) rfl)) dX9_add_46 ?_
    refine lv_iload hx hb dX9_add_49 (lv_at hl 4 rfl) ?_
    refine lv_iconst (v := (0 : Int32)) hx hb dX9_add_51 (by decide) ?_
    refine lv_bipush (v := (9 : Int32)) hx hb dX9_add_52 (by decide) ?_
    obtain ⟨r_10, S_8, hc_9, hZ⟩ := jx_b2_some hZ
    refine call_Ni SX_ok sameX ⟨hx, hb, hml, hown, hts⟩ (c_X11_bounded l D q k x4 (0 : Int32) (9 : Int32) S_7 _ (r_10, S_8)  hc_9) (va_cnB 3 hts gX9_add_X11_bounded rfl rfl rfl (hsp.1 _ (List.mem_of_getElem? (i := 70) rfl)) (hts _ (List.mem_of_getElem? (i := 7) rfl)) hd_X11_bounded ⟨Nat.le_of_ble_eq_true rfl, Nat.le_of_ble_eq_true rfl⟩) (hts _ (List.mem_of_getElem? (i := 6) rfl)) hK hP hD hS hA hsp (As := [.int x4, .int (0 : Int32), .int (9 : Int32)]) rfl hl.1 rfl (Nat.le_of_ble_eq_true rfl) dX9_add_54 ⟨Nat.zero_le _, Nat.zero_le _⟩ (fun H locs hP hD hS => ?_)
    obtain ⟨c_11, hZ⟩ := jx_a_some hZ
    obtain ⟨S_12, e_S_12, hZ⟩ := jx_l_some hZ
    refine X_iast hx hb hK hP hD hS wX_11 (fun _ => wXs_11) c_11 e_S_12 dX9_add_57 (fun H locs hP hD hS => ?_)
    refine lv_aload_n hx hb dX9_add_58 rfl (lv_at hl 0 rfl) ?_
    refine lv_dup hx hb dX9_add_59 rfl ?_
    refine gf_9_known hx hb hts in9 hown hK hP (hts (.fieldLink RX9 32 "CoinsOfLast$Things" "known" "I") (List.mem_of_getElem? (i := 1) rfl)) dX9_add_60 ?_
    refine lv_iconst (v := (1 : Int32)) hx hb dX9_add_63 (by decide) ?_
    refine lv_iadd hx hb dX9_add_64 ?_
    obtain ⟨S_13, e_S_13, hZ⟩ := jx_l_some hZ
    refine pf_9_known hx hb hts in9 hown hK hP hD hS (hts (.fieldLink RX9 32 "CoinsOfLast$Things" "known" "I") (List.mem_of_getElem? (i := 1) rfl)) e_S_13 dX9_add_65 (fun H locs hP hD hS => ?_)
    refine lv_iconst (v := (1 : Int32)) hx hb dX9_add_68 (by decide) ?_
    exact leave_z hx hb hr hlocks rfl hP hS hZ dX9_add_69
  · have hZ := jx_i_neg c_1 hZ
    refine lv_iconst (v := (0 : Int32)) hx hb dX9_add_9 (by decide) ?_
    exact leave_z hx hb hr hlocks rfl hP hS hZ dX9_add_10
-- X10_tellShare
def f_X10_tellShare (x1 : Int32) (S : St) : Option (Int32 × St) :=
  jx_l (S.1 21 1) (fun x2_1 => jx_l (u1 S 21 1 x1) (fun S_2 => some (x2_1, S_2)))
set_option maxHeartbeats 4000000 in
set_option maxRecDepth 100000 in
theorem c_X10_tellShare (l : Launch) (D : va_G) (q : Nat → Nat) (k : CI) (x1 : Int32) (S : St) (sz : Nat) (Z : Int32 × St) (hZ : f_X10_tellShare x1 S = some Z) : MetI W_X SX l yX10_tellShare wsX10_tellShare { frames := 0, cells := 0, slots := 0, locals := 0 } [.ref (q 21), .int x1] D q k S sz Z := by
  refine enter (cc := cX10_tellShare) (maxL := 3) (ret := some .int) (by decide) rfl (Nat.le_of_ble_eq_true rfl) ?_
  intro p e s m below meth c A ls hx hb hr hts hown hlocks hml hP hK hD hA hS hsp hAe hl
  have hown : s.vm.findClass RX10 = some m.cls := hown
  have hl : lv_has ls 3 [(0, .ref (q 21)), (1, .int x1)] := hl
  have in10 : ∀ w ∈ wsX100, w ∈ wsX10_tellShare := fun _ h => (List.mem_cons_of_mem _ (List.mem_append_right _ h))
  unfold f_X10_tellShare at hZ
  refine lv_aload_n hx hb dX10_tellShare_0 rfl (lv_at hl 0 rfl) ?_
  refine gf_10_share hx hb hts in10 hown hK hP (hts (.fieldLink RX10 18 "CoinsOfLast$Window" "share" "I") (List.mem_of_getElem? (i := 1) rfl)) dX10_tellShare_1 ?_
  obtain ⟨x2_1, e_x2_1, hZ⟩ := jx_l_some hZ
  refine tx_i e_x2_1 ?_
  refine lv_istore_n (lv' := [(2, .int x2_1), (0, .ref (q 21)), (1, .int x1)]) hx hb dX10_tellShare_4 rfl hl (by decide) rfl (fun ls hl => ?_)
  refine lv_aload_n hx hb dX10_tellShare_5 rfl (lv_at hl 1 rfl) ?_
  refine lv_iload_n hx hb dX10_tellShare_6 rfl (lv_at hl 2 rfl) ?_
  obtain ⟨S_2, e_S_2, hZ⟩ := jx_l_some hZ
  refine pf_10_share hx hb hts in10 hown hK hP hD hS (hts (.fieldLink RX10 18 "CoinsOfLast$Window" "share" "I") (List.mem_of_getElem? (i := 1) rfl)) e_S_2 dX10_tellShare_7 (fun H locs hP hD hS => ?_)
  refine lv_iload_n hx hb dX10_tellShare_10 rfl (lv_at hl 0 rfl) ?_
  exact leave_i hx hb hr hlocks hP hS hZ dX10_tellShare_11
-- X10_tellFee
def f_X10_tellFee (x1 : Int32) (S : St) : Option (Int32 × St) :=
  jx_l (S.1 21 2) (fun x2_1 => jx_l (u1 S 21 2 x1) (fun S_2 => some (x2_1, S_2)))
set_option maxHeartbeats 4000000 in
set_option maxRecDepth 100000 in
theorem c_X10_tellFee (l : Launch) (D : va_G) (q : Nat → Nat) (k : CI) (x1 : Int32) (S : St) (sz : Nat) (Z : Int32 × St) (hZ : f_X10_tellFee x1 S = some Z) : MetI W_X SX l yX10_tellFee wsX10_tellFee { frames := 0, cells := 0, slots := 0, locals := 0 } [.ref (q 21), .int x1] D q k S sz Z := by
  refine enter (cc := cX10_tellFee) (maxL := 3) (ret := some .int) (by decide) rfl (Nat.le_of_ble_eq_true rfl) ?_
  intro p e s m below meth c A ls hx hb hr hts hown hlocks hml hP hK hD hA hS hsp hAe hl
  have hown : s.vm.findClass RX10 = some m.cls := hown
  have hl : lv_has ls 3 [(0, .ref (q 21)), (1, .int x1)] := hl
  have in10 : ∀ w ∈ wsX100, w ∈ wsX10_tellFee := fun _ h => (List.mem_cons_of_mem _ (List.mem_append_right _ h))
  unfold f_X10_tellFee at hZ
  refine lv_aload_n hx hb dX10_tellFee_0 rfl (lv_at hl 0 rfl) ?_
  refine gf_10_fee hx hb hts in10 hown hK hP (hts (.fieldLink RX10 22 "CoinsOfLast$Window" "fee" "I") (List.mem_of_getElem? (i := 1) rfl)) dX10_tellFee_1 ?_
  obtain ⟨x2_1, e_x2_1, hZ⟩ := jx_l_some hZ
  refine tx_i e_x2_1 ?_
  refine lv_istore_n (lv' := [(2, .int x2_1), (0, .ref (q 21)), (1, .int x1)]) hx hb dX10_tellFee_4 rfl hl (by decide) rfl (fun ls hl => ?_)
  refine lv_aload_n hx hb dX10_tellFee_5 rfl (lv_at hl 1 rfl) ?_
  refine lv_iload_n hx hb dX10_tellFee_6 rfl (lv_at hl 2 rfl) ?_
  obtain ⟨S_2, e_S_2, hZ⟩ := jx_l_some hZ
  refine pf_10_fee hx hb hts in10 hown hK hP hD hS (hts (.fieldLink RX10 22 "CoinsOfLast$Window" "fee" "I") (List.mem_of_getElem? (i := 1) rfl)) e_S_2 dX10_tellFee_7 (fun H locs hP hD hS => ?_)
  refine lv_iload_n hx hb dX10_tellFee_10 rfl (lv_at hl 0 rfl) ?_
  exact leave_i hx hb hr hlocks hP hS hZ dX10_tellFee_11
theorem hd_X8_worked : yX8_worked.cls = RX8 ∧ yX8_worked.cls ≠ "java/lang/invoke/MethodHandle" ∧ yX8_worked.cls ≠ "java/lang/invoke/VarHandle" ∧ (parseMethodDescriptor yX8_worked.desc).map (fun d => d.parameters.length) = some 0 := by decide +kernel
-- X10_rateOf
def f_X10_rateOf (x1 : Int32) (x2 : Int32) (x3 : Int32) (S : St) : Option (Int32 × St) :=
  (if x1 = x2 then some ((1000 : Int32), S) else (if (S.1 (40 + 4 * 0) 4) = 0 then some ((1000 : Int32), S) else jx_a (0 : Int32) 7 (jx_l (u1 S (40 + 4 * 0 + 3) (Int32.toNatClampNeg (0 : Int32)) x1) (fun S_4 => jx_a (1 : Int32) 7 (jx_l (u1 S_4 (40 + 4 * 0 + 3) (Int32.toNatClampNeg (1 : Int32)) x2) (fun S_6 => jx_a (2 : Int32) 7 (jx_l (u1 S_6 (40 + 4 * 0 + 3) (Int32.toNatClampNeg (2 : Int32)) x3) (fun S_8 => jx_b2 (f_X8_worked 0 S_8) (fun r_11 S_9 => jx_b2 (f_X11_bounded r_11 (1 : Int32) (9999 : Int32) S_9) (fun r_14 S_12 => some (r_14, S_12)))))))))))
theorem gX10_rateOf_X11_bounded : GoodIn wsX10_rateOf wsX11_bounded := goodIn_r _ [23, 24, 25, 26, 27, 28, 29, 30] rfl (by decide +kernel)
set_option maxHeartbeats 4000000 in
set_option maxRecDepth 100000 in
theorem c_X10_rateOf (l : Launch) (D : va_G) (q : Nat → Nat) (k : CI) (x1 : Int32) (x2 : Int32) (x3 : Int32) (S : St) (sz : Nat) (Z : Int32 × St) (hZ : f_X10_rateOf x1 x2 x3 S = some Z) : MetI W_X SX l yX10_rateOf wsX10_rateOf { frames := 2, cells := 0, slots := 0, locals := 48 } [.ref (q 21), .int x1, .int x2, .int x3] D q k S sz Z := by
  refine enter (cc := cX10_rateOf) (maxL := 4) (ret := some .int) (by decide) rfl (Nat.le_of_ble_eq_true rfl) ?_
  intro p e s m below meth c A ls hx hb hr hts hown hlocks hml hP hK hD hA hS hsp hAe hl
  have hown : s.vm.findClass RX10 = some m.cls := hown
  have hl : lv_has ls 4 [(0, .ref (q 21)), (1, .int x1), (2, .int x2), (3, .int x3)] := hl
  have in8 : ∀ w ∈ wsX80, w ∈ wsX10_rateOf := fun _ h => (List.mem_cons_of_mem _ (List.mem_append_right _ h))
  have in10 : ∀ w ∈ wsX100, w ∈ wsX10_rateOf := fun _ h => (List.mem_cons_of_mem _ (List.mem_append_left _ (List.mem_append_right _ h)))
  unfold f_X10_rateOf at hZ
  refine lv_iload_n hx hb dX10_rateOf_0 rfl (lv_at hl 1 rfl) ?_
  refine lv_iload_n hx hb dX10_rateOf_1 rfl (lv_at hl 2 rfl) ?_
  refine lv_icmp_eq (tgt := 15) hx hb dX10_rateOf_2 (by decide) (fun c_1 => ?_) (fun c_1 => ?_)
  · have hZ := jx_i_pos c_1 hZ
    refine lv_sipush (v := (1000 : Int32)) hx hb dX10_rateOf_15 (by decide) ?_
    exact leave_i hx hb hr hlocks hP hS hZ dX10_rateOf_18
  · have hZ := jx_i_neg c_1 hZ
    refine lv_aload_n hx hb dX10_rateOf_5 rfl (lv_at hl 0 rfl) ?_
    refine gf_10_rates hx hb hts in10 hown hK hP (hts (.fieldLink RX10 12 "CoinsOfLast$Window" "rates" "LCoinsOfLast$Text;") (List.mem_of_getElem? (i := 1) rfl)) dX10_rateOf_6 ?_
    refine gn_8_there (show (0 : Nat) < 2 by decide) hx hb hts in8 hown hK hP (hsp.1 _ (List.mem_of_getElem? (i := 35) rfl)) dX10_rateOf_9 ?_
    refine lv_if_ne (tgt := 19) hx hb dX10_rateOf_12 (by decide) (fun c_2 => ?_) (fun c_2 => ?_)
    · have hZ := jx_i_neg c_2 hZ
      refine lv_aload_n hx hb dX10_rateOf_19 rfl (lv_at hl 0 rfl) ?_
      refine gf_10_rates hx hb hts in10 hown hK hP (hts (.fieldLink RX10 12 "CoinsOfLast$Window" "rates" "LCoinsOfLast$Text;") (List.mem_of_getElem? (i := 1) rfl)) dX10_rateOf_20 ?_
      refine gn_8_names (show (0 : Nat) < 2 by decide) hx hb hts in8 hown hK hP (hsp.1 _ (List.mem_of_getElem? (i := 33) rfl)) dX10_rateOf_23 ?_
      refine lv_iconst (v := (0 : Int32)) hx hb dX10_rateOf_26 (by decide) ?_
      refine lv_iload_n hx hb dX10_rateOf_27 rfl (lv_at hl 1 rfl) ?_
      obtain ⟨c_3, hZ⟩ := jx_a_some hZ
      obtain ⟨S_4, e_S_4, hZ⟩ := jx_l_some hZ
      refine X_iast hx hb hK hP hD hS (wX_a8_names (show (0 : Nat) < 2 by decide)) (fun _ => wXs_a8_names (show (0 : Nat) < 2 by decide)) c_3 e_S_4 dX10_rateOf_28 (fun H locs hP hD hS => ?_)
      refine lv_aload_n hx hb dX10_rateOf_29 rfl (lv_at hl 0 rfl) ?_
      refine gf_10_rates hx hb hts in10 hown hK hP (hts (.fieldLink RX10 12 "CoinsOfLast$Window" "rates" "LCoinsOfLast$Text;") (List.mem_of_getElem? (i := 1) rfl)) dX10_rateOf_30 ?_
      refine gn_8_names (show (0 : Nat) < 2 by decide) hx hb hts in8 hown hK hP (hsp.1 _ (List.mem_of_getElem? (i := 33) rfl)) dX10_rateOf_33 ?_
      refine lv_iconst (v := (1 : Int32)) hx hb dX10_rateOf_36 (by decide) ?_
      refine lv_iload_n hx hb dX10_rateOf_37 rfl (lv_at hl 2 rfl) ?_
      obtain ⟨c_5, hZ⟩ := jx_a_some hZ
      obtain ⟨S_6, e_S_6, hZ⟩ := jx_l_some hZ
      refine X_iast hx hb hK hP hD hS (wX_a8_names (show (0 : Nat) < 2 by decide)) (fun _ => wXs_a8_names (show (0 : Nat) < 2 by decide)) c_5 e_S_6 dX10_rateOf_38 (fun H locs hP hD hS => ?_)
      refine lv_aload_n hx hb dX10_rateOf_39 rfl (lv_at hl 0 rfl) ?_
      refine gf_10_rates hx hb hts in10 hown hK hP (hts (.fieldLink RX10 12 "CoinsOfLast$Window" "rates" "LCoinsOfLast$Text;") (List.mem_of_getElem? (i := 1) rfl)) dX10_rateOf_40 ?_
      refine gn_8_names (show (0 : Nat) < 2 by decide) hx hb hts in8 hown hK hP (hsp.1 _ (List.mem_of_getElem? (i := 33) rfl)) dX10_rateOf_43 ?_
      refine lv_iconst (v := (2 : Int32)) hx hb dX10_rateOf_46 (by decide) ?_
      refine lv_iload_n hx hb dX10_rateOf_47 rfl (lv_at hl 3 rfl) ?_
      obtain ⟨c_7, hZ⟩ := jx_a_some hZ
      obtain ⟨S_8, e_S_8, hZ⟩ := jx_l_some hZ
      refine X_iast hx hb hK hP hD hS (wX_a8_names (show (0 : Nat) < 2 by decide)) (fun _ => wXs_a8_names (show (0 : Nat) < 2 by decide)) c_7 e_S_8 dX10_rateOf_48 (fun H locs hP hD hS => ?_)
      refine lv_aload_n hx hb dX10_rateOf_49 rfl (lv_at hl 0 rfl) ?_
      refine gf_10_rates hx hb hts in10 hown hK hP (hts (.fieldLink RX10 12 "CoinsOfLast$Window" "rates" "LCoinsOfLast$Text;") (List.mem_of_getElem? (i := 1) rfl)) dX10_rateOf_50 ?_
      obtain ⟨r_11, S_9, hc_10, hZ⟩ := jx_b2_some hZ
      refine call_Vi SX_ok sameX ⟨hx, hb, hml, hown, hts⟩ (c_X8_worked l D q k 0 S_8 _ (r_11, S_9) (show (0 : Nat) < 2 by decide) hc_10) (cwV 0 hts gX10_rateOf_X8_worked rfl rfl rfl hd_X8_worked ⟨Nat.le_of_ble_eq_true rfl, Nat.le_of_ble_eq_true rfl⟩) hK hP hD hS hA hsp (va_recv hK hP (ci := 8) (q0 := (40 + 4 * 0)) rfl (wX_o8 (show (0 : Nat) < 2 by decide))) (As := []) rfl hl.1 rfl (Nat.le_of_ble_eq_true rfl) dX10_rateOf_53 ⟨Nat.zero_le _, Nat.zero_le _⟩ (fun H locs hP hD hS => ?_)
      refine lv_iconst (v := (1 : Int32)) hx hb dX10_rateOf_56 (by decide) ?_
      refine lv_sipush (v := (9999 : Int32)) hx hb dX10_rateOf_57 (by decide) ?_
      obtain ⟨r_14, S_12, hc_13, hZ⟩ := jx_b2_some hZ
      refine call_Ni SX_ok sameX ⟨hx, hb, hml, hown, hts⟩ (c_X11_bounded l D q k r_11 (1 : Int32) (9999 : Int32) S_9 _ (r_14, S_12)  hc_13) (va_cnB 3 hts gX10_rateOf_X11_bounded rfl rfl rfl (hsp.1 _ (List.mem_of_getElem? (i := 72) rfl)) (hts _ (List.mem_of_getElem? (i := 22) rfl)) hd_X11_bounded ⟨Nat.le_of_ble_eq_true rfl, Nat.le_of_ble_eq_true rfl⟩) (hts _ (List.mem_of_getElem? (i := 21) rfl)) hK hP hD hS hA hsp (As := [.int r_11, .int (1 : Int32), .int (9999 : Int32)]) rfl hl.1 rfl (Nat.le_of_ble_eq_true rfl) dX10_rateOf_60 ⟨Nat.zero_le _, Nat.zero_le _⟩ (fun H locs hP hD hS => ?_)
      exact leave_i hx hb hr hlocks hP hS hZ dX10_rateOf_63
    · have hZ := jx_i_pos c_2 hZ
      refine lv_sipush (v := (1000 : Int32)) hx hb dX10_rateOf_15 (by decide) ?_
      exact leave_i hx hb hr hlocks hP hS hZ dX10_rateOf_18
theorem hd_X10_rateOf : yX10_rateOf.cls = RX10 ∧ yX10_rateOf.cls ≠ "java/lang/invoke/MethodHandle" ∧ yX10_rateOf.cls ≠ "java/lang/invoke/VarHandle" ∧ (parseMethodDescriptor yX10_rateOf.desc).map (fun d => d.parameters.length) = some 3 := by decide +kernel
-- X10_exchanged
def f_X10_exchanged (x1 : Int32) (x2 : Int32) (x3 : Int32) (x4 : Int32) (S : St) : Option (Int32 × St) :=
  jx_b2 (f_X10_rateOf x2 x3 x4 S) (fun r_3 S_1 => jx_e (1000 : Int64) (some ((Int64.toInt32 (((Int32.toInt64 x1) * (Int32.toInt64 r_3)) / (1000 : Int64))), S_1)))
set_option maxHeartbeats 4000000 in
set_option maxRecDepth 100000 in
theorem c_X10_exchanged (l : Launch) (D : va_G) (q : Nat → Nat) (k : CI) (x1 : Int32) (x2 : Int32) (x3 : Int32) (x4 : Int32) (S : St) (sz : Nat) (Z : Int32 × St) (hZ : f_X10_exchanged x1 x2 x3 x4 S = some Z) : MetI W_X SX l yX10_exchanged wsX10_exchanged { frames := 3, cells := 0, slots := 0, locals := 71 } [.ref (q 21), .int x1, .int x2, .int x3, .int x4] D q k S sz Z := by
  refine enter (cc := cX10_exchanged) (maxL := 5) (ret := some .int) (by decide) rfl (Nat.le_of_ble_eq_true rfl) ?_
  intro p e s m below meth c A ls hx hb hr hts hown hlocks hml hP hK hD hA hS hsp hAe hl
  have hown : s.vm.findClass RX10 = some m.cls := hown
  have hl : lv_has ls 5 [(0, .ref (q 21)), (1, .int x1), (2, .int x2), (3, .int x3), (4, .int x4)] := hl
  unfold f_X10_exchanged at hZ
  refine lv_iload_n hx hb dX10_exchanged_0 rfl (lv_at hl 1 rfl) ?_
  refine lv_i2l (v := (Int32.toInt64 x1)) hx hb dX10_exchanged_1 rfl ?_
  refine lv_aload_n hx hb dX10_exchanged_2 rfl (lv_at hl 0 rfl) ?_
  refine lv_iload_n hx hb dX10_exchanged_3 rfl (lv_at hl 2 rfl) ?_
  refine lv_iload_n hx hb dX10_exchanged_4 rfl (lv_at hl 3 rfl) ?_
  refine lv_iload hx hb dX10_exchanged_5 (lv_at hl 4 rfl) ?_
  obtain ⟨r_3, S_1, hc_2, hZ⟩ := jx_b2_some hZ
  refine call_Vi SX_ok sameX ⟨hx, hb, hml, hown, hts⟩ (c_X10_rateOf l D q k x2 x3 x4 S _ (r_3, S_1)  hc_2) (cwV 3 hts gX10_exchanged_X10_rateOf rfl rfl rfl hd_X10_rateOf ⟨Nat.le_of_ble_eq_true rfl, Nat.le_of_ble_eq_true rfl⟩) hK hP hD hS hA hsp (va_recv hK hP (ci := 10) (q0 := 21) rfl wX_21) (As := [.int x2, .int x3, .int x4]) rfl hl.1 rfl (Nat.le_of_ble_eq_true rfl) dX10_exchanged_7 ⟨Nat.zero_le _, Nat.zero_le _⟩ (fun H locs hP hD hS => ?_)
  refine lv_i2l (v := (Int32.toInt64 r_3)) hx hb dX10_exchanged_10 rfl ?_
  refine lv_lmul hx hb dX10_exchanged_11 ?_
  refine lv_ldc2 (v := (1000 : Int64)) hx hb hown (hts (.constantLong RX10 44 (1000)) (List.mem_of_getElem? (i := 1) rfl)) dX10_exchanged_12 ?_
  obtain ⟨c_4, hZ⟩ := jx_e_some hZ
  refine lv_ldiv hx hb dX10_exchanged_15 c_4 ?_
  refine lv_l2i (v := (Int64.toInt32 (((Int32.toInt64 x1) * (Int32.toInt64 r_3)) / (1000 : Int64)))) hx hb dX10_exchanged_16 rfl ?_
  exact leave_i hx hb hr hlocks hP hS hZ dX10_exchanged_17
-- X10_changed
def f_X10_changed (x1 : Int32) (x2 : Int32) (x3 : Int32) (x4 : Int32) (S : St) : Option (Int32 × St) :=
  jx_b2 (f_X10_rateOf x2 x3 x4 S) (fun r_3 S_1 => jx_e (1000 : Int64) (jx_l (((Int32.toInt64 x1) * (Int32.toInt64 r_3)) / (1000 : Int64)) (fun x5_5 => jx_e (100 : Int64) (jx_l (((x5_5 * (Int32.toInt64 (S_1.1 21 1))) + (99 : Int64)) / (100 : Int64)) (fun x7_7 => some ((Int64.toInt32 (if ((x5_5 - x7_7) - (Int32.toInt64 (S_1.1 21 2))) < (0 : Int64) then (0 : Int64) else ((x5_5 - x7_7) - (Int32.toInt64 (S_1.1 21 2))))), S_1))))))
set_option maxHeartbeats 4000000 in
set_option maxRecDepth 100000 in
theorem c_X10_changed (l : Launch) (D : va_G) (q : Nat → Nat) (k : CI) (x1 : Int32) (x2 : Int32) (x3 : Int32) (x4 : Int32) (S : St) (sz : Nat) (Z : Int32 × St) (hZ : f_X10_changed x1 x2 x3 x4 S = some Z) : MetI W_X SX l yX10_changed wsX10_changed { frames := 3, cells := 0, slots := 0, locals := 71 } [.ref (q 21), .int x1, .int x2, .int x3, .int x4] D q k S sz Z := by
  refine enter (cc := cX10_changed) (maxL := 9) (ret := some .int) (by decide) rfl (Nat.le_of_ble_eq_true rfl) ?_
  intro p e s m below meth c A ls hx hb hr hts hown hlocks hml hP hK hD hA hS hsp hAe hl
  have hown : s.vm.findClass RX10 = some m.cls := hown
  have hl : lv_has ls 9 [(0, .ref (q 21)), (1, .int x1), (2, .int x2), (3, .int x3), (4, .int x4)] := hl
  have in10 : ∀ w ∈ wsX100, w ∈ wsX10_changed := fun _ h => (List.mem_cons_of_mem _ (List.mem_append_left _ (List.mem_append_right _ h)))
  unfold f_X10_changed at hZ
  refine lv_iload_n hx hb dX10_changed_0 rfl (lv_at hl 1 rfl) ?_
  refine lv_i2l (v := (Int32.toInt64 x1)) hx hb dX10_changed_1 rfl ?_
  refine lv_aload_n hx hb dX10_changed_2 rfl (lv_at hl 0 rfl) ?_
  refine lv_iload_n hx hb dX10_changed_3 rfl (lv_at hl 2 rfl) ?_
  refine lv_iload_n hx hb dX10_changed_4 rfl (lv_at hl 3 rfl) ?_
  refine lv_iload hx hb dX10_changed_5 (lv_at hl 4 rfl) ?_
  obtain ⟨r_3, S_1, hc_2, hZ⟩ := jx_b2_some hZ
  refine call_Vi SX_ok sameX ⟨hx, hb, hml, hown, hts⟩ (c_X10_rateOf l D q k x2 x3 x4 S _ (r_3, S_1)  hc_2) (cwV 3 hts gX10_changed_X10_rateOf rfl rfl rfl hd_X10_rateOf ⟨Nat.le_of_ble_eq_true rfl, Nat.le_of_ble_eq_true rfl⟩) hK hP hD hS hA hsp (va_recv hK hP (ci := 10) (q0 := 21) rfl wX_21) (As := [.int x2, .int x3, .int x4]) rfl hl.1 rfl (Nat.le_of_ble_eq_true rfl) dX10_changed_7 ⟨Nat.zero_le _, Nat.zero_le _⟩ (fun H locs hP hD hS => ?_)
  refine lv_i2l (v := (Int32.toInt64 r_3)) hx hb dX10_changed_10 rfl ?_
  refine lv_lmul hx hb dX10_changed_11 ?_
  refine lv_ldc2 (v := (1000 : Int64)) hx hb hown (hts (.constantLong RX10 44 (1000)) (List.mem_of_getElem? (i := 1) rfl)) dX10_changed_12 ?_
  obtain ⟨c_4, hZ⟩ := jx_e_some hZ
  refine lv_ldiv hx hb dX10_changed_15 c_4 ?_
  obtain ⟨x5_5, e_x5_5, hZ⟩ := jx_l_some hZ
  refine tx_l e_x5_5 ?_
  refine lv_lstore (lv' := [(5, .long x5_5), (0, .ref (q 21)), (1, .int x1), (2, .int x2), (3, .int x3), (4, .int x4)]) hx hb dX10_changed_16 hl (by decide) rfl (fun ls hl => ?_)
  refine lv_lload hx hb dX10_changed_18 (lv_at hl 0 rfl) ?_
  refine lv_aload_n hx hb dX10_changed_20 rfl (lv_at hl 1 rfl) ?_
  refine gf_10_share hx hb hts in10 hown hK hP (hts (.fieldLink RX10 18 "CoinsOfLast$Window" "share" "I") (List.mem_of_getElem? (i := 2) rfl)) dX10_changed_21 ?_
  refine lv_i2l (v := (Int32.toInt64 (S_1.1 21 1))) hx hb dX10_changed_24 rfl ?_
  refine lv_lmul hx hb dX10_changed_25 ?_
  refine lv_ldc2 (v := (99 : Int64)) hx hb hown (hts (.constantLong RX10 46 (99)) (List.mem_of_getElem? (i := 3) rfl)) dX10_changed_26 ?_
  refine lv_ladd hx hb dX10_changed_29 ?_
  refine lv_ldc2 (v := (100 : Int64)) hx hb hown (hts (.constantLong RX10 48 (100)) (List.mem_of_getElem? (i := 4) rfl)) dX10_changed_30 ?_
  obtain ⟨c_6, hZ⟩ := jx_e_some hZ
  refine lv_ldiv hx hb dX10_changed_33 c_6 ?_
  obtain ⟨x7_7, e_x7_7, hZ⟩ := jx_l_some hZ
  refine tx_l e_x7_7 ?_
  refine lv_lstore (lv' := [(7, .long x7_7), (5, .long x5_5), (0, .ref (q 21)), (1, .int x1), (2, .int x2), (3, .int x3), (4, .int x4)]) hx hb dX10_changed_34 hl (by decide) rfl (fun ls hl => ?_)
  refine lv_lconst (v := (0 : Int64)) hx hb dX10_changed_36 (by decide) ?_
  refine lv_lload hx hb dX10_changed_37 (lv_at hl 1 rfl) ?_
  refine lv_lload hx hb dX10_changed_39 (lv_at hl 0 rfl) ?_
  refine lv_lsub hx hb dX10_changed_41 ?_
  refine lv_aload_n hx hb dX10_changed_42 rfl (lv_at hl 2 rfl) ?_
  refine gf_10_fee hx hb hts in10 hown hK hP (hts (.fieldLink RX10 22 "CoinsOfLast$Window" "fee" "I") (List.mem_of_getElem? (i := 5) rfl)) dX10_changed_43 ?_
  refine lv_i2l (v := (Int32.toInt64 (S_1.1 21 2))) hx hb dX10_changed_46 rfl ?_
  refine lv_lsub hx hb dX10_changed_47 ?_
  refine va_mmax_long hx hb (hml.trans hl.1.symm) hown (hts _ (List.mem_of_getElem? (i := 6) rfl)) (hts _ (List.mem_of_getElem? (i := 7) rfl)) (hts _ (List.mem_of_getElem? (i := 8) rfl)) (hts _ (List.mem_of_getElem? (i := 9) rfl)) (Nat.le_of_ble_eq_true rfl) (Nat.le_of_ble_eq_true rfl) (Nat.zero_le _) (Nat.zero_le _) dX10_changed_48 ?_
  refine lv_l2i (v := (Int64.toInt32 (if ((x5_5 - x7_7) - (Int32.toInt64 (S_1.1 21 2))) < (0 : Int64) then (0 : Int64) else ((x5_5 - x7_7) - (Int32.toInt64 (S_1.1 21 2)))))) hx hb dX10_changed_51 rfl ?_
  exact leave_i hx hb hr hlocks hP hS hZ dX10_changed_52
theorem hd_X10_changed : yX10_changed.cls = RX10 ∧ yX10_changed.cls ≠ "java/lang/invoke/MethodHandle" ∧ yX10_changed.cls ≠ "java/lang/invoke/VarHandle" ∧ (parseMethodDescriptor yX10_changed.desc).map (fun d => d.parameters.length) = some 4 := by decide +kernel
theorem hd_X10_goOn : yX10_goOn.cls = RX10 ∧ yX10_goOn.cls ≠ "java/lang/invoke/MethodHandle" ∧ yX10_goOn.cls ≠ "java/lang/invoke/VarHandle" ∧ (parseMethodDescriptor yX10_goOn.desc).map (fun d => d.parameters.length) = some 5 := by decide +kernel
-- X10_step
def f_X10_step (rc : Int32 → Int32 → Int32 → Int32 → Int32 → St → Option (St)) (x1 : Int32) (x2 : Int32) (x3 : Int32) (x4 : Int32) (x5 : Int32) (x6 : Int32) (S : St) : Option (St) :=
  jx_b2 (f_X10_changed x1 x2 x3 x4 S) (fun r_3 S_1 => jx_l (((x5 * (10 : Int32)) + x3) + (1 : Int32)) (fun x8_4 => (if x3 = (S_1.1 21 3) then (if r_3 ≤ (S_1.1 21 4) then some S_1 else jx_l (u1 S_1 21 4 r_3) (fun S_7 => jx_l (u1 S_7 21 5 x8_4) (fun S_8 => some S_8))) else jx_b (rc r_3 x3 (x4 + (1 : Int32)) x8_4 (x6 ||| ((1 : Int32) <<< (x3 &&& 31))) S_1) (fun S_9 => some S_9))))
set_option maxHeartbeats 4000000 in
set_option maxRecDepth 100000 in
theorem c_X10_step (l : Launch) (D : va_G) (q : Nat → Nat) (k : CI) (rc : Int32 → Int32 → Int32 → Int32 → Int32 → St → Option (St)) (fr lo : Nat) (hrc : ∀ (x1 : Int32) (x2 : Int32) (x3 : Int32) (x4 : Int32) (x5 : Int32) (S : St) (sz : Nat) (Z : St), rc x1 x2 x3 x4 x5 S = some Z → MetV W_X SX l yX10_goOn wsX10_goOn { frames := fr, cells := 0, slots := 0, locals := lo } [.ref (q 21), .int x1, .int x2, .int x3, .int x4, .int x5] D q k S sz Z) (x1 : Int32) (x2 : Int32) (x3 : Int32) (x4 : Int32) (x5 : Int32) (x6 : Int32) (S : St) (sz : Nat) (Z : St) (hZ : f_X10_step rc x1 x2 x3 x4 x5 x6 S = some Z) : MetV W_X SX l yX10_step wsX10_step { frames := fr + 4, cells := 0, slots := 0, locals := lo + 99 } [.ref (q 21), .int x1, .int x2, .int x3, .int x4, .int x5, .int x6] D q k S sz Z := by
  refine enter (cc := cX10_step) (maxL := 9) (ret := none) (by decide) rfl (Nat.le_of_ble_eq_true rfl) ?_
  intro p e s m below meth c A ls hx hb hr hts hown hlocks hml hP hK hD hA hS hsp hAe hl
  have hown : s.vm.findClass RX10 = some m.cls := hown
  have hl : lv_has ls 9 [(0, .ref (q 21)), (1, .int x1), (2, .int x2), (3, .int x3), (4, .int x4), (5, .int x5), (6, .int x6)] := hl
  have in10 : ∀ w ∈ wsX100, w ∈ wsX10_step := fun _ h => (List.mem_cons_of_mem _ (List.mem_append_left _ (List.mem_append_right _ h)))
  unfold f_X10_step at hZ
  refine lv_aload_n hx hb dX10_step_0 rfl (lv_at hl 0 rfl) ?_
  refine lv_iload_n hx hb dX10_step_1 rfl (lv_at hl 1 rfl) ?_
  refine lv_iload_n hx hb dX10_step_2 rfl (lv_at hl 2 rfl) ?_
  refine lv_iload_n hx hb dX10_step_3 rfl (lv_at hl 3 rfl) ?_
  refine lv_iload hx hb dX10_step_4 (lv_at hl 4 rfl) ?_
  obtain ⟨r_3, S_1, hc_2, hZ⟩ := jx_b2_some hZ
  refine call_Vi SX_ok sameX ⟨hx, hb, hml, hown, hts⟩ (c_X10_changed l D q k x1 x2 x3 x4 S _ (r_3, S_1)  hc_2) (cwV 4 hts gX10_step_X10_changed rfl rfl rfl hd_X10_changed ⟨by dsimp only; omega, by dsimp only; omega⟩) hK hP hD hS hA hsp (va_recv hK hP (ci := 10) (q0 := 21) rfl wX_21) (As := [.int x1, .int x2, .int x3, .int x4]) rfl hl.1 rfl (Nat.le_of_ble_eq_true rfl) dX10_step_6 ⟨Nat.zero_le _, Nat.zero_le _⟩ (fun H locs hP hD hS => ?_)
  refine lv_istore (lv' := [(7, .int r_3), (0, .ref (q 21)), (1, .int x1), (2, .int x2), (3, .int x3), (4, .int x4), (5, .int x5), (6, .int x6)]) hx hb dX10_step_9 hl (by decide) rfl (fun ls hl => ?_)
  refine lv_iload hx hb dX10_step_11 (lv_at hl 6 rfl) ?_
  refine lv_bipush (v := (10 : Int32)) hx hb dX10_step_13 (by decide) ?_
  refine lv_imul hx hb dX10_step_15 ?_
  refine lv_iload_n hx hb dX10_step_16 rfl (lv_at hl 4 rfl) ?_
  refine lv_iadd hx hb dX10_step_17 ?_
  refine lv_iconst (v := (1 : Int32)) hx hb dX10_step_18 (by decide) ?_
  refine lv_iadd hx hb dX10_step_19 ?_
  obtain ⟨x8_4, e_x8_4, hZ⟩ := jx_l_some hZ
  refine tx_i e_x8_4 ?_
  refine lv_istore (lv' := [(8, .int x8_4), (7, .int r_3), (0, .ref (q 21)), (1, .int x1), (2, .int x2), (3, .int x3), (4, .int x4), (5, .int x5), (6, .int x6)]) hx hb dX10_step_20 hl (by decide) rfl (fun ls hl => ?_)
  refine lv_iload_n hx hb dX10_step_22 rfl (lv_at hl 5 rfl) ?_
  refine lv_aload_n hx hb dX10_step_23 rfl (lv_at hl 2 rfl) ?_
  refine gf_10_goal hx hb hts in10 hown hK hP (hts (.fieldLink RX10 56 "CoinsOfLast$Window" "goal" "I") (List.mem_of_getElem? (i := 1) rfl)) dX10_step_24 ?_
  refine lv_icmp_eq (tgt := 52) hx hb dX10_step_27 (by decide) (fun c_5 => ?_) (fun c_5 => ?_)
  · have hZ := jx_i_pos c_5 hZ
    refine lv_iload hx hb dX10_step_52 (lv_at hl 1 rfl) ?_
    refine lv_aload_n hx hb dX10_step_54 rfl (lv_at hl 2 rfl) ?_
    refine gf_10_most hx hb hts in10 hown hK hP (hts (.fieldLink RX10 59 "CoinsOfLast$Window" "most" "I") (List.mem_of_getElem? (i := 2) rfl)) dX10_step_55 ?_
    refine lv_icmp_le (tgt := 73) hx hb dX10_step_58 (by decide) (fun c_6 => ?_) (fun c_6 => ?_)
    · have hZ := jx_i_pos c_6 hZ
      exact leave_v hx hb hr hlocks hP hS hZ dX10_step_73
    · have hZ := jx_i_neg c_6 hZ
      refine lv_aload_n hx hb dX10_step_61 rfl (lv_at hl 2 rfl) ?_
      refine lv_iload hx hb dX10_step_62 (lv_at hl 1 rfl) ?_
      obtain ⟨S_7, e_S_7, hZ⟩ := jx_l_some hZ
      refine pf_10_most hx hb hts in10 hown hK hP hD hS (hts (.fieldLink RX10 59 "CoinsOfLast$Window" "most" "I") (List.mem_of_getElem? (i := 2) rfl)) e_S_7 dX10_step_64 (fun H locs hP hD hS => ?_)
      refine lv_aload_n hx hb dX10_step_67 rfl (lv_at hl 2 rfl) ?_
      refine lv_iload hx hb dX10_step_68 (lv_at hl 0 rfl) ?_
      obtain ⟨S_8, e_S_8, hZ⟩ := jx_l_some hZ
      refine pf_10_digits hx hb hts in10 hown hK hP hD hS (hts (.fieldLink RX10 62 "CoinsOfLast$Window" "digits" "I") (List.mem_of_getElem? (i := 3) rfl)) e_S_8 dX10_step_70 (fun H locs hP hD hS => ?_)
      exact leave_v hx hb hr hlocks hP hS hZ dX10_step_73
  · have hZ := jx_i_neg c_5 hZ
    refine lv_aload_n hx hb dX10_step_30 rfl (lv_at hl 2 rfl) ?_
    refine lv_iload hx hb dX10_step_31 (lv_at hl 1 rfl) ?_
    refine lv_iload_n hx hb dX10_step_33 rfl (lv_at hl 5 rfl) ?_
    refine lv_iload hx hb dX10_step_34 (lv_at hl 6 rfl) ?_
    refine lv_iconst (v := (1 : Int32)) hx hb dX10_step_36 (by decide) ?_
    refine lv_iadd hx hb dX10_step_37 ?_
    refine lv_iload hx hb dX10_step_38 (lv_at hl 0 rfl) ?_
    refine lv_iload hx hb dX10_step_40 (lv_at hl 8 rfl) ?_
    refine lv_iconst (v := (1 : Int32)) hx hb dX10_step_42 (by decide) ?_
    refine lv_iload_n hx hb dX10_step_43 rfl (lv_at hl 5 rfl) ?_
    refine lv_ishl hx hb dX10_step_44 ?_
    refine lv_ior hx hb dX10_step_45 ?_
    obtain ⟨S_9, hc_10, hZ⟩ := jx_b_some hZ
    refine call_Vv SX_ok sameX ⟨hx, hb, hml, hown, hts⟩ (hrc r_3 x3 (x4 + (1 : Int32)) x8_4 (x6 ||| ((1 : Int32) <<< (x3 &&& 31))) S_1 _ S_9  hc_10) (cwV 5 hts gX10_step_X10_goOn rfl rfl rfl hd_X10_goOn ⟨by dsimp only; omega, by dsimp only; omega⟩) hK hP hD hS hA hsp (va_recv hK hP (ci := 10) (q0 := 21) rfl wX_21) (As := [.int r_3, .int x3, .int (x4 + (1 : Int32)), .int x8_4, .int (x6 ||| ((1 : Int32) <<< (x3 &&& 31)))]) rfl hl.1 rfl (Nat.le_of_ble_eq_true rfl) dX10_step_46 ⟨Nat.zero_le _, Nat.zero_le _⟩ (fun H locs hP hD hS => ?_)
    refine lv_goto (tgt := 73) hx hb dX10_step_49 (by decide) ?_
    exact leave_v hx hb hr hlocks hP hS hZ dX10_step_73
theorem hd_X10_step : yX10_step.cls = RX10 ∧ yX10_step.cls ≠ "java/lang/invoke/MethodHandle" ∧ yX10_step.cls ≠ "java/lang/invoke/VarHandle" ∧ (parseMethodDescriptor yX10_step.desc).map (fun d => d.parameters.length) = some 6 := by decide +kernel
-- X10_goOn
def f_X10_goOn_66 (rc : Int32 → Int32 → Int32 → Int32 → Int32 → St → Option (St)) (S_5 : St) : Option (St) :=
  some S_5
def f_X10_goOn_60i11 (rc : Int32 → Int32 → Int32 → Int32 → Int32 → St → Option (St)) (x1 : Int32) (x2 : Int32) (x3 : Int32) (x4 : Int32) (x5 : Int32) (x6_11 : Int32) (S_11 : St) : Option ((Int32 × St) ⊕ (St)) :=
  jx_l (x6_11 + 1) (fun x6_12 => some (.inl (x6_12, S_11)))
def f_X10_goOn_47i11 (rc : Int32 → Int32 → Int32 → Int32 → Int32 → St → Option (St)) (x1 : Int32) (x2 : Int32) (x3 : Int32) (x4 : Int32) (x5 : Int32) (x6_14 : Int32) (S_14 : St) : Option ((Int32 × St) ⊕ (St)) :=
  jx_b (f_X10_step rc x1 x2 x6_14 x3 x4 x5 S_14) (fun S_15 => f_X10_goOn_60i11 rc x1 x2 x3 x4 x5 x6_14 S_15)
def b_X10_goOn_11 (rc : Int32 → Int32 → Int32 → Int32 → Int32 → St → Option (St)) (x1 : Int32) (x2 : Int32) (x3 : Int32) (x4 : Int32) (x5 : Int32) (x6 : Int32) (S : St) : Option ((Int32 × St) ⊕ (St)) :=
  (if (4 : Int32) ≤ x6 then some (.inr S) else (if x6 = (S.1 21 3) then (if x2 = (S.1 21 3) then f_X10_goOn_60i11 rc x1 x2 x3 x4 x5 x6 S else f_X10_goOn_47i11 rc x1 x2 x3 x4 x5 x6 S) else (if ((x5 >>> (x6 &&& 31)) &&& (1 : Int32)) = 0 then f_X10_goOn_47i11 rc x1 x2 x3 x4 x5 x6 S else f_X10_goOn_60i11 rc x1 x2 x3 x4 x5 x6 S)))
def g_X10_goOn_11 (rc : Int32 → Int32 → Int32 → Int32 → Int32 → St → Option (St)) (x1 : Int32) (x2 : Int32) (x3 : Int32) (x4 : Int32) (x5 : Int32) : (Int32 × St) → Option ((Int32 × St) ⊕ (St)) := fun z => b_X10_goOn_11 rc x1 x2 x3 x4 x5 z.1 z.2
def fb_X10_goOn (rc : Int32 → Int32 → Int32 → Int32 → Int32 → St → Option (St)) (x1 : Int32) (x2 : Int32) (x3 : Int32) (x4 : Int32) (x5 : Int32) (S : St) : Option (St) :=
  (if x4 < (100000 : Int32) then jx_b (jx_w (g_X10_goOn_11 rc x1 x2 x3 x4 x5) FU ((0 : Int32), S)) (fun z => f_X10_goOn_66 rc z) else some S)
def f_X10_goOn : Nat → Int32 → Int32 → Int32 → Int32 → Int32 → St → Option (St)
  | 0, _, _, _, _, _, _ => none
  | n + 1, x1, x2, x3, x4, x5, S => fb_X10_goOn (f_X10_goOn n) x1 x2 x3 x4 x5 S
set_option maxHeartbeats 4000000 in
set_option maxRecDepth 100000 in
theorem cb_X10_goOn (l : Launch) (D : va_G) (q : Nat → Nat) (k : CI) (rc : Int32 → Int32 → Int32 → Int32 → Int32 → St → Option (St)) (fr lo : Nat) (hrc : ∀ (x1 : Int32) (x2 : Int32) (x3 : Int32) (x4 : Int32) (x5 : Int32) (S : St) (sz : Nat) (Z : St), rc x1 x2 x3 x4 x5 S = some Z → MetV W_X SX l yX10_goOn wsX10_goOn { frames := fr, cells := 0, slots := 0, locals := lo } [.ref (q 21), .int x1, .int x2, .int x3, .int x4, .int x5] D q k S sz Z) (x1 : Int32) (x2 : Int32) (x3 : Int32) (x4 : Int32) (x5 : Int32) (S : St) (sz : Nat) (Z : St) (hZ : fb_X10_goOn rc x1 x2 x3 x4 x5 S = some Z) : MetV W_X SX l yX10_goOn wsX10_goOn { frames := fr + 5, cells := 0, slots := 0, locals := lo + 127 } [.ref (q 21), .int x1, .int x2, .int x3, .int x4, .int x5] D q k S sz Z := by
  refine enter (cc := cX10_goOn) (maxL := 7) (ret := none) (by decide) rfl (Nat.le_of_ble_eq_true rfl) ?_
  intro p e s m below meth c A ls hx hb hr hts hown hlocks hml hP hK hD hA hS hsp hAe hl
  have hown : s.vm.findClass RX10 = some m.cls := hown
  have hl : lv_has ls 7 [(0, .ref (q 21)), (1, .int x1), (2, .int x2), (3, .int x3), (4, .int x4), (5, .int x5)] := hl
  have in10 : ∀ w ∈ wsX100, w ∈ wsX10_goOn := fun _ h => (List.mem_cons_of_mem _ (List.mem_append_left _ (List.mem_append_right _ h)))
  have j66 : ∀ (S_5 : St)  (H : Heap) (locs : List Loc) (hZ : f_X10_goOn_66 rc S_5 = some Z) (hP : va_P D vwCl (W_X q k S_5) H) (hD : va_D A (W_X q k S_5)) (hS : va_S A s.heap H locs) (ls : Array Slot) (hl : lv_has ls 7 []), W p l e ({ frames := fr + 5, cells := 0, slots := 0, locals := lo + 127 } : Room) s m ([.ref (q 21), .int x1, .int x2, .int x3, .int x4, .int x5] : List Value).toArray below meth c H locs 0 0 (MQ below (va_Qv (fun u => u = Z) (fun u t => va_P D vwCl (W_X q k u) t.heap) A) ([.ref (q 21), .int x1, .int x2, .int x3, .int x4, .int x5] : List Value).toArray s 0 0 A) (F0 m 66 ls []) := by
    intro S_5   H locs hZ hP hD hS ls hl
    unfold f_X10_goOn_66 at hZ
    exact leave_v hx hb hr hlocks hP hS hZ dX10_goOn_66
  unfold fb_X10_goOn at hZ
  refine lv_iload hx hb dX10_goOn_0 (lv_at hl 4 rfl) ?_
  refine lv_ldc (v := (100000 : Int32)) hx hb hown (hts (.constant RX10 69 (100000)) (List.mem_of_getElem? (i := 1) rfl)) dX10_goOn_2 ?_
  refine lv_icmp_lt (tgt := 8) hx hb dX10_goOn_4 (by decide) (fun c_1 => ?_) (fun c_1 => ?_)
  · have hZ := jx_i_pos c_1 hZ
    refine lv_iconst (v := (0 : Int32)) hx hb dX10_goOn_8 (by decide) ?_
    refine lv_istore (lv' := [(6, .int (0 : Int32)), (0, .ref (q 21)), (1, .int x1), (2, .int x2), (3, .int x3), (4, .int x4), (5, .int x5)]) hx hb dX10_goOn_9 hl (by decide) rfl (fun ls hl => ?_)
    obtain ⟨r_4, hw, hza_4⟩ := jx_b_some hZ
    have l_4 : ∀ (nn : Nat) (x6_2 : Int32) (S_3 : St) (H : Heap) (locs : List Loc) (hw : jx_w (g_X10_goOn_11 rc x1 x2 x3 x4 x5) nn (x6_2, S_3) = some r_4) (hP : va_P D vwCl (W_X q k S_3) H) (hD : va_D A (W_X q k S_3)) (hS : va_S A s.heap H locs) (ls : Array Slot) (hl : lv_has ls 7 [(0, .ref (q 21)), (1, .int x1), (2, .int x2), (3, .int x3), (4, .int x4), (5, .int x5), (6, .int x6_2)]), W p l e ({ frames := fr + 5, cells := 0, slots := 0, locals := lo + 127 } : Room) s m ([.ref (q 21), .int x1, .int x2, .int x3, .int x4, .int x5] : List Value).toArray below meth c H locs 0 0 (MQ below (va_Qv (fun u => u = Z) (fun u t => va_P D vwCl (W_X q k u) t.heap) A) ([.ref (q 21), .int x1, .int x2, .int x3, .int x4, .int x5] : List Value).toArray s 0 0 A) (F0 m 11 ls []) := by
      intro nn
      induction nn with
      | zero =>
        intro x6_2 S_3 H locs hw hP hD hS ls hl
        exact jx_w_zero hw
      | succ n_4 ih_4 =>
        intro x6_2 S_3 H locs hw hP hD hS ls hl
        obtain ⟨o_4, hZ, hk_4⟩ := jx_w_succ hw
        have hZ : b_X10_goOn_11 rc x1 x2 x3 x4 x5 x6_2 S_3 = some o_4 := hZ
        have j60i11 : ∀ (x6_26 : Int32) (S_26 : St)  (o_4 : (Int32 × St) ⊕ (St)) (hk_4 : jx_k (g_X10_goOn_11 rc x1 x2 x3 x4 x5) n_4 r_4 o_4) (H : Heap) (locs : List Loc) (hZ : f_X10_goOn_60i11 rc x1 x2 x3 x4 x5 x6_26 S_26 = some o_4) (hP : va_P D vwCl (W_X q k S_26) H) (hD : va_D A (W_X q k S_26)) (hS : va_S A s.heap H locs) (ls : Array Slot) (hl : lv_has ls 7 [(0, .ref (q 21)), (1, .int x1), (2, .int x2), (3, .int x3), (4, .int x4), (5, .int x5), (6, .int x6_26)]), W p l e ({ frames := fr + 5, cells := 0, slots := 0, locals := lo + 127 } : Room) s m ([.ref (q 21), .int x1, .int x2, .int x3, .int x4, .int x5] : List Value).toArray below meth c H locs 0 0 (MQ below (va_Qv (fun u => u = Z) (fun u t => va_P D vwCl (W_X q k u) t.heap) A) ([.ref (q 21), .int x1, .int x2, .int x3, .int x4, .int x5] : List Value).toArray s 0 0 A) (F0 m 60 ls []) := by
          intro x6_26 S_26  o_4 hk_4 H locs hZ hP hD hS ls hl
          unfold f_X10_goOn_60i11 at hZ
          obtain ⟨x6_27, e_x6_27, hZ⟩ := jx_l_some hZ
          refine lv_iinc (v := x6_27) (lv' := [(6, .int x6_27), (0, .ref (q 21)), (1, .int x1), (2, .int x2), (3, .int x3), (4, .int x4), (5, .int x5)]) hx hb dX10_goOn_60 hl (k := 6) rfl (by rw [e_x6_27]; rfl) (by decide) rfl (fun ls hl => ?_)
          refine lv_goto (tgt := 11) hx hb dX10_goOn_63 (by decide) ?_
          have ho := Option.some.inj hZ
          subst ho
          exact ih_4 x6_27 S_26 _ _ hk_4 hP hD hS _ (lv_sub hl [1, 2, 3, 4, 5, 6, 0] rfl)
        have j47i11 : ∀ (x6_29 : Int32) (S_29 : St)  (o_4 : (Int32 × St) ⊕ (St)) (hk_4 : jx_k (g_X10_goOn_11 rc x1 x2 x3 x4 x5) n_4 r_4 o_4) (H : Heap) (locs : List Loc) (hZ : f_X10_goOn_47i11 rc x1 x2 x3 x4 x5 x6_29 S_29 = some o_4) (hP : va_P D vwCl (W_X q k S_29) H) (hD : va_D A (W_X q k S_29)) (hS : va_S A s.heap H locs) (ls : Array Slot) (hl : lv_has ls 7 [(0, .ref (q 21)), (1, .int x1), (2, .int x2), (3, .int x3), (4, .int x4), (5, .int x5), (6, .int x6_29)]), W p l e ({ frames := fr + 5, cells := 0, slots := 0, locals := lo + 127 } : Room) s m ([.ref (q 21), .int x1, .int x2, .int x3, .int x4, .int x5] : List Value).toArray below meth c H locs 0 0 (MQ below (va_Qv (fun u => u = Z) (fun u t => va_P D vwCl (W_X q k u) t.heap) A) ([.ref (q 21), .int x1, .int x2, .int x3, .int x4, .int x5] : List Value).toArray s 0 0 A) (F0 m 47 ls []) := by
          intro x6_29 S_29  o_4 hk_4 H locs hZ hP hD hS ls hl
          unfold f_X10_goOn_47i11 at hZ
          refine lv_aload_n hx hb dX10_goOn_47 rfl (lv_at hl 0 rfl) ?_
          refine lv_iload_n hx hb dX10_goOn_48 rfl (lv_at hl 1 rfl) ?_
          refine lv_iload_n hx hb dX10_goOn_49 rfl (lv_at hl 2 rfl) ?_
          refine lv_iload hx hb dX10_goOn_50 (lv_at hl 6 rfl) ?_
          refine lv_iload_n hx hb dX10_goOn_52 rfl (lv_at hl 3 rfl) ?_
          refine lv_iload hx hb dX10_goOn_53 (lv_at hl 4 rfl) ?_
          refine lv_iload hx hb dX10_goOn_55 (lv_at hl 5 rfl) ?_
          obtain ⟨S_30, hc_31, hZ⟩ := jx_b_some hZ
          refine call_Vv SX_ok sameX ⟨hx, hb, hml, hown, hts⟩ (c_X10_step l D q k rc fr lo hrc x1 x2 x6_29 x3 x4 x5 S_29 _ S_30  hc_31) (cwV 6 hts gX10_goOn_X10_step rfl rfl rfl hd_X10_step ⟨by dsimp only; omega, by dsimp only; omega⟩) hK hP hD hS hA hsp (va_recv hK hP (ci := 10) (q0 := 21) rfl wX_21) (As := [.int x1, .int x2, .int x6_29, .int x3, .int x4, .int x5]) rfl hl.1 rfl (Nat.le_of_ble_eq_true rfl) dX10_goOn_57 ⟨Nat.zero_le _, Nat.zero_le _⟩ (fun H locs hP hD hS => ?_)
          exact j60i11 x6_29 S_30 _ hk_4 _ _ hZ hP hD hS _ (lv_sub hl [0, 1, 2, 3, 4, 5, 6] rfl)
        unfold b_X10_goOn_11 at hZ
        refine lv_iload hx hb dX10_goOn_11 (lv_at hl 6 rfl) ?_
        refine lv_iconst (v := (4 : Int32)) hx hb dX10_goOn_13 (by decide) ?_
        refine lv_icmp_ge (tgt := 66) hx hb dX10_goOn_14 (by decide) (fun c_22 => ?_) (fun c_22 => ?_)
        · have hZ := jx_i_pos c_22 hZ
          have ho := Option.some.inj hZ
          subst ho
          have hE := hza_4
          rw [← (show S_3 = r_4 from hk_4)] at hE
          have hZ : f_X10_goOn_66 rc S_3 = some Z := hE
          exact j66 S_3 _ _ hZ hP hD hS _ (lv_sub hl [] rfl)
        · have hZ := jx_i_neg c_22 hZ
          refine lv_iload hx hb dX10_goOn_17 (lv_at hl 6 rfl) ?_
          refine lv_aload_n hx hb dX10_goOn_19 rfl (lv_at hl 0 rfl) ?_
          refine gf_10_goal hx hb hts in10 hown hK hP (hts (.fieldLink RX10 56 "CoinsOfLast$Window" "goal" "I") (List.mem_of_getElem? (i := 2) rfl)) dX10_goOn_20 ?_
          refine lv_icmp_ne (tgt := 37) hx hb dX10_goOn_23 (by decide) (fun c_24 => ?_) (fun c_24 => ?_)
          · have hZ := jx_i_neg c_24 hZ
            refine lv_iload hx hb dX10_goOn_37 (lv_at hl 5 rfl) ?_
            refine lv_iload hx hb dX10_goOn_39 (lv_at hl 6 rfl) ?_
            refine lv_ishr hx hb dX10_goOn_41 ?_
            refine lv_iconst (v := (1 : Int32)) hx hb dX10_goOn_42 (by decide) ?_
            refine lv_iand hx hb dX10_goOn_43 ?_
            refine lv_if_ne (tgt := 60) hx hb dX10_goOn_44 (by decide) (fun c_25 => ?_) (fun c_25 => ?_)
            · have hZ := jx_i_neg c_25 hZ
              exact j60i11 x6_2 S_3 _ hk_4 _ _ hZ hP hD hS _ (lv_sub hl [0, 1, 2, 3, 4, 5, 6] rfl)
            · have hZ := jx_i_pos c_25 hZ
              exact j47i11 x6_2 S_3 _ hk_4 _ _ hZ hP hD hS _ (lv_sub hl [0, 1, 2, 3, 4, 5, 6] rfl)
          · have hZ := jx_i_pos c_24 hZ
            refine lv_iload_n hx hb dX10_goOn_26 rfl (lv_at hl 2 rfl) ?_
            refine lv_aload_n hx hb dX10_goOn_27 rfl (lv_at hl 0 rfl) ?_
            refine gf_10_goal hx hb hts in10 hown hK hP (hts (.fieldLink RX10 56 "CoinsOfLast$Window" "goal" "I") (List.mem_of_getElem? (i := 2) rfl)) dX10_goOn_28 ?_
            refine lv_icmp_eq (tgt := 60) hx hb dX10_goOn_31 (by decide) (fun c_34 => ?_) (fun c_34 => ?_)
            · have hZ := jx_i_pos c_34 hZ
              exact j60i11 x6_2 S_3 _ hk_4 _ _ hZ hP hD hS _ (lv_sub hl [0, 1, 2, 3, 4, 5, 6] rfl)
            · have hZ := jx_i_neg c_34 hZ
              refine lv_goto (tgt := 47) hx hb dX10_goOn_34 (by decide) ?_
              exact j47i11 x6_2 S_3 _ hk_4 _ _ hZ hP hD hS _ (lv_sub hl [0, 1, 2, 3, 4, 5, 6] rfl)
    exact l_4 FU (0 : Int32) S _ _ hw hP hD hS _ (lv_sub hl [1, 2, 3, 4, 5, 6, 0] rfl)
  · have hZ := jx_i_neg c_1 hZ
    exact leave_v hx hb hr hlocks hP hS hZ dX10_goOn_7
theorem c_X10_goOn (l : Launch) (D : va_G) (q : Nat → Nat) (k : CI) : ∀ (n : Nat) (x1 : Int32) (x2 : Int32) (x3 : Int32) (x4 : Int32) (x5 : Int32) (S : St) (sz : Nat) (Z : St) (hZ : f_X10_goOn n x1 x2 x3 x4 x5 S = some Z), MetV W_X SX l yX10_goOn wsX10_goOn { frames := 5 * n, cells := 0, slots := 0, locals := 127 * n } [.ref (q 21), .int x1, .int x2, .int x3, .int x4, .int x5] D q k S sz Z := by
  intro n
  induction n with
  | zero =>
    intro x1 x2 x3 x4 x5 S sz Z  hZ
    unfold f_X10_goOn at hZ
    cases hZ
  | succ n ih =>
    intro x1 x2 x3 x4 x5 S sz Z  hZ
    unfold f_X10_goOn at hZ
    exact cb_X10_goOn l D q k (f_X10_goOn n) (5 * n) (127 * n) ih x1 x2 x3 x4 x5 S sz Z  hZ
-- X10_search
def f_X10_search (x1 : Int32) (x2 : Int32) (x3 : Int32) (x4 : Int32) (S : St) : Option (St) :=
  jx_l (u1 S 21 3 x3) (fun S_1 => jx_l (u1 S_1 21 4 (-1 : Int32)) (fun S_2 => jx_l (u1 S_2 21 5 (0 : Int32)) (fun S_3 => jx_b (f_X10_goOn 8 x1 x2 x4 (x2 + (1 : Int32)) ((1 : Int32) <<< (x2 &&& 31)) S_3) (fun S_4 => some S_4))))
set_option maxHeartbeats 4000000 in
set_option maxRecDepth 100000 in
theorem c_X10_search (l : Launch) (D : va_G) (q : Nat → Nat) (k : CI) (x1 : Int32) (x2 : Int32) (x3 : Int32) (x4 : Int32) (S : St) (sz : Nat) (Z : St) (hZ : f_X10_search x1 x2 x3 x4 S = some Z) : MetV W_X SX l yX10_search wsX10_search { frames := 41, cells := 0, slots := 0, locals := 1042 } [.ref (q 21), .int x1, .int x2, .int x3, .int x4] D q k S sz Z := by
  refine enter (cc := cX10_search) (maxL := 5) (ret := none) (by decide) rfl (Nat.le_of_ble_eq_true rfl) ?_
  intro p e s m below meth c A ls hx hb hr hts hown hlocks hml hP hK hD hA hS hsp hAe hl
  have hown : s.vm.findClass RX10 = some m.cls := hown
  have hl : lv_has ls 5 [(0, .ref (q 21)), (1, .int x1), (2, .int x2), (3, .int x3), (4, .int x4)] := hl
  have in10 : ∀ w ∈ wsX100, w ∈ wsX10_search := fun _ h => (List.mem_cons_of_mem _ (List.mem_append_left _ (List.mem_append_right _ h)))
  unfold f_X10_search at hZ
  refine lv_aload_n hx hb dX10_search_0 rfl (lv_at hl 0 rfl) ?_
  refine lv_iload_n hx hb dX10_search_1 rfl (lv_at hl 3 rfl) ?_
  obtain ⟨S_1, e_S_1, hZ⟩ := jx_l_some hZ
  refine pf_10_goal hx hb hts in10 hown hK hP hD hS (hts (.fieldLink RX10 56 "CoinsOfLast$Window" "goal" "I") (List.mem_of_getElem? (i := 1) rfl)) e_S_1 dX10_search_2 (fun H locs hP hD hS => ?_)
  refine lv_aload_n hx hb dX10_search_5 rfl (lv_at hl 0 rfl) ?_
  refine lv_iconst (v := (-1 : Int32)) hx hb dX10_search_6 (by decide) ?_
  obtain ⟨S_2, e_S_2, hZ⟩ := jx_l_some hZ
  refine pf_10_most hx hb hts in10 hown hK hP hD hS (hts (.fieldLink RX10 59 "CoinsOfLast$Window" "most" "I") (List.mem_of_getElem? (i := 2) rfl)) e_S_2 dX10_search_7 (fun H locs hP hD hS => ?_)
  refine lv_aload_n hx hb dX10_search_10 rfl (lv_at hl 0 rfl) ?_
  refine lv_iconst (v := (0 : Int32)) hx hb dX10_search_11 (by decide) ?_
  obtain ⟨S_3, e_S_3, hZ⟩ := jx_l_some hZ
  refine pf_10_digits hx hb hts in10 hown hK hP hD hS (hts (.fieldLink RX10 62 "CoinsOfLast$Window" "digits" "I") (List.mem_of_getElem? (i := 3) rfl)) e_S_3 dX10_search_12 (fun H locs hP hD hS => ?_)
  refine lv_aload_n hx hb dX10_search_15 rfl (lv_at hl 0 rfl) ?_
  refine lv_iload_n hx hb dX10_search_16 rfl (lv_at hl 1 rfl) ?_
  refine lv_iload_n hx hb dX10_search_17 rfl (lv_at hl 2 rfl) ?_
  refine lv_iload hx hb dX10_search_18 (lv_at hl 4 rfl) ?_
  refine lv_iload_n hx hb dX10_search_20 rfl (lv_at hl 2 rfl) ?_
  refine lv_iconst (v := (1 : Int32)) hx hb dX10_search_21 (by decide) ?_
  refine lv_iadd hx hb dX10_search_22 ?_
  refine lv_iconst (v := (1 : Int32)) hx hb dX10_search_23 (by decide) ?_
  refine lv_iload_n hx hb dX10_search_24 rfl (lv_at hl 2 rfl) ?_
  refine lv_ishl hx hb dX10_search_25 ?_
  obtain ⟨S_4, hc_5, hZ⟩ := jx_b_some hZ
  refine call_Vv SX_ok sameX ⟨hx, hb, hml, hown, hts⟩ (c_X10_goOn l D q k 8 x1 x2 x4 (x2 + (1 : Int32)) ((1 : Int32) <<< (x2 &&& 31)) S_3 _ S_4  hc_5) (cwV 5 hts gX10_search_X10_goOn rfl rfl rfl hd_X10_goOn ⟨Nat.le_of_ble_eq_true rfl, Nat.le_of_ble_eq_true rfl⟩) hK hP hD hS hA hsp (va_recv hK hP (ci := 10) (q0 := 21) rfl wX_21) (As := [.int x1, .int x2, .int x4, .int (x2 + (1 : Int32)), .int ((1 : Int32) <<< (x2 &&& 31))]) rfl hl.1 rfl (Nat.le_of_ble_eq_true rfl) dX10_search_26 ⟨Nat.zero_le _, Nat.zero_le _⟩ (fun H locs hP hD hS => ?_)
  exact leave_v hx hb hr hlocks hP hS hZ dX10_search_29
theorem hd_X1_add : yX1_add.cls = RX1 ∧ yX1_add.cls ≠ "java/lang/invoke/MethodHandle" ∧ yX1_add.cls ≠ "java/lang/invoke/VarHandle" ∧ (parseMethodDescriptor yX1_add.desc).map (fun d => d.parameters.length) = some 4 := by decide +kernel
theorem hd_X1_fits : yX1_fits.cls ≠ "java/lang/invoke/MethodHandle" ∧ yX1_fits.cls ≠ "java/lang/invoke/VarHandle" ∧ (parseMethodDescriptor yX1_fits.desc).map (fun d => d.parameters.length) = some 4 := by decide +kernel
-- X11_sort
def f_X11_sort (x1 : Int32) (x2 : Int32) (S : St) : Option (Int32 × St) :=
  (if x1 < 0 then some ((-1 : Int32), S) else (if x2 < 0 then some ((-1 : Int32), S) else jx_d (100 : Int32) (jx_d (100 : Int32) (jx_d (100 : Int32) (jx_d (100 : Int32) (jx_b2 (f_X1_fits (x1 / (100 : Int32)) (x1 - x1 / (100 : Int32) * (100 : Int32)) (x2 / (100 : Int32)) (x2 - x2 / (100 : Int32) * (100 : Int32)) S) (fun r_9 S_7 => (if r_9 = 0 then some ((-1 : Int32), S_7) else jx_d (100 : Int32) (jx_d (100 : Int32) (jx_d (100 : Int32) (jx_d (100 : Int32) (jx_b2 (f_X1_add (x1 / (100 : Int32)) (x1 - x1 / (100 : Int32) * (100 : Int32)) (x2 / (100 : Int32)) (x2 - x2 / (100 : Int32) * (100 : Int32)) S_7) (fun r_17 S_15 => (if r_17 = 0 then some ((-3 : Int32), S_15) else some (((S_15.1 1 5) - (1 : Int32)), S_15)))))))))))))))
set_option maxHeartbeats 4000000 in
set_option maxRecDepth 100000 in
theorem c_X11_sort (l : Launch) (D : va_G) (q : Nat → Nat) (k : CI) (x1 : Int32) (x2 : Int32) (S : St) (sz : Nat) (Z : Int32 × St) (hZ : f_X11_sort x1 x2 S = some Z) : MetI W_X SX l yX11_sort wsX11_sort { frames := 3, cells := 0, slots := 0, locals := 65 } [.ref (q 0), .int x1, .int x2] D q k S sz Z := by
  refine enter (cc := cX11_sort) (maxL := 3) (ret := some .int) (by decide) rfl (Nat.le_of_ble_eq_true rfl) ?_
  intro p e s m below meth c A ls hx hb hr hts hown hlocks hml hP hK hD hA hS hsp hAe hl
  have hown : s.vm.findClass RX11 = some m.cls := hown
  have hl : lv_has ls 3 [(0, .ref (q 0)), (1, .int x1), (2, .int x2)] := hl
  have in1 : ∀ w ∈ wsX10, w ∈ wsX11_sort := fun _ h => (List.mem_cons_of_mem _ (List.mem_append_right _ h))
  have in11 : ∀ w ∈ wsX110, w ∈ wsX11_sort := fun _ h => (List.mem_cons_of_mem _ (List.mem_append_left _ (List.mem_append_right _ h)))
  unfold f_X11_sort at hZ
  refine lv_iload_n hx hb dX11_sort_0 rfl (lv_at hl 1 rfl) ?_
  refine lv_if_lt (tgt := 30) hx hb dX11_sort_1 (by decide) (fun c_1 => ?_) (fun c_1 => ?_)
  · have hZ := jx_i_pos c_1 hZ
    refine lv_iconst (v := (-1 : Int32)) hx hb dX11_sort_30 (by decide) ?_
    exact leave_i hx hb hr hlocks hP hS hZ dX11_sort_31
  · have hZ := jx_i_neg c_1 hZ
    refine lv_iload_n hx hb dX11_sort_4 rfl (lv_at hl 2 rfl) ?_
    refine lv_if_lt (tgt := 30) hx hb dX11_sort_5 (by decide) (fun c_2 => ?_) (fun c_2 => ?_)
    · have hZ := jx_i_pos c_2 hZ
      refine lv_iconst (v := (-1 : Int32)) hx hb dX11_sort_30 (by decide) ?_
      exact leave_i hx hb hr hlocks hP hS hZ dX11_sort_31
    · have hZ := jx_i_neg c_2 hZ
      refine lv_iload_n hx hb dX11_sort_8 rfl (lv_at hl 1 rfl) ?_
      refine lv_bipush (v := (100 : Int32)) hx hb dX11_sort_9 (by decide) ?_
      obtain ⟨c_3, hZ⟩ := jx_d_some hZ
      refine lv_idiv hx hb dX11_sort_11 c_3 ?_
      refine lv_iload_n hx hb dX11_sort_12 rfl (lv_at hl 1 rfl) ?_
      refine lv_bipush (v := (100 : Int32)) hx hb dX11_sort_13 (by decide) ?_
      obtain ⟨c_4, hZ⟩ := jx_d_some hZ
      refine lv_irem hx hb dX11_sort_15 c_4 ?_
      refine lv_iload_n hx hb dX11_sort_16 rfl (lv_at hl 2 rfl) ?_
      refine lv_bipush (v := (100 : Int32)) hx hb dX11_sort_17 (by decide) ?_
      obtain ⟨c_5, hZ⟩ := jx_d_some hZ
      refine lv_idiv hx hb dX11_sort_19 c_5 ?_
      refine lv_iload_n hx hb dX11_sort_20 rfl (lv_at hl 2 rfl) ?_
      refine lv_bipush (v := (100 : Int32)) hx hb dX11_sort_21 (by decide) ?_
      obtain ⟨c_6, hZ⟩ := jx_d_some hZ
      refine lv_irem hx hb dX11_sort_23 c_6 ?_
      obtain ⟨r_9, S_7, hc_8, hZ⟩ := jx_b2_some hZ
      refine call_Si SX_ok sameX ⟨hx, hb, hml, hown, hts⟩ (c_X1_fits l D q k (x1 / (100 : Int32)) (x1 - x1 / (100 : Int32) * (100 : Int32)) (x2 / (100 : Int32)) (x2 - x2 / (100 : Int32) * (100 : Int32)) S _ (r_9, S_7)  hc_8) (va_cwS 4 hts gX11_sort_X1_fits rfl rfl rfl hd_X1_fits ⟨Nat.le_of_ble_eq_true rfl, Nat.le_of_ble_eq_true rfl⟩) hK hP hD hS hA hsp (As := [.int (x1 / (100 : Int32)), .int (x1 - x1 / (100 : Int32) * (100 : Int32)), .int (x2 / (100 : Int32)), .int (x2 - x2 / (100 : Int32) * (100 : Int32))]) rfl hl.1 rfl (Nat.le_of_ble_eq_true rfl) dX11_sort_24 ⟨Nat.zero_le _, Nat.zero_le _⟩ (fun H locs hP hD hS => ?_)
      refine lv_if_ne (tgt := 32) hx hb dX11_sort_27 (by decide) (fun c_10 => ?_) (fun c_10 => ?_)
      · have hZ := jx_i_neg c_10 hZ
        refine lv_aload_n hx hb dX11_sort_32 rfl (lv_at hl 0 rfl) ?_
        refine gf_11_coins hx hb hts in11 hown hK hP (hts (.fieldLink RX11 12 "CoinsOfLast" "coins" "LCoinsOfLast$Coins;") (List.mem_of_getElem? (i := 1) rfl)) dX11_sort_33 ?_
        refine lv_iload_n hx hb dX11_sort_36 rfl (lv_at hl 1 rfl) ?_
        refine lv_bipush (v := (100 : Int32)) hx hb dX11_sort_37 (by decide) ?_
        obtain ⟨c_11, hZ⟩ := jx_d_some hZ
        refine lv_idiv hx hb dX11_sort_39 c_11 ?_
        refine lv_iload_n hx hb dX11_sort_40 rfl (lv_at hl 1 rfl) ?_
        refine lv_bipush (v := (100 : Int32)) hx hb dX11_sort_41 (by decide) ?_
        obtain ⟨c_12, hZ⟩ := jx_d_some hZ
        refine lv_irem hx hb dX11_sort_43 c_12 ?_
        refine lv_iload_n hx hb dX11_sort_44 rfl (lv_at hl 2 rfl) ?_
        refine lv_bipush (v := (100 : Int32)) hx hb dX11_sort_45 (by decide) ?_
        obtain ⟨c_13, hZ⟩ := jx_d_some hZ
        refine lv_idiv hx hb dX11_sort_47 c_13 ?_
        refine lv_iload_n hx hb dX11_sort_48 rfl (lv_at hl 2 rfl) ?_
        refine lv_bipush (v := (100 : Int32)) hx hb dX11_sort_49 (by decide) ?_
        obtain ⟨c_14, hZ⟩ := jx_d_some hZ
        refine lv_irem hx hb dX11_sort_51 c_14 ?_
        obtain ⟨r_17, S_15, hc_16, hZ⟩ := jx_b2_some hZ
        refine call_Vi SX_ok sameX ⟨hx, hb, hml, hown, hts⟩ (c_X1_add l D q k (x1 / (100 : Int32)) (x1 - x1 / (100 : Int32) * (100 : Int32)) (x2 / (100 : Int32)) (x2 - x2 / (100 : Int32) * (100 : Int32)) S_7 _ (r_17, S_15)  hc_16) (cwV 4 hts gX11_sort_X1_add rfl rfl rfl hd_X1_add ⟨Nat.le_of_ble_eq_true rfl, Nat.le_of_ble_eq_true rfl⟩) hK hP hD hS hA hsp (va_recv hK hP (ci := 1) (q0 := 1) rfl wX_1) (As := [.int (x1 / (100 : Int32)), .int (x1 - x1 / (100 : Int32) * (100 : Int32)), .int (x2 / (100 : Int32)), .int (x2 - x2 / (100 : Int32) * (100 : Int32))]) rfl hl.1 rfl (Nat.le_of_ble_eq_true rfl) dX11_sort_52 ⟨Nat.zero_le _, Nat.zero_le _⟩ (fun H locs hP hD hS => ?_)
        refine lv_if_eq (tgt := 70) hx hb dX11_sort_55 (by decide) (fun c_18 => ?_) (fun c_18 => ?_)
        · have hZ := jx_i_pos c_18 hZ
          refine lv_bipush (v := (-3 : Int32)) hx hb dX11_sort_70 (by decide) ?_
          exact leave_i hx hb hr hlocks hP hS hZ dX11_sort_72
        · have hZ := jx_i_neg c_18 hZ
          refine lv_aload_n hx hb dX11_sort_58 rfl (lv_at hl 0 rfl) ?_
          refine gf_11_coins hx hb hts in11 hown hK hP (hts (.fieldLink RX11 12 "CoinsOfLast" "coins" "LCoinsOfLast$Coins;") (List.mem_of_getElem? (i := 1) rfl)) dX11_sort_59 ?_
          refine gn_1_known hx hb hts in1 hown hK hP (hsp.1 _ (List.mem_of_getElem? (i := 15) rfl)) dX11_sort_62 ?_
          refine lv_iconst (v := (1 : Int32)) hx hb dX11_sort_65 (by decide) ?_
          refine lv_isub hx hb dX11_sort_66 ?_
          refine lv_goto (tgt := 72) hx hb dX11_sort_67 (by decide) ?_
          exact leave_i hx hb hr hlocks hP hS hZ dX11_sort_72
      · have hZ := jx_i_pos c_10 hZ
        refine lv_iconst (v := (-1 : Int32)) hx hb dX11_sort_30 (by decide) ?_
        exact leave_i hx hb hr hlocks hP hS hZ dX11_sort_31
-- X11_isShelf
def f_X11_isShelf (x0 : Int32) (S : St) : Option (Int32 × St) :=
  jx_b2 (f_X11_within x0 (0 : Int32) (5 : Int32) S) (fun r_3 S_1 => jx_z r_3 (some (r_3, S_1)))
set_option maxHeartbeats 4000000 in
set_option maxRecDepth 100000 in
theorem c_X11_isShelf (l : Launch) (D : va_G) (q : Nat → Nat) (k : CI) (x0 : Int32) (S : St) (sz : Nat) (Z : Int32 × St) (hZ : f_X11_isShelf x0 S = some Z) : MetI W_X SX l yX11_isShelf wsX11_isShelf { frames := 1, cells := 0, slots := 0, locals := 22 } [.int x0] D q k S sz Z := by
  refine enter (cc := cX11_isShelf) (maxL := 1) (ret := some .boolean) (by decide) rfl (Nat.le_of_ble_eq_true rfl) ?_
  intro p e s m below meth c A ls hx hb hr hts hown hlocks hml hP hK hD hA hS hsp hAe hl
  have hown : s.vm.findClass RX11 = some m.cls := hown
  have hl : lv_has ls 1 [(0, .int x0)] := hl
  unfold f_X11_isShelf at hZ
  refine lv_iload_n hx hb dX11_isShelf_0 rfl (lv_at hl 0 rfl) ?_
  refine lv_iconst (v := (0 : Int32)) hx hb dX11_isShelf_1 (by decide) ?_
  refine lv_iconst (v := (5 : Int32)) hx hb dX11_isShelf_2 (by decide) ?_
  obtain ⟨r_3, S_1, hc_2, hZ⟩ := jx_b2_some hZ
  refine call_Si SX_ok sameX ⟨hx, hb, hml, hown, hts⟩ (c_X11_within l D q k x0 (0 : Int32) (5 : Int32) S _ (r_3, S_1)  hc_2) (va_cwS 3 hts gX11_isShelf_X11_within rfl rfl rfl hd_X11_within ⟨Nat.le_of_ble_eq_true rfl, Nat.le_of_ble_eq_true rfl⟩) hK hP hD hS hA hsp (As := [.int x0, .int (0 : Int32), .int (5 : Int32)]) rfl hl.1 rfl (Nat.le_of_ble_eq_true rfl) dX11_isShelf_3 ⟨Nat.zero_le _, Nat.zero_le _⟩ (fun H locs hP hD hS => ?_)
  obtain ⟨hnz, hZ⟩ := jx_z_some hZ
  exact leave_z hx hb hr hlocks hnz hP hS hZ dX11_isShelf_6
-- X11_addFromRow
def f_X11_addFromRow (t : Nat) (x2 : Int32) (x3 : Int32) (S : St) : Option (Int32 × St) :=
  jx_l (x2 + ((4 : Int32) * x3)) (fun x4_1 => jx_b2 (f_X7_spans t x4_1 (4 : Int32) S) (fun r_4 S_2 => (if r_4 = 0 then some ((0 : Int32), S_2) else jx_a x4_1 60 (jx_l (Int64.toInt32 (S_2.2 (48 + 2 * t + 1) (Int32.toNatClampNeg x4_1))) (fun x5_7 => jx_a (x4_1 + (1 : Int32)) 60 (jx_l (Int64.toInt32 (S_2.2 (48 + 2 * t + 1) (Int32.toNatClampNeg (x4_1 + (1 : Int32))))) (fun x6_9 => jx_a (x4_1 + (2 : Int32)) 60 (jx_l (Int64.toInt32 (S_2.2 (48 + 2 * t + 1) (Int32.toNatClampNeg (x4_1 + (2 : Int32))))) (fun x7_11 => jx_a (x4_1 + (3 : Int32)) 60 (jx_l (Int64.toInt32 (S_2.2 (48 + 2 * t + 1) (Int32.toNatClampNeg (x4_1 + (3 : Int32))))) (fun x8_13 => jx_b2 (f_X1_fits x5_7 x6_9 x7_11 x8_13 S_2) (fun r_16 S_14 => (if r_16 = 0 then some ((0 : Int32), S_14) else jx_b2 (f_X1_add x5_7 x6_9 x7_11 x8_13 S_14) (fun r_20 S_18 => (if r_20 = 0 then some ((0 : Int32), S_18) else some ((1 : Int32), S_18))))))))))))))))
set_option maxHeartbeats 4000000 in
set_option maxRecDepth 100000 in
theorem c_X11_addFromRow (l : Launch) (D : va_G) (q : Nat → Nat) (k : CI) (t : Nat) (x2 : Int32) (x3 : Int32) (S : St) (sz : Nat) (Z : Int32 × St) (ht : t < 6) (hZ : f_X11_addFromRow t x2 x3 S = some Z) : MetI W_X SX l yX11_addFromRow wsX11_addFromRow { frames := 3, cells := 0, slots := 0, locals := 65 } [.ref (q 0), .ref (q (48 + 2 * t)), .int x2, .int x3] D q k S sz Z := by
  refine enter (cc := cX11_addFromRow) (maxL := 9) (ret := some .boolean) (by decide) rfl (Nat.le_of_ble_eq_true rfl) ?_
  intro p e s m below meth c A ls hx hb hr hts hown hlocks hml hP hK hD hA hS hsp hAe hl
  have hown : s.vm.findClass RX11 = some m.cls := hown
  have hl : lv_has ls 9 [(0, .ref (q 0)), (1, .ref (q (48 + 2 * t))), (2, .int x2), (3, .int x3)] := hl
  have in7 : ∀ w ∈ wsX70, w ∈ wsX11_addFromRow := fun _ h => (List.mem_cons_of_mem _ (List.mem_append_left _ (List.mem_append_left _ (List.mem_append_right _ h))))
  have in11 : ∀ w ∈ wsX110, w ∈ wsX11_addFromRow := fun _ h => (List.mem_cons_of_mem _ (List.mem_append_left _ (List.mem_append_right _ h)))
  unfold f_X11_addFromRow at hZ
  refine lv_iload_n hx hb dX11_addFromRow_0 rfl (lv_at hl 2 rfl) ?_
  refine lv_iconst (v := (4 : Int32)) hx hb dX11_addFromRow_1 (by decide) ?_
  refine lv_iload_n hx hb dX11_addFromRow_2 rfl (lv_at hl 3 rfl) ?_
  refine lv_imul hx hb dX11_addFromRow_3 ?_
  refine lv_iadd hx hb dX11_addFromRow_4 ?_
  obtain ⟨x4_1, e_x4_1, hZ⟩ := jx_l_some hZ
  refine tx_i e_x4_1 ?_
  refine lv_istore (lv' := [(4, .int x4_1), (0, .ref (q 0)), (1, .ref (q (48 + 2 * t))), (2, .int x2), (3, .int x3)]) hx hb dX11_addFromRow_5 hl (by decide) rfl (fun ls hl => ?_)
  refine lv_aload_n hx hb dX11_addFromRow_7 rfl (lv_at hl 2 rfl) ?_
  refine lv_iload hx hb dX11_addFromRow_8 (lv_at hl 0 rfl) ?_
  refine lv_iconst (v := (4 : Int32)) hx hb dX11_addFromRow_10 (by decide) ?_
  obtain ⟨r_4, S_2, hc_3, hZ⟩ := jx_b2_some hZ
  refine call_Vi SX_ok sameX ⟨hx, hb, hml, hown, hts⟩ (c_X7_spans l D q k t x4_1 (4 : Int32) S _ (r_4, S_2) ht hc_3) (cwV 2 hts gX11_addFromRow_X7_spans rfl rfl rfl hd_X7_spans ⟨Nat.le_of_ble_eq_true rfl, Nat.le_of_ble_eq_true rfl⟩) hK hP hD hS hA hsp (va_recv hK hP (ci := 7) (q0 := (48 + 2 * t)) rfl (wX_o7 ht)) (As := [.int x4_1, .int (4 : Int32)]) rfl hl.1 rfl (Nat.le_of_ble_eq_true rfl) dX11_addFromRow_11 ⟨Nat.zero_le _, Nat.zero_le _⟩ (fun H locs hP hD hS => ?_)
  refine lv_if_ne (tgt := 19) hx hb dX11_addFromRow_14 (by decide) (fun c_5 => ?_) (fun c_5 => ?_)
  · have hZ := jx_i_neg c_5 hZ
    refine lv_aload_n hx hb dX11_addFromRow_19 rfl (lv_at hl 2 rfl) ?_
    refine gn_7_cells ht hx hb hts in7 hown hK hP (hsp.1 _ (List.mem_of_getElem? (i := 50) rfl)) dX11_addFromRow_20 ?_
    refine lv_iload hx hb dX11_addFromRow_23 (lv_at hl 0 rfl) ?_
    obtain ⟨c_6, hZ⟩ := jx_a_some hZ
    refine X_lald hx hb hK hP (wX_a7_cells ht) c_6 dX11_addFromRow_25 ?_
    refine lv_l2i (v := (Int64.toInt32 (S_2.2 (48 + 2 * t + 1) (Int32.toNatClampNeg x4_1)))) hx hb dX11_addFromRow_26 rfl ?_
    obtain ⟨x5_7, e_x5_7, hZ⟩ := jx_l_some hZ
    refine tx_i e_x5_7 ?_
    refine lv_istore (lv' := [(5, .int x5_7), (4, .int x4_1), (0, .ref (q 0)), (1, .ref (q (48 + 2 * t))), (2, .int x2), (3, .int x3)]) hx hb dX11_addFromRow_27 hl (by decide) rfl (fun ls hl => ?_)
    refine lv_aload_n hx hb dX11_addFromRow_29 rfl (lv_at hl 3 rfl) ?_
    refine gn_7_cells ht hx hb hts in7 hown hK hP (hsp.1 _ (List.mem_of_getElem? (i := 50) rfl)) dX11_addFromRow_30 ?_
    refine lv_iload hx hb dX11_addFromRow_33 (lv_at hl 1 rfl) ?_
    refine lv_iconst (v := (1 : Int32)) hx hb dX11_addFromRow_35 (by decide) ?_
    refine lv_iadd hx hb dX11_addFromRow_36 ?_
    obtain ⟨c_8, hZ⟩ := jx_a_some hZ
    refine X_lald hx hb hK hP (wX_a7_cells ht) c_8 dX11_addFromRow_37 ?_
    refine lv_l2i (v := (Int64.toInt32 (S_2.2 (48 + 2 * t + 1) (Int32.toNatClampNeg (x4_1 + (1 : Int32)))))) hx hb dX11_addFromRow_38 rfl ?_
    obtain ⟨x6_9, e_x6_9, hZ⟩ := jx_l_some hZ
    refine tx_i e_x6_9 ?_
    refine lv_istore (lv' := [(6, .int x6_9), (5, .int x5_7), (4, .int x4_1), (0, .ref (q 0)), (1, .ref (q (48 + 2 * t))), (2, .int x2), (3, .int x3)]) hx hb dX11_addFromRow_39 hl (by decide) rfl (fun ls hl => ?_)
    refine lv_aload_n hx hb dX11_addFromRow_41 rfl (lv_at hl 4 rfl) ?_
    refine gn_7_cells ht hx hb hts in7 hown hK hP (hsp.1 _ (List.mem_of_getElem? (i := 50) rfl)) dX11_addFromRow_42 ?_
    refine lv_iload hx hb dX11_addFromRow_45 (lv_at hl 2 rfl) ?_
    refine lv_iconst (v := (2 : Int32)) hx hb dX11_addFromRow_47 (by decide) ?_
    refine lv_iadd hx hb dX11_addFromRow_48 ?_
    obtain ⟨c_10, hZ⟩ := jx_a_some hZ
    refine X_lald hx hb hK hP (wX_a7_cells ht) c_10 dX11_addFromRow_49 ?_
    refine lv_l2i (v := (Int64.toInt32 (S_2.2 (48 + 2 * t + 1) (Int32.toNatClampNeg (x4_1 + (2 : Int32)))))) hx hb dX11_addFromRow_50 rfl ?_
    obtain ⟨x7_11, e_x7_11, hZ⟩ := jx_l_some hZ
    refine tx_i e_x7_11 ?_
    refine lv_istore (lv' := [(7, .int x7_11), (6, .int x6_9), (5, .int x5_7), (4, .int x4_1), (0, .ref (q 0)), (1, .ref (q (48 + 2 * t))), (2, .int x2), (3, .int x3)]) hx hb dX11_addFromRow_51 hl (by decide) rfl (fun ls hl => ?_)
    refine lv_aload_n hx hb dX11_addFromRow_53 rfl (lv_at hl 5 rfl) ?_
    refine gn_7_cells ht hx hb hts in7 hown hK hP (hsp.1 _ (List.mem_of_getElem? (i := 50) rfl)) dX11_addFromRow_54 ?_
    refine lv_iload hx hb dX11_addFromRow_57 (lv_at hl 3 rfl) ?_
    refine lv_iconst (v := (3 : Int32)) hx hb dX11_addFromRow_59 (by decide) ?_
    refine lv_iadd hx hb dX11_addFromRow_60 ?_
    obtain ⟨c_12, hZ⟩ := jx_a_some hZ
    refine X_lald hx hb hK hP (wX_a7_cells ht) c_12 dX11_addFromRow_61 ?_
    refine lv_l2i (v := (Int64.toInt32 (S_2.2 (48 + 2 * t + 1) (Int32.toNatClampNeg (x4_1 + (3 : Int32)))))) hx hb dX11_addFromRow_62 rfl ?_
    obtain ⟨x8_13, e_x8_13, hZ⟩ := jx_l_some hZ
    refine tx_i e_x8_13 ?_
    refine lv_istore (lv' := [(8, .int x8_13), (7, .int x7_11), (6, .int x6_9), (5, .int x5_7), (4, .int x4_1), (0, .ref (q 0)), (1, .ref (q (48 + 2 * t))), (2, .int x2), (3, .int x3)]) hx hb dX11_addFromRow_63 hl (by decide) rfl (fun ls hl => ?_)
    refine lv_iload hx hb dX11_addFromRow_65 (lv_at hl 3 rfl) ?_
    refine lv_iload hx hb dX11_addFromRow_67 (lv_at hl 2 rfl) ?_
    refine lv_iload hx hb dX11_addFromRow_69 (lv_at hl 1 rfl) ?_
    refine lv_iload hx hb dX11_addFromRow_71 (lv_at hl 0 rfl) ?_
    obtain ⟨r_16, S_14, hc_15, hZ⟩ := jx_b2_some hZ
    refine call_Si SX_ok sameX ⟨hx, hb, hml, hown, hts⟩ (c_X1_fits l D q k x5_7 x6_9 x7_11 x8_13 S_2 _ (r_16, S_14)  hc_15) (va_cwS 4 hts gX11_addFromRow_X1_fits rfl rfl rfl hd_X1_fits ⟨Nat.le_of_ble_eq_true rfl, Nat.le_of_ble_eq_true rfl⟩) hK hP hD hS hA hsp (As := [.int x5_7, .int x6_9, .int x7_11, .int x8_13]) rfl hl.1 rfl (Nat.le_of_ble_eq_true rfl) dX11_addFromRow_73 ⟨Nat.zero_le _, Nat.zero_le _⟩ (fun H locs hP hD hS => ?_)
    refine lv_if_eq (tgt := 101) hx hb dX11_addFromRow_76 (by decide) (fun c_17 => ?_) (fun c_17 => ?_)
    · have hZ := jx_i_pos c_17 hZ
      refine lv_iconst (v := (0 : Int32)) hx hb dX11_addFromRow_101 (by decide) ?_
      exact leave_z hx hb hr hlocks rfl hP hS hZ dX11_addFromRow_102
    · have hZ := jx_i_neg c_17 hZ
      refine lv_aload_n hx hb dX11_addFromRow_79 rfl (lv_at hl 5 rfl) ?_
      refine gf_11_coins hx hb hts in11 hown hK hP (hts (.fieldLink RX11 12 "CoinsOfLast" "coins" "LCoinsOfLast$Coins;") (List.mem_of_getElem? (i := 1) rfl)) dX11_addFromRow_80 ?_
      refine lv_iload hx hb dX11_addFromRow_83 (lv_at hl 3 rfl) ?_
      refine lv_iload hx hb dX11_addFromRow_85 (lv_at hl 2 rfl) ?_
      refine lv_iload hx hb dX11_addFromRow_87 (lv_at hl 1 rfl) ?_
      refine lv_iload hx hb dX11_addFromRow_89 (lv_at hl 0 rfl) ?_
      obtain ⟨r_20, S_18, hc_19, hZ⟩ := jx_b2_some hZ
      refine call_Vi SX_ok sameX ⟨hx, hb, hml, hown, hts⟩ (c_X1_add l D q k x5_7 x6_9 x7_11 x8_13 S_14 _ (r_20, S_18)  hc_19) (cwV 4 hts gX11_addFromRow_X1_add rfl rfl rfl hd_X1_add ⟨Nat.le_of_ble_eq_true rfl, Nat.le_of_ble_eq_true rfl⟩) hK hP hD hS hA hsp (va_recv hK hP (ci := 1) (q0 := 1) rfl wX_1) (As := [.int x5_7, .int x6_9, .int x7_11, .int x8_13]) rfl hl.1 rfl (Nat.le_of_ble_eq_true rfl) dX11_addFromRow_91 ⟨Nat.zero_le _, Nat.zero_le _⟩ (fun H locs hP hD hS => ?_)
      refine lv_if_eq (tgt := 101) hx hb dX11_addFromRow_94 (by decide) (fun c_21 => ?_) (fun c_21 => ?_)
      · have hZ := jx_i_pos c_21 hZ
        refine lv_iconst (v := (0 : Int32)) hx hb dX11_addFromRow_101 (by decide) ?_
        exact leave_z hx hb hr hlocks rfl hP hS hZ dX11_addFromRow_102
      · have hZ := jx_i_neg c_21 hZ
        refine lv_iconst (v := (1 : Int32)) hx hb dX11_addFromRow_97 (by decide) ?_
        refine lv_goto (tgt := 102) hx hb dX11_addFromRow_98 (by decide) ?_
        exact leave_z hx hb hr hlocks rfl hP hS hZ dX11_addFromRow_102
  · have hZ := jx_i_pos c_5 hZ
    refine lv_iconst (v := (0 : Int32)) hx hb dX11_addFromRow_17 (by decide) ?_
    exact leave_z hx hb hr hlocks rfl hP hS hZ dX11_addFromRow_18
theorem hd_X11_addFromRow : yX11_addFromRow.cls = RX11 ∧ yX11_addFromRow.cls ≠ "java/lang/invoke/MethodHandle" ∧ yX11_addFromRow.cls ≠ "java/lang/invoke/VarHandle" ∧ (parseMethodDescriptor yX11_addFromRow.desc).map (fun d => d.parameters.length) = some 3 := by decide +kernel
theorem hd_X11_isShelf : yX11_isShelf.cls ≠ "java/lang/invoke/MethodHandle" ∧ yX11_isShelf.cls ≠ "java/lang/invoke/VarHandle" ∧ (parseMethodDescriptor yX11_isShelf.desc).map (fun d => d.parameters.length) = some 1 := by decide +kernel
-- X11_sorts
def f_X11_sorts_84 (x5_17 : Int32) (S_17 : St) : Option (Int32 × St) :=
  some (x5_17, S_17)
def b_X11_sorts_60 (x2 : Int32) (x3 : Int32) (h4 : Nat) (x5 : Int32) (S : St) : Option ((Int32 × St) ⊕ ((Int32 × St))) :=
  (if x3 ≤ x5 then some (.inr (x5, S)) else jx_b2 (f_X11_addFromRow h4 x2 x5 S) (fun r_23 S_21 => (if r_23 = 0 then some (.inr (x5, S_21)) else jx_l (x5 + 1) (fun x5_26 => some (.inl (x5_26, S_21))))))
def g_X11_sorts_60 (x2 : Int32) (x3 : Int32) (h4 : Nat) : (Int32 × St) → Option ((Int32 × St) ⊕ ((Int32 × St))) := fun z => b_X11_sorts_60 x2 x3 h4 z.1 z.2
def f_X11_sorts (x1 : Int32) (x2 : Int32) (x3 : Int32) (S : St) : Option (Int32 × St) :=
  jx_b2 (f_X11_isShelf x1 S) (fun r_3 S_1 => (if r_3 = 0 then some ((-1 : Int32), S_1) else jx_b2 (f_X11_within x3 (1 : Int32) (8 : Int32) S_1) (fun r_7 S_5 => (if r_7 = 0 then some ((-1 : Int32), S_5) else jx_a x1 6 (jx_l (Int32.toNatClampNeg x1) (fun h_10 => (if (S_5.1 (48 + 2 * h_10) 1) = 0 then some ((0 : Int32), S_5) else (if (S_5.1 (48 + 2 * h_10) 1) = (2 : Int32) then (if (S_5.1 (48 + 2 * h_10) 3) = 0 then jx_b (jx_w (g_X11_sorts_60 x2 x3 h_10) FU ((0 : Int32), S_5)) (fun z => f_X11_sorts_84 z.1 z.2) else some ((-12 : Int32), S_5)) else some ((-12 : Int32), S_5)))))))))
set_option maxHeartbeats 4000000 in
set_option maxRecDepth 100000 in
theorem c_X11_sorts (l : Launch) (D : va_G) (q : Nat → Nat) (k : CI) (x1 : Int32) (x2 : Int32) (x3 : Int32) (S : St) (sz : Nat) (Z : Int32 × St) (hZ : f_X11_sorts x1 x2 x3 S = some Z) : MetI W_X SX l yX11_sorts wsX11_sorts { frames := 4, cells := 0, slots := 0, locals := 93 } [.ref (q 0), .int x1, .int x2, .int x3] D q k S sz Z := by
  refine enter (cc := cX11_sorts) (maxL := 6) (ret := some .int) (by decide) rfl (Nat.le_of_ble_eq_true rfl) ?_
  intro p e s m below meth c A ls hx hb hr hts hown hlocks hml hP hK hD hA hS hsp hAe hl
  have hown : s.vm.findClass RX11 = some m.cls := hown
  have hl : lv_has ls 6 [(0, .ref (q 0)), (1, .int x1), (2, .int x2), (3, .int x3)] := hl
  have in7 : ∀ w ∈ wsX70, w ∈ wsX11_sorts := fun _ h => (List.mem_cons_of_mem _ (List.mem_append_left _ (List.mem_append_right _ h)))
  have in11 : ∀ w ∈ wsX110, w ∈ wsX11_sorts := fun _ h => (List.mem_cons_of_mem _ (List.mem_append_left _ (List.mem_append_left _ (List.mem_append_right _ h))))
  have j84 : ∀ (x5_17 : Int32) (S_17 : St)  (H : Heap) (locs : List Loc) (hZ : f_X11_sorts_84 x5_17 S_17 = some Z) (hP : va_P D vwCl (W_X q k S_17) H) (hD : va_D A (W_X q k S_17)) (hS : va_S A s.heap H locs) (ls : Array Slot) (hl : lv_has ls 6 [(5, .int x5_17)]), W p l e ({ frames := 4, cells := 0, slots := 0, locals := 93 } : Room) s m ([.ref (q 0), .int x1, .int x2, .int x3] : List Value).toArray below meth c H locs 0 0 (MQ below (va_Qi (fun r u => (r, u) = Z) (fun u t => va_P D vwCl (W_X q k u) t.heap) A) ([.ref (q 0), .int x1, .int x2, .int x3] : List Value).toArray s 0 0 A) (F0 m 84 ls []) := by
    intro x5_17 S_17   H locs hZ hP hD hS ls hl
    unfold f_X11_sorts_84 at hZ
    refine lv_iload hx hb dX11_sorts_84 (lv_at hl 0 rfl) ?_
    exact leave_i hx hb hr hlocks hP hS hZ dX11_sorts_86
  unfold f_X11_sorts at hZ
  refine lv_iload_n hx hb dX11_sorts_0 rfl (lv_at hl 1 rfl) ?_
  obtain ⟨r_3, S_1, hc_2, hZ⟩ := jx_b2_some hZ
  refine call_Si SX_ok sameX ⟨hx, hb, hml, hown, hts⟩ (c_X11_isShelf l D q k x1 S _ (r_3, S_1)  hc_2) (va_cwS 1 hts gX11_sorts_X11_isShelf rfl rfl rfl hd_X11_isShelf ⟨Nat.le_of_ble_eq_true rfl, Nat.le_of_ble_eq_true rfl⟩) hK hP hD hS hA hsp (As := [.int x1]) rfl hl.1 rfl (Nat.le_of_ble_eq_true rfl) dX11_sorts_1 ⟨Nat.zero_le _, Nat.zero_le _⟩ (fun H locs hP hD hS => ?_)
  refine lv_if_eq (tgt := 17) hx hb dX11_sorts_4 (by decide) (fun c_4 => ?_) (fun c_4 => ?_)
  · have hZ := jx_i_pos c_4 hZ
    refine lv_iconst (v := (-1 : Int32)) hx hb dX11_sorts_17 (by decide) ?_
    exact leave_i hx hb hr hlocks hP hS hZ dX11_sorts_18
  · have hZ := jx_i_neg c_4 hZ
    refine lv_iload_n hx hb dX11_sorts_7 rfl (lv_at hl 3 rfl) ?_
    refine lv_iconst (v := (1 : Int32)) hx hb dX11_sorts_8 (by decide) ?_
    refine lv_bipush (v := (8 : Int32)) hx hb dX11_sorts_9 (by decide) ?_
    obtain ⟨r_7, S_5, hc_6, hZ⟩ := jx_b2_some hZ
    refine call_Si SX_ok sameX ⟨hx, hb, hml, hown, hts⟩ (c_X11_within l D q k x3 (1 : Int32) (8 : Int32) S_1 _ (r_7, S_5)  hc_6) (va_cwS 3 hts gX11_sorts_X11_within rfl rfl rfl hd_X11_within ⟨Nat.le_of_ble_eq_true rfl, Nat.le_of_ble_eq_true rfl⟩) hK hP hD hS hA hsp (As := [.int x3, .int (1 : Int32), .int (8 : Int32)]) rfl hl.1 rfl (Nat.le_of_ble_eq_true rfl) dX11_sorts_11 ⟨Nat.zero_le _, Nat.zero_le _⟩ (fun H locs hP hD hS => ?_)
    refine lv_if_ne (tgt := 19) hx hb dX11_sorts_14 (by decide) (fun c_8 => ?_) (fun c_8 => ?_)
    · have hZ := jx_i_neg c_8 hZ
      refine lv_aload_n hx hb dX11_sorts_19 rfl (lv_at hl 0 rfl) ?_
      refine gf_11_shelves hx hb hts in11 hown hK hP (hts (.fieldLink RX11 81 "CoinsOfLast" "shelves" "[LCoinsOfLast$Shelf;") (List.mem_of_getElem? (i := 1) rfl)) dX11_sorts_20 ?_
      refine lv_iload_n hx hb dX11_sorts_23 rfl (lv_at hl 1 rfl) ?_
      obtain ⟨c_9, hZ⟩ := jx_a_some hZ
      obtain ⟨h_10, e_h_10, hZ⟩ := jx_l_some hZ
      refine X_aald hx hb hK hP c_9 e_h_10 dX11_sorts_24 (fun hh_10 => ?_)
      refine lv_astore (lv' := [(4, .ref (q (48 + 2 * h_10))), (0, .ref (q 0)), (1, .int x1), (2, .int x2), (3, .int x3)]) hx hb dX11_sorts_25 hl (by decide) rfl (fun ls hl => ?_)
      refine lv_aload hx hb dX11_sorts_27 (lv_at hl 0 rfl) ?_
      refine gn_7_holds hh_10 hx hb hts in7 hown hK hP (hsp.1 _ (List.mem_of_getElem? (i := 51) rfl)) dX11_sorts_29 ?_
      refine lv_if_ne (tgt := 37) hx hb dX11_sorts_32 (by decide) (fun c_11 => ?_) (fun c_11 => ?_)
      · have hZ := jx_i_neg c_11 hZ
        refine lv_aload hx hb dX11_sorts_37 (lv_at hl 0 rfl) ?_
        refine gn_7_holds hh_10 hx hb hts in7 hown hK hP (hsp.1 _ (List.mem_of_getElem? (i := 51) rfl)) dX11_sorts_39 ?_
        refine lv_iconst (v := (2 : Int32)) hx hb dX11_sorts_42 (by decide) ?_
        refine lv_icmp_ne (tgt := 54) hx hb dX11_sorts_43 (by decide) (fun c_12 => ?_) (fun c_12 => ?_)
        · have hZ := jx_i_neg c_12 hZ
          refine lv_bipush (v := (-12 : Int32)) hx hb dX11_sorts_54 (by decide) ?_
          exact leave_i hx hb hr hlocks hP hS hZ dX11_sorts_56
        · have hZ := jx_i_pos c_12 hZ
          refine lv_aload hx hb dX11_sorts_46 (lv_at hl 0 rfl) ?_
          refine gn_7_sort hh_10 hx hb hts in7 hown hK hP (hsp.1 _ (List.mem_of_getElem? (i := 53) rfl)) dX11_sorts_48 ?_
          refine lv_if_eq (tgt := 57) hx hb dX11_sorts_51 (by decide) (fun c_13 => ?_) (fun c_13 => ?_)
          · have hZ := jx_i_pos c_13 hZ
            refine lv_iconst (v := (0 : Int32)) hx hb dX11_sorts_57 (by decide) ?_
            refine lv_istore (lv' := [(5, .int (0 : Int32)), (4, .ref (q (48 + 2 * h_10))), (0, .ref (q 0)), (1, .int x1), (2, .int x2), (3, .int x3)]) hx hb dX11_sorts_58 hl (by decide) rfl (fun ls hl => ?_)
            obtain ⟨r_16, hw, hza_16⟩ := jx_b_some hZ
            have l_16 : ∀ (nn : Nat) (x5_14 : Int32) (S_15 : St) (H : Heap) (locs : List Loc) (hw : jx_w (g_X11_sorts_60 x2 x3 h_10) nn (x5_14, S_15) = some r_16) (hP : va_P D vwCl (W_X q k S_15) H) (hD : va_D A (W_X q k S_15)) (hS : va_S A s.heap H locs) (ls : Array Slot) (hl : lv_has ls 6 [(0, .ref (q 0)), (2, .int x2), (3, .int x3), (4, .ref (q (48 + 2 * h_10))), (5, .int x5_14)]), W p l e ({ frames := 4, cells := 0, slots := 0, locals := 93 } : Room) s m ([.ref (q 0), .int x1, .int x2, .int x3] : List Value).toArray below meth c H locs 0 0 (MQ below (va_Qi (fun r u => (r, u) = Z) (fun u t => va_P D vwCl (W_X q k u) t.heap) A) ([.ref (q 0), .int x1, .int x2, .int x3] : List Value).toArray s 0 0 A) (F0 m 60 ls []) := by
              intro nn
              induction nn with
              | zero =>
                intro x5_14 S_15 H locs hw hP hD hS ls hl
                exact jx_w_zero hw
              | succ n_16 ih_16 =>
                intro x5_14 S_15 H locs hw hP hD hS ls hl
                obtain ⟨o_16, hZ, hk_16⟩ := jx_w_succ hw
                have hZ : b_X11_sorts_60 x2 x3 h_10 x5_14 S_15 = some o_16 := hZ
                unfold b_X11_sorts_60 at hZ
                refine lv_iload hx hb dX11_sorts_60 (lv_at hl 4 rfl) ?_
                refine lv_iload_n hx hb dX11_sorts_62 rfl (lv_at hl 2 rfl) ?_
                refine lv_icmp_ge (tgt := 84) hx hb dX11_sorts_63 (by decide) (fun c_27 => ?_) (fun c_27 => ?_)
                · have hZ := jx_i_pos c_27 hZ
                  have ho := Option.some.inj hZ
                  subst ho
                  have hE := hza_16
                  rw [← (show (x5_14, S_15) = r_16 from hk_16)] at hE
                  have hZ : f_X11_sorts_84 x5_14 S_15 = some Z := hE
                  exact j84 x5_14 S_15 _ _ hZ hP hD hS _ (lv_sub hl [4] rfl)
                · have hZ := jx_i_neg c_27 hZ
                  refine lv_aload_n hx hb dX11_sorts_66 rfl (lv_at hl 0 rfl) ?_
                  refine lv_aload hx hb dX11_sorts_67 (lv_at hl 3 rfl) ?_
                  refine lv_iload_n hx hb dX11_sorts_69 rfl (lv_at hl 1 rfl) ?_
                  refine lv_iload hx hb dX11_sorts_70 (lv_at hl 4 rfl) ?_
                  obtain ⟨r_31, S_29, hc_30, hZ⟩ := jx_b2_some hZ
                  refine call_Vi SX_ok sameX ⟨hx, hb, hml, hown, hts⟩ (c_X11_addFromRow l D q k h_10 x2 x5_14 S_15 _ (r_31, S_29) hh_10 hc_30) (cwV 3 hts gX11_sorts_X11_addFromRow rfl rfl rfl hd_X11_addFromRow ⟨Nat.le_of_ble_eq_true rfl, Nat.le_of_ble_eq_true rfl⟩) hK hP hD hS hA hsp (va_recv hK hP (ci := 11) (q0 := 0) rfl wX_0) (As := [.ref (q (48 + 2 * h_10)), .int x2, .int x5_14]) rfl hl.1 rfl (Nat.le_of_ble_eq_true rfl) dX11_sorts_72 ⟨Nat.zero_le _, Nat.zero_le _⟩ (fun H locs hP hD hS => ?_)
                  refine lv_if_eq (tgt := 84) hx hb dX11_sorts_75 (by decide) (fun c_32 => ?_) (fun c_32 => ?_)
                  · have hZ := jx_i_pos c_32 hZ
                    have ho := Option.some.inj hZ
                    subst ho
                    have hE := hza_16
                    rw [← (show (x5_14, S_29) = r_16 from hk_16)] at hE
                    have hZ : f_X11_sorts_84 x5_14 S_29 = some Z := hE
                    exact j84 x5_14 S_29 _ _ hZ hP hD hS _ (lv_sub hl [4] rfl)
                  · have hZ := jx_i_neg c_32 hZ
                    obtain ⟨x5_34, e_x5_34, hZ⟩ := jx_l_some hZ
                    refine lv_iinc (v := x5_34) (lv' := [(5, .int x5_34), (0, .ref (q 0)), (2, .int x2), (3, .int x3), (4, .ref (q (48 + 2 * h_10)))]) hx hb dX11_sorts_78 hl (k := 4) rfl (by rw [e_x5_34]; rfl) (by decide) rfl (fun ls hl => ?_)
                    refine lv_goto (tgt := 60) hx hb dX11_sorts_81 (by decide) ?_
                    have ho := Option.some.inj hZ
                    subst ho
                    exact ih_16 x5_34 S_29 _ _ hk_16 hP hD hS _ (lv_sub hl [1, 2, 3, 4, 0] rfl)
            exact l_16 FU (0 : Int32) S_5 _ _ hw hP hD hS _ (lv_sub hl [2, 4, 5, 1, 0] rfl)
          · have hZ := jx_i_neg c_13 hZ
            refine lv_bipush (v := (-12 : Int32)) hx hb dX11_sorts_54 (by decide) ?_
            exact leave_i hx hb hr hlocks hP hS hZ dX11_sorts_56
      · have hZ := jx_i_pos c_11 hZ
        refine lv_iconst (v := (0 : Int32)) hx hb dX11_sorts_35 (by decide) ?_
        exact leave_i hx hb hr hlocks hP hS hZ dX11_sorts_36
    · have hZ := jx_i_pos c_8 hZ
      refine lv_iconst (v := (-1 : Int32)) hx hb dX11_sorts_17 (by decide) ?_
      exact leave_i hx hb hr hlocks hP hS hZ dX11_sorts_18
theorem hd_X1_knows : yX1_knows.cls = RX1 ∧ yX1_knows.cls ≠ "java/lang/invoke/MethodHandle" ∧ yX1_knows.cls ≠ "java/lang/invoke/VarHandle" ∧ (parseMethodDescriptor yX1_knows.desc).map (fun d => d.parameters.length) = some 1 := by decide +kernel
-- X11_purse
def f_X11_purse (x1 : Int32) (x2 : Int32) (S : St) : Option (Int32 × St) :=
  jx_b2 (f_X1_knows x1 S) (fun r_3 S_1 => (if r_3 = 0 then some ((-1 : Int32), S_1) else jx_b2 (f_X11_within x2 (0 : Int32) (6 : Int32) S_1) (fun r_7 S_5 => (if r_7 = 0 then some ((-1 : Int32), S_5) else jx_a x1 8 (jx_l (S_5.1 6 (Int32.toNatClampNeg x1)) (fun x3_10 => jx_a x1 8 (jx_l (u1 S_5 6 (Int32.toNatClampNeg x1) x2) (fun S_12 => some (x3_10, S_12)))))))))
set_option maxHeartbeats 4000000 in
set_option maxRecDepth 100000 in
theorem c_X11_purse (l : Launch) (D : va_G) (q : Nat → Nat) (k : CI) (x1 : Int32) (x2 : Int32) (S : St) (sz : Nat) (Z : Int32 × St) (hZ : f_X11_purse x1 x2 S = some Z) : MetI W_X SX l yX11_purse wsX11_purse { frames := 1, cells := 0, slots := 0, locals := 22 } [.ref (q 0), .int x1, .int x2] D q k S sz Z := by
  refine enter (cc := cX11_purse) (maxL := 4) (ret := some .int) (by decide) rfl (Nat.le_of_ble_eq_true rfl) ?_
  intro p e s m below meth c A ls hx hb hr hts hown hlocks hml hP hK hD hA hS hsp hAe hl
  have hown : s.vm.findClass RX11 = some m.cls := hown
  have hl : lv_has ls 4 [(0, .ref (q 0)), (1, .int x1), (2, .int x2)] := hl
  have in1 : ∀ w ∈ wsX10, w ∈ wsX11_purse := fun _ h => (List.mem_cons_of_mem _ (List.mem_append_right _ h))
  have in11 : ∀ w ∈ wsX110, w ∈ wsX11_purse := fun _ h => (List.mem_cons_of_mem _ (List.mem_append_left _ (List.mem_append_right _ h)))
  unfold f_X11_purse at hZ
  refine lv_aload_n hx hb dX11_purse_0 rfl (lv_at hl 0 rfl) ?_
  refine gf_11_coins hx hb hts in11 hown hK hP (hts (.fieldLink RX11 12 "CoinsOfLast" "coins" "LCoinsOfLast$Coins;") (List.mem_of_getElem? (i := 1) rfl)) dX11_purse_1 ?_
  refine lv_iload_n hx hb dX11_purse_4 rfl (lv_at hl 1 rfl) ?_
  obtain ⟨r_3, S_1, hc_2, hZ⟩ := jx_b2_some hZ
  refine call_Vi SX_ok sameX ⟨hx, hb, hml, hown, hts⟩ (c_X1_knows l D q k x1 S _ (r_3, S_1)  hc_2) (cwV 1 hts gX11_purse_X1_knows rfl rfl rfl hd_X1_knows ⟨Nat.le_of_ble_eq_true rfl, Nat.le_of_ble_eq_true rfl⟩) hK hP hD hS hA hsp (va_recv hK hP (ci := 1) (q0 := 1) rfl wX_1) (As := [.int x1]) rfl hl.1 rfl (Nat.le_of_ble_eq_true rfl) dX11_purse_5 ⟨Nat.zero_le _, Nat.zero_le _⟩ (fun H locs hP hD hS => ?_)
  refine lv_if_eq (tgt := 21) hx hb dX11_purse_8 (by decide) (fun c_4 => ?_) (fun c_4 => ?_)
  · have hZ := jx_i_pos c_4 hZ
    refine lv_iconst (v := (-1 : Int32)) hx hb dX11_purse_21 (by decide) ?_
    exact leave_i hx hb hr hlocks hP hS hZ dX11_purse_22
  · have hZ := jx_i_neg c_4 hZ
    refine lv_iload_n hx hb dX11_purse_11 rfl (lv_at hl 2 rfl) ?_
    refine lv_iconst (v := (0 : Int32)) hx hb dX11_purse_12 (by decide) ?_
    refine lv_bipush (v := (6 : Int32)) hx hb dX11_purse_13 (by decide) ?_
    obtain ⟨r_7, S_5, hc_6, hZ⟩ := jx_b2_some hZ
    refine call_Si SX_ok sameX ⟨hx, hb, hml, hown, hts⟩ (c_X11_within l D q k x2 (0 : Int32) (6 : Int32) S_1 _ (r_7, S_5)  hc_6) (va_cwS 3 hts gX11_purse_X11_within rfl rfl rfl hd_X11_within ⟨Nat.le_of_ble_eq_true rfl, Nat.le_of_ble_eq_true rfl⟩) hK hP hD hS hA hsp (As := [.int x2, .int (0 : Int32), .int (6 : Int32)]) rfl hl.1 rfl (Nat.le_of_ble_eq_true rfl) dX11_purse_15 ⟨Nat.zero_le _, Nat.zero_le _⟩ (fun H locs hP hD hS => ?_)
    refine lv_if_ne (tgt := 23) hx hb dX11_purse_18 (by decide) (fun c_8 => ?_) (fun c_8 => ?_)
    · have hZ := jx_i_neg c_8 hZ
      refine lv_aload_n hx hb dX11_purse_23 rfl (lv_at hl 0 rfl) ?_
      refine gf_11_coins hx hb hts in11 hown hK hP (hts (.fieldLink RX11 12 "CoinsOfLast" "coins" "LCoinsOfLast$Coins;") (List.mem_of_getElem? (i := 1) rfl)) dX11_purse_24 ?_
      refine gn_1_held hx hb hts in1 hown hK hP (hsp.1 _ (List.mem_of_getElem? (i := 10) rfl)) dX11_purse_27 ?_
      refine lv_iload_n hx hb dX11_purse_30 rfl (lv_at hl 1 rfl) ?_
      obtain ⟨c_9, hZ⟩ := jx_a_some hZ
      refine X_iald hx hb hK hP wX_6 c_9 dX11_purse_31 ?_
      obtain ⟨x3_10, e_x3_10, hZ⟩ := jx_l_some hZ
      refine tx_i e_x3_10 ?_
      refine lv_istore_n (lv' := [(3, .int x3_10), (0, .ref (q 0)), (1, .int x1), (2, .int x2)]) hx hb dX11_purse_32 rfl hl (by decide) rfl (fun ls hl => ?_)
      refine lv_aload_n hx hb dX11_purse_33 rfl (lv_at hl 1 rfl) ?_
      refine gf_11_coins hx hb hts in11 hown hK hP (hts (.fieldLink RX11 12 "CoinsOfLast" "coins" "LCoinsOfLast$Coins;") (List.mem_of_getElem? (i := 1) rfl)) dX11_purse_34 ?_
      refine gn_1_held hx hb hts in1 hown hK hP (hsp.1 _ (List.mem_of_getElem? (i := 10) rfl)) dX11_purse_37 ?_
      refine lv_iload_n hx hb dX11_purse_40 rfl (lv_at hl 2 rfl) ?_
      refine lv_iload_n hx hb dX11_purse_41 rfl (lv_at hl 3 rfl) ?_
      obtain ⟨c_11, hZ⟩ := jx_a_some hZ
      obtain ⟨S_12, e_S_12, hZ⟩ := jx_l_some hZ
      refine X_iast hx hb hK hP hD hS wX_6 (fun _ => wXs_6) c_11 e_S_12 dX11_purse_42 (fun H locs hP hD hS => ?_)
      refine lv_iload_n hx hb dX11_purse_43 rfl (lv_at hl 0 rfl) ?_
      exact leave_i hx hb hr hlocks hP hS hZ dX11_purse_44
    · have hZ := jx_i_pos c_8 hZ
      refine lv_iconst (v := (-1 : Int32)) hx hb dX11_purse_21 (by decide) ?_
      exact leave_i hx hb hr hlocks hP hS hZ dX11_purse_22
theorem hd_X9_add : yX9_add.cls = RX9 ∧ yX9_add.cls ≠ "java/lang/invoke/MethodHandle" ∧ yX9_add.cls ≠ "java/lang/invoke/VarHandle" ∧ (parseMethodDescriptor yX9_add.desc).map (fun d => d.parameters.length) = some 4 := by decide +kernel
theorem hd_X9_fits : yX9_fits.cls ≠ "java/lang/invoke/MethodHandle" ∧ yX9_fits.cls ≠ "java/lang/invoke/VarHandle" ∧ (parseMethodDescriptor yX9_fits.desc).map (fun d => d.parameters.length) = some 3 := by decide +kernel
-- X11_thing
def f_X11_thing (x1 : Int32) (x2 : Int32) (S : St) : Option (Int32 × St) :=
  (if x1 < 0 then some ((-1 : Int32), S) else (if x2 < 0 then some ((-1 : Int32), S) else jx_d (1000 : Int32) (jx_d (1000 : Int32) (jx_d (10 : Int32) (jx_b2 (f_X9_fits (x1 / (1000 : Int32)) (x1 - x1 / (1000 : Int32) * (1000 : Int32)) (x2 / (10 : Int32)) S) (fun r_8 S_6 => (if r_8 = 0 then some ((-1 : Int32), S_6) else jx_d (1000 : Int32) (jx_d (1000 : Int32) (jx_d (10 : Int32) (jx_d (10 : Int32) (jx_b2 (f_X9_add (x1 / (1000 : Int32)) (x1 - x1 / (1000 : Int32) * (1000 : Int32)) (x2 / (10 : Int32)) (x2 - x2 / (10 : Int32) * (10 : Int32)) S_6) (fun r_16 S_14 => (if r_16 = 0 then some ((-3 : Int32), S_14) else some (((S_14.1 7 4) - (1 : Int32)), S_14))))))))))))))
set_option maxHeartbeats 4000000 in
set_option maxRecDepth 100000 in
theorem c_X11_thing (l : Launch) (D : va_G) (q : Nat → Nat) (k : CI) (x1 : Int32) (x2 : Int32) (S : St) (sz : Nat) (Z : Int32 × St) (hZ : f_X11_thing x1 x2 S = some Z) : MetI W_X SX l yX11_thing wsX11_thing { frames := 3, cells := 0, slots := 0, locals := 67 } [.ref (q 0), .int x1, .int x2] D q k S sz Z := by
  refine enter (cc := cX11_thing) (maxL := 3) (ret := some .int) (by decide) rfl (Nat.le_of_ble_eq_true rfl) ?_
  intro p e s m below meth c A ls hx hb hr hts hown hlocks hml hP hK hD hA hS hsp hAe hl
  have hown : s.vm.findClass RX11 = some m.cls := hown
  have hl : lv_has ls 3 [(0, .ref (q 0)), (1, .int x1), (2, .int x2)] := hl
  have in9 : ∀ w ∈ wsX90, w ∈ wsX11_thing := fun _ h => (List.mem_cons_of_mem _ (List.mem_append_right _ h))
  have in11 : ∀ w ∈ wsX110, w ∈ wsX11_thing := fun _ h => (List.mem_cons_of_mem _ (List.mem_append_left _ (List.mem_append_right _ h)))
  unfold f_X11_thing at hZ
  refine lv_iload_n hx hb dX11_thing_0 rfl (lv_at hl 1 rfl) ?_
  refine lv_if_lt (tgt := 28) hx hb dX11_thing_1 (by decide) (fun c_1 => ?_) (fun c_1 => ?_)
  · have hZ := jx_i_pos c_1 hZ
    refine lv_iconst (v := (-1 : Int32)) hx hb dX11_thing_28 (by decide) ?_
    exact leave_i hx hb hr hlocks hP hS hZ dX11_thing_29
  · have hZ := jx_i_neg c_1 hZ
    refine lv_iload_n hx hb dX11_thing_4 rfl (lv_at hl 2 rfl) ?_
    refine lv_if_lt (tgt := 28) hx hb dX11_thing_5 (by decide) (fun c_2 => ?_) (fun c_2 => ?_)
    · have hZ := jx_i_pos c_2 hZ
      refine lv_iconst (v := (-1 : Int32)) hx hb dX11_thing_28 (by decide) ?_
      exact leave_i hx hb hr hlocks hP hS hZ dX11_thing_29
    · have hZ := jx_i_neg c_2 hZ
      refine lv_iload_n hx hb dX11_thing_8 rfl (lv_at hl 1 rfl) ?_
      refine lv_sipush (v := (1000 : Int32)) hx hb dX11_thing_9 (by decide) ?_
      obtain ⟨c_3, hZ⟩ := jx_d_some hZ
      refine lv_idiv hx hb dX11_thing_12 c_3 ?_
      refine lv_iload_n hx hb dX11_thing_13 rfl (lv_at hl 1 rfl) ?_
      refine lv_sipush (v := (1000 : Int32)) hx hb dX11_thing_14 (by decide) ?_
      obtain ⟨c_4, hZ⟩ := jx_d_some hZ
      refine lv_irem hx hb dX11_thing_17 c_4 ?_
      refine lv_iload_n hx hb dX11_thing_18 rfl (lv_at hl 2 rfl) ?_
      refine lv_bipush (v := (10 : Int32)) hx hb dX11_thing_19 (by decide) ?_
      obtain ⟨c_5, hZ⟩ := jx_d_some hZ
      refine lv_idiv hx hb dX11_thing_21 c_5 ?_
      obtain ⟨r_8, S_6, hc_7, hZ⟩ := jx_b2_some hZ
      refine call_Si SX_ok sameX ⟨hx, hb, hml, hown, hts⟩ (c_X9_fits l D q k (x1 / (1000 : Int32)) (x1 - x1 / (1000 : Int32) * (1000 : Int32)) (x2 / (10 : Int32)) S _ (r_8, S_6)  hc_7) (va_cwS 3 hts gX11_thing_X9_fits rfl rfl rfl hd_X9_fits ⟨Nat.le_of_ble_eq_true rfl, Nat.le_of_ble_eq_true rfl⟩) hK hP hD hS hA hsp (As := [.int (x1 / (1000 : Int32)), .int (x1 - x1 / (1000 : Int32) * (1000 : Int32)), .int (x2 / (10 : Int32))]) rfl hl.1 rfl (Nat.le_of_ble_eq_true rfl) dX11_thing_22 ⟨Nat.zero_le _, Nat.zero_le _⟩ (fun H locs hP hD hS => ?_)
      refine lv_if_ne (tgt := 30) hx hb dX11_thing_25 (by decide) (fun c_9 => ?_) (fun c_9 => ?_)
      · have hZ := jx_i_neg c_9 hZ
        refine lv_aload_n hx hb dX11_thing_30 rfl (lv_at hl 0 rfl) ?_
        refine gf_11_things hx hb hts in11 hown hK hP (hts (.fieldLink RX11 19 "CoinsOfLast" "things" "LCoinsOfLast$Things;") (List.mem_of_getElem? (i := 1) rfl)) dX11_thing_31 ?_
        refine lv_iload_n hx hb dX11_thing_34 rfl (lv_at hl 1 rfl) ?_
        refine lv_sipush (v := (1000 : Int32)) hx hb dX11_thing_35 (by decide) ?_
        obtain ⟨c_10, hZ⟩ := jx_d_some hZ
        refine lv_idiv hx hb dX11_thing_38 c_10 ?_
        refine lv_iload_n hx hb dX11_thing_39 rfl (lv_at hl 1 rfl) ?_
        refine lv_sipush (v := (1000 : Int32)) hx hb dX11_thing_40 (by decide) ?_
        obtain ⟨c_11, hZ⟩ := jx_d_some hZ
        refine lv_irem hx hb dX11_thing_43 c_11 ?_
        refine lv_iload_n hx hb dX11_thing_44 rfl (lv_at hl 2 rfl) ?_
        refine lv_bipush (v := (10 : Int32)) hx hb dX11_thing_45 (by decide) ?_
        obtain ⟨c_12, hZ⟩ := jx_d_some hZ
        refine lv_idiv hx hb dX11_thing_47 c_12 ?_
        refine lv_iload_n hx hb dX11_thing_48 rfl (lv_at hl 2 rfl) ?_
        refine lv_bipush (v := (10 : Int32)) hx hb dX11_thing_49 (by decide) ?_
        obtain ⟨c_13, hZ⟩ := jx_d_some hZ
        refine lv_irem hx hb dX11_thing_51 c_13 ?_
        obtain ⟨r_16, S_14, hc_15, hZ⟩ := jx_b2_some hZ
        refine call_Vi SX_ok sameX ⟨hx, hb, hml, hown, hts⟩ (c_X9_add l D q k (x1 / (1000 : Int32)) (x1 - x1 / (1000 : Int32) * (1000 : Int32)) (x2 / (10 : Int32)) (x2 - x2 / (10 : Int32) * (10 : Int32)) S_6 _ (r_16, S_14)  hc_15) (cwV 4 hts gX11_thing_X9_add rfl rfl rfl hd_X9_add ⟨Nat.le_of_ble_eq_true rfl, Nat.le_of_ble_eq_true rfl⟩) hK hP hD hS hA hsp (va_recv hK hP (ci := 9) (q0 := 7) rfl wX_7) (As := [.int (x1 / (1000 : Int32)), .int (x1 - x1 / (1000 : Int32) * (1000 : Int32)), .int (x2 / (10 : Int32)), .int (x2 - x2 / (10 : Int32) * (10 : Int32))]) rfl hl.1 rfl (Nat.le_of_ble_eq_true rfl) dX11_thing_52 ⟨Nat.zero_le _, Nat.zero_le _⟩ (fun H locs hP hD hS => ?_)
        refine lv_if_eq (tgt := 70) hx hb dX11_thing_55 (by decide) (fun c_17 => ?_) (fun c_17 => ?_)
        · have hZ := jx_i_pos c_17 hZ
          refine lv_bipush (v := (-3 : Int32)) hx hb dX11_thing_70 (by decide) ?_
          exact leave_i hx hb hr hlocks hP hS hZ dX11_thing_72
        · have hZ := jx_i_neg c_17 hZ
          refine lv_aload_n hx hb dX11_thing_58 rfl (lv_at hl 0 rfl) ?_
          refine gf_11_things hx hb hts in11 hown hK hP (hts (.fieldLink RX11 19 "CoinsOfLast" "things" "LCoinsOfLast$Things;") (List.mem_of_getElem? (i := 1) rfl)) dX11_thing_59 ?_
          refine gn_9_known hx hb hts in9 hown hK hP (hsp.1 _ (List.mem_of_getElem? (i := 26) rfl)) dX11_thing_62 ?_
          refine lv_iconst (v := (1 : Int32)) hx hb dX11_thing_65 (by decide) ?_
          refine lv_isub hx hb dX11_thing_66 ?_
          refine lv_goto (tgt := 72) hx hb dX11_thing_67 (by decide) ?_
          exact leave_i hx hb hr hlocks hP hS hZ dX11_thing_72
      · have hZ := jx_i_pos c_9 hZ
        refine lv_iconst (v := (-1 : Int32)) hx hb dX11_thing_28 (by decide) ?_
        exact leave_i hx hb hr hlocks hP hS hZ dX11_thing_29
-- X11_rule
def f_X11_rule (x1 : Int32) (x2 : Int32) (S : St) : Option (Int32 × St) :=
  jx_b2 (f_X11_isLand x1 S) (fun r_3 S_1 => (if r_3 = 0 then some ((-1 : Int32), S_1) else jx_b2 (f_X11_within x2 (0 : Int32) (2 : Int32) S_1) (fun r_7 S_5 => (if r_7 = 0 then some ((-1 : Int32), S_5) else jx_a x1 4 (jx_l (S_5.1 38 (Int32.toNatClampNeg x1)) (fun x3_10 => jx_a x1 4 (jx_l (u1 S_5 38 (Int32.toNatClampNeg x1) x2) (fun S_12 => some (x3_10, S_12)))))))))
set_option maxHeartbeats 4000000 in
set_option maxRecDepth 100000 in
theorem c_X11_rule (l : Launch) (D : va_G) (q : Nat → Nat) (k : CI) (x1 : Int32) (x2 : Int32) (S : St) (sz : Nat) (Z : Int32 × St) (hZ : f_X11_rule x1 x2 S = some Z) : MetI W_X SX l yX11_rule wsX11_rule { frames := 2, cells := 0, slots := 0, locals := 42 } [.ref (q 0), .int x1, .int x2] D q k S sz Z := by
  refine enter (cc := cX11_rule) (maxL := 4) (ret := some .int) (by decide) rfl (Nat.le_of_ble_eq_true rfl) ?_
  intro p e s m below meth c A ls hx hb hr hts hown hlocks hml hP hK hD hA hS hsp hAe hl
  have hown : s.vm.findClass RX11 = some m.cls := hown
  have hl : lv_has ls 4 [(0, .ref (q 0)), (1, .int x1), (2, .int x2)] := hl
  have in11 : ∀ w ∈ wsX110, w ∈ wsX11_rule := fun _ h => (List.mem_cons_of_mem _ (List.mem_append_right _ h))
  unfold f_X11_rule at hZ
  refine lv_iload_n hx hb dX11_rule_0 rfl (lv_at hl 1 rfl) ?_
  obtain ⟨r_3, S_1, hc_2, hZ⟩ := jx_b2_some hZ
  refine call_Si SX_ok sameX ⟨hx, hb, hml, hown, hts⟩ (c_X11_isLand l D q k x1 S _ (r_3, S_1)  hc_2) (va_cwS 1 hts gX11_rule_X11_isLand rfl rfl rfl hd_X11_isLand ⟨Nat.le_of_ble_eq_true rfl, Nat.le_of_ble_eq_true rfl⟩) hK hP hD hS hA hsp (As := [.int x1]) rfl hl.1 rfl (Nat.le_of_ble_eq_true rfl) dX11_rule_1 ⟨Nat.zero_le _, Nat.zero_le _⟩ (fun H locs hP hD hS => ?_)
  refine lv_if_eq (tgt := 16) hx hb dX11_rule_4 (by decide) (fun c_4 => ?_) (fun c_4 => ?_)
  · have hZ := jx_i_pos c_4 hZ
    refine lv_iconst (v := (-1 : Int32)) hx hb dX11_rule_16 (by decide) ?_
    exact leave_i hx hb hr hlocks hP hS hZ dX11_rule_17
  · have hZ := jx_i_neg c_4 hZ
    refine lv_iload_n hx hb dX11_rule_7 rfl (lv_at hl 2 rfl) ?_
    refine lv_iconst (v := (0 : Int32)) hx hb dX11_rule_8 (by decide) ?_
    refine lv_iconst (v := (2 : Int32)) hx hb dX11_rule_9 (by decide) ?_
    obtain ⟨r_7, S_5, hc_6, hZ⟩ := jx_b2_some hZ
    refine call_Si SX_ok sameX ⟨hx, hb, hml, hown, hts⟩ (c_X11_within l D q k x2 (0 : Int32) (2 : Int32) S_1 _ (r_7, S_5)  hc_6) (va_cwS 3 hts gX11_rule_X11_within rfl rfl rfl hd_X11_within ⟨Nat.le_of_ble_eq_true rfl, Nat.le_of_ble_eq_true rfl⟩) hK hP hD hS hA hsp (As := [.int x2, .int (0 : Int32), .int (2 : Int32)]) rfl hl.1 rfl (Nat.le_of_ble_eq_true rfl) dX11_rule_10 ⟨Nat.zero_le _, Nat.zero_le _⟩ (fun H locs hP hD hS => ?_)
    refine lv_if_ne (tgt := 18) hx hb dX11_rule_13 (by decide) (fun c_8 => ?_) (fun c_8 => ?_)
    · have hZ := jx_i_neg c_8 hZ
      refine lv_aload_n hx hb dX11_rule_18 rfl (lv_at hl 0 rfl) ?_
      refine gf_11_rules hx hb hts in11 hown hK hP (hts (.fieldLink RX11 85 "CoinsOfLast" "rules" "[I") (List.mem_of_getElem? (i := 1) rfl)) dX11_rule_19 ?_
      refine lv_iload_n hx hb dX11_rule_22 rfl (lv_at hl 1 rfl) ?_
      obtain ⟨c_9, hZ⟩ := jx_a_some hZ
      refine X_iald hx hb hK hP wX_38 c_9 dX11_rule_23 ?_
      obtain ⟨x3_10, e_x3_10, hZ⟩ := jx_l_some hZ
      refine tx_i e_x3_10 ?_
      refine lv_istore_n (lv' := [(3, .int x3_10), (0, .ref (q 0)), (1, .int x1), (2, .int x2)]) hx hb dX11_rule_24 rfl hl (by decide) rfl (fun ls hl => ?_)
      refine lv_aload_n hx hb dX11_rule_25 rfl (lv_at hl 1 rfl) ?_
      refine gf_11_rules hx hb hts in11 hown hK hP (hts (.fieldLink RX11 85 "CoinsOfLast" "rules" "[I") (List.mem_of_getElem? (i := 1) rfl)) dX11_rule_26 ?_
      refine lv_iload_n hx hb dX11_rule_29 rfl (lv_at hl 2 rfl) ?_
      refine lv_iload_n hx hb dX11_rule_30 rfl (lv_at hl 3 rfl) ?_
      obtain ⟨c_11, hZ⟩ := jx_a_some hZ
      obtain ⟨S_12, e_S_12, hZ⟩ := jx_l_some hZ
      refine X_iast hx hb hK hP hD hS wX_38 (fun _ => wXs_38) c_11 e_S_12 dX11_rule_31 (fun H locs hP hD hS => ?_)
      refine lv_iload_n hx hb dX11_rule_32 rfl (lv_at hl 0 rfl) ?_
      exact leave_i hx hb hr hlocks hP hS hZ dX11_rule_33
    · have hZ := jx_i_pos c_8 hZ
      refine lv_iconst (v := (-1 : Int32)) hx hb dX11_rule_16 (by decide) ?_
      exact leave_i hx hb hr hlocks hP hS hZ dX11_rule_17
