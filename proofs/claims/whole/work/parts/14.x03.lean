-- X6_add
def f_X6_add (x1 : Int32) (S : St) : Option (Int32 × St) :=
  (if (S.1 18 2) < (120 : Int32) then jx_a (S.1 18 2) 120 (jx_l (u1 S 19 (Int32.toNatClampNeg (S.1 18 2)) x1) (fun S_3 => jx_l (u1 S_3 18 2 ((S_3.1 18 2) + (1 : Int32))) (fun S_4 => some ((S_4.1 18 2), S_4)))) else some ((-3 : Int32), S))
set_option maxHeartbeats 4000000 in
set_option maxRecDepth 100000 in
theorem c_X6_add (l : Launch) (D : va_G) (q : Nat → Nat) (k : CI) (x1 : Int32) (S : St) (sz : Nat) (Z : Int32 × St) (hZ : f_X6_add x1 S = some Z) : MetI W_X SX l yX6_add wsX6_add { frames := 0, cells := 0, slots := 0, locals := 0 } [.ref (q 18), .int x1] D q k S sz Z := by
  refine enter (cc := cX6_add) (maxL := 2) (ret := some .int) (by decide) rfl (Nat.le_of_ble_eq_true rfl) ?_
  intro p e s m below meth c A ls hx hb hr hts hown hlocks hml hP hK hD hA hS hsp hAe hl
  have hown : s.vm.findClass RX6 = some m.cls := hown
  have hl : lv_has ls 2 [(0, .ref (q 18)), (1, .int x1)] := hl
  have in6 : ∀ w ∈ wsX60, w ∈ wsX6_add := fun _ h => (List.mem_cons_of_mem _ (List.mem_append_right _ h))
  unfold f_X6_add at hZ
  refine lv_aload_n hx hb dX6_add_0 rfl (lv_at hl 0 rfl) ?_
  refine gf_6_length hx hb hts in6 hown hK hP (hts (.fieldLink RX6 18 "CoinsOfLast$Reader" "length" "I") (List.mem_of_getElem? (i := 1) rfl)) dX6_add_1 ?_
  refine lv_bipush (v := (120 : Int32)) hx hb dX6_add_4 (by decide) ?_
  refine lv_icmp_lt (tgt := 12) hx hb dX6_add_6 (by decide) (fun c_1 => ?_) (fun c_1 => ?_)
  · have hZ := jx_i_pos c_1 hZ
    refine lv_aload_n hx hb dX6_add_12 rfl (lv_at hl 0 rfl) ?_
    refine gf_6_tape hx hb hts in6 hown hK hP (hts (.fieldLink RX6 9 "CoinsOfLast$Reader" "tape" "[I") (List.mem_of_getElem? (i := 2) rfl)) dX6_add_13 ?_
    refine lv_aload_n hx hb dX6_add_16 rfl (lv_at hl 0 rfl) ?_
    refine gf_6_length hx hb hts in6 hown hK hP (hts (.fieldLink RX6 18 "CoinsOfLast$Reader" "length" "I") (List.mem_of_getElem? (i := 1) rfl)) dX6_add_17 ?_
    refine lv_iload_n hx hb dX6_add_20 rfl (lv_at hl 1 rfl) ?_
    obtain ⟨c_2, hZ⟩ := jx_a_some hZ
    obtain ⟨S_3, e_S_3, hZ⟩ := jx_l_some hZ
    refine X_iast hx hb hK hP hD hS wX_19 (fun _ => wXs_19) c_2 e_S_3 dX6_add_21 (fun H locs hP hD hS => ?_)
    refine lv_aload_n hx hb dX6_add_22 rfl (lv_at hl 0 rfl) ?_
    refine lv_dup hx hb dX6_add_23 rfl ?_
    refine gf_6_length hx hb hts in6 hown hK hP (hts (.fieldLink RX6 18 "CoinsOfLast$Reader" "length" "I") (List.mem_of_getElem? (i := 1) rfl)) dX6_add_24 ?_
    refine lv_iconst (v := (1 : Int32)) hx hb dX6_add_27 (by decide) ?_
    refine lv_iadd hx hb dX6_add_28 ?_
    obtain ⟨S_4, e_S_4, hZ⟩ := jx_l_some hZ
    refine pf_6_length hx hb hts in6 hown hK hP hD hS (hts (.fieldLink RX6 18 "CoinsOfLast$Reader" "length" "I") (List.mem_of_getElem? (i := 1) rfl)) e_S_4 dX6_add_29 (fun H locs hP hD hS => ?_)
    refine lv_aload_n hx hb dX6_add_32 rfl (lv_at hl 0 rfl) ?_
    refine gf_6_length hx hb hts in6 hown hK hP (hts (.fieldLink RX6 18 "CoinsOfLast$Reader" "length" "I") (List.mem_of_getElem? (i := 1) rfl)) dX6_add_33 ?_
    exact leave_i hx hb hr hlocks hP hS hZ dX6_add_36
  · have hZ := jx_i_neg c_1 hZ
    refine lv_bipush (v := (-3 : Int32)) hx hb dX6_add_9 (by decide) ?_
    exact leave_i hx hb hr hlocks hP hS hZ dX6_add_11
-- X6_fail
def f_X6_fail (S : St) : Option (St) :=
  (if 0 ≤ (S.1 18 5) then some S else jx_l (u1 S 18 5 (S.1 18 4)) (fun S_2 => some S_2))
set_option maxHeartbeats 4000000 in
set_option maxRecDepth 100000 in
theorem c_X6_fail (l : Launch) (D : va_G) (q : Nat → Nat) (k : CI) (S : St) (sz : Nat) (Z : St) (hZ : f_X6_fail S = some Z) : MetV W_X SX l yX6_fail wsX6_fail { frames := 0, cells := 0, slots := 0, locals := 0 } [.ref (q 18)] D q k S sz Z := by
  refine enter (cc := cX6_fail) (maxL := 1) (ret := none) (by decide) rfl (Nat.le_of_ble_eq_true rfl) ?_
  intro p e s m below meth c A ls hx hb hr hts hown hlocks hml hP hK hD hA hS hsp hAe hl
  have hown : s.vm.findClass RX6 = some m.cls := hown
  have hl : lv_has ls 1 [(0, .ref (q 18))] := hl
  have in6 : ∀ w ∈ wsX60, w ∈ wsX6_fail := fun _ h => (List.mem_cons_of_mem _ (List.mem_append_right _ h))
  unfold f_X6_fail at hZ
  refine lv_aload_n hx hb dX6_fail_0 rfl (lv_at hl 0 rfl) ?_
  refine gf_6_fault hx hb hts in6 hown hK hP (hts (.fieldLink RX6 28 "CoinsOfLast$Reader" "fault" "I") (List.mem_of_getElem? (i := 1) rfl)) dX6_fail_1 ?_
  refine lv_if_ge (tgt := 15) hx hb dX6_fail_4 (by decide) (fun c_1 => ?_) (fun c_1 => ?_)
  · have hZ := jx_i_pos c_1 hZ
    exact leave_v hx hb hr hlocks hP hS hZ dX6_fail_15
  · have hZ := jx_i_neg c_1 hZ
    refine lv_aload_n hx hb dX6_fail_7 rfl (lv_at hl 0 rfl) ?_
    refine lv_aload_n hx hb dX6_fail_8 rfl (lv_at hl 0 rfl) ?_
    refine gf_6_place hx hb hts in6 hown hK hP (hts (.fieldLink RX6 22 "CoinsOfLast$Reader" "place" "I") (List.mem_of_getElem? (i := 2) rfl)) dX6_fail_9 ?_
    obtain ⟨S_2, e_S_2, hZ⟩ := jx_l_some hZ
    refine pf_6_fault hx hb hts in6 hown hK hP hD hS (hts (.fieldLink RX6 28 "CoinsOfLast$Reader" "fault" "I") (List.mem_of_getElem? (i := 1) rfl)) e_S_2 dX6_fail_12 (fun H locs hP hD hS => ?_)
    exact leave_v hx hb hr hlocks hP hS hZ dX6_fail_15
-- X6_next
def f_X6_next (S : St) : Option (Int32 × St) :=
  (if 0 ≤ (S.1 18 5) then some ((-1 : Int32), S) else (if (S.1 18 4) < 0 then some ((-1 : Int32), S) else (if (S.1 18 2) ≤ (S.1 18 4) then some ((-1 : Int32), S) else (if (120 : Int32) ≤ (S.1 18 4) then some ((-1 : Int32), S) else jx_a (S.1 18 4) 120 (some ((S.1 19 (Int32.toNatClampNeg (S.1 18 4))), S))))))
set_option maxHeartbeats 4000000 in
set_option maxRecDepth 100000 in
theorem c_X6_next (l : Launch) (D : va_G) (q : Nat → Nat) (k : CI) (S : St) (sz : Nat) (Z : Int32 × St) (hZ : f_X6_next S = some Z) : MetI W_X SX l yX6_next wsX6_next { frames := 0, cells := 0, slots := 0, locals := 0 } [.ref (q 18)] D q k S sz Z := by
  refine enter (cc := cX6_next) (maxL := 1) (ret := some .int) (by decide) rfl (Nat.le_of_ble_eq_true rfl) ?_
  intro p e s m below meth c A ls hx hb hr hts hown hlocks hml hP hK hD hA hS hsp hAe hl
  have hown : s.vm.findClass RX6 = some m.cls := hown
  have hl : lv_has ls 1 [(0, .ref (q 18))] := hl
  have in6 : ∀ w ∈ wsX60, w ∈ wsX6_next := fun _ h => (List.mem_cons_of_mem _ (List.mem_append_right _ h))
  unfold f_X6_next at hZ
  refine lv_aload_n hx hb dX6_next_0 rfl (lv_at hl 0 rfl) ?_
  refine gf_6_fault hx hb hts in6 hown hK hP (hts (.fieldLink RX6 28 "CoinsOfLast$Reader" "fault" "I") (List.mem_of_getElem? (i := 1) rfl)) dX6_next_1 ?_
  refine lv_if_ge (tgt := 46) hx hb dX6_next_4 (by decide) (fun c_1 => ?_) (fun c_1 => ?_)
  · have hZ := jx_i_pos c_1 hZ
    refine lv_iconst (v := (-1 : Int32)) hx hb dX6_next_46 (by decide) ?_
    exact leave_i hx hb hr hlocks hP hS hZ dX6_next_47
  · have hZ := jx_i_neg c_1 hZ
    refine lv_aload_n hx hb dX6_next_7 rfl (lv_at hl 0 rfl) ?_
    refine gf_6_place hx hb hts in6 hown hK hP (hts (.fieldLink RX6 22 "CoinsOfLast$Reader" "place" "I") (List.mem_of_getElem? (i := 2) rfl)) dX6_next_8 ?_
    refine lv_if_lt (tgt := 46) hx hb dX6_next_11 (by decide) (fun c_2 => ?_) (fun c_2 => ?_)
    · have hZ := jx_i_pos c_2 hZ
      refine lv_iconst (v := (-1 : Int32)) hx hb dX6_next_46 (by decide) ?_
      exact leave_i hx hb hr hlocks hP hS hZ dX6_next_47
    · have hZ := jx_i_neg c_2 hZ
      refine lv_aload_n hx hb dX6_next_14 rfl (lv_at hl 0 rfl) ?_
      refine gf_6_place hx hb hts in6 hown hK hP (hts (.fieldLink RX6 22 "CoinsOfLast$Reader" "place" "I") (List.mem_of_getElem? (i := 2) rfl)) dX6_next_15 ?_
      refine lv_aload_n hx hb dX6_next_18 rfl (lv_at hl 0 rfl) ?_
      refine gf_6_length hx hb hts in6 hown hK hP (hts (.fieldLink RX6 18 "CoinsOfLast$Reader" "length" "I") (List.mem_of_getElem? (i := 3) rfl)) dX6_next_19 ?_
      refine lv_icmp_ge (tgt := 46) hx hb dX6_next_22 (by decide) (fun c_3 => ?_) (fun c_3 => ?_)
      · have hZ := jx_i_pos c_3 hZ
        refine lv_iconst (v := (-1 : Int32)) hx hb dX6_next_46 (by decide) ?_
        exact leave_i hx hb hr hlocks hP hS hZ dX6_next_47
      · have hZ := jx_i_neg c_3 hZ
        refine lv_aload_n hx hb dX6_next_25 rfl (lv_at hl 0 rfl) ?_
        refine gf_6_place hx hb hts in6 hown hK hP (hts (.fieldLink RX6 22 "CoinsOfLast$Reader" "place" "I") (List.mem_of_getElem? (i := 2) rfl)) dX6_next_26 ?_
        refine lv_bipush (v := (120 : Int32)) hx hb dX6_next_29 (by decide) ?_
        refine lv_icmp_ge (tgt := 46) hx hb dX6_next_31 (by decide) (fun c_4 => ?_) (fun c_4 => ?_)
        · have hZ := jx_i_pos c_4 hZ
          refine lv_iconst (v := (-1 : Int32)) hx hb dX6_next_46 (by decide) ?_
          exact leave_i hx hb hr hlocks hP hS hZ dX6_next_47
        · have hZ := jx_i_neg c_4 hZ
          refine lv_aload_n hx hb dX6_next_34 rfl (lv_at hl 0 rfl) ?_
          refine gf_6_tape hx hb hts in6 hown hK hP (hts (.fieldLink RX6 9 "CoinsOfLast$Reader" "tape" "[I") (List.mem_of_getElem? (i := 4) rfl)) dX6_next_35 ?_
          refine lv_aload_n hx hb dX6_next_38 rfl (lv_at hl 0 rfl) ?_
          refine gf_6_place hx hb hts in6 hown hK hP (hts (.fieldLink RX6 22 "CoinsOfLast$Reader" "place" "I") (List.mem_of_getElem? (i := 2) rfl)) dX6_next_39 ?_
          obtain ⟨c_5, hZ⟩ := jx_a_some hZ
          refine X_iald hx hb hK hP wX_19 c_5 dX6_next_42 ?_
          refine lv_goto (tgt := 47) hx hb dX6_next_43 (by decide) ?_
          exact leave_i hx hb hr hlocks hP hS hZ dX6_next_47
-- X8_nameOf
def f_X8_nameOf (x0 : Int32) (S : St) : Option (Int32 × St) :=
  (if x0 = (97 : Int32) then some ((0 : Int32), S) else if x0 = (98 : Int32) then some ((1 : Int32), S) else if x0 = (100 : Int32) then some ((2 : Int32), S) else if x0 = (108 : Int32) then some ((4 : Int32), S) else if x0 = (115 : Int32) then some ((5 : Int32), S) else if x0 = (119 : Int32) then some ((3 : Int32), S) else if x0 = (121 : Int32) then some ((6 : Int32), S) else some ((-1 : Int32), S))
set_option maxHeartbeats 4000000 in
set_option maxRecDepth 100000 in
theorem c_X8_nameOf (l : Launch) (D : va_G) (q : Nat → Nat) (k : CI) (x0 : Int32) (S : St) (sz : Nat) (Z : Int32 × St) (hZ : f_X8_nameOf x0 S = some Z) : MetI W_X SX l yX8_nameOf wsX8_nameOf { frames := 0, cells := 0, slots := 0, locals := 0 } [.int x0] D q k S sz Z := by
  refine enter (cc := cX8_nameOf) (maxL := 1) (ret := some .int) (by decide) rfl (Nat.le_of_ble_eq_true rfl) ?_
  intro p e s m below meth c A ls hx hb hr hts hown hlocks hml hP hK hD hA hS hsp hAe hl
  have hown : s.vm.findClass RX8 = some m.cls := hown
  have hl : lv_has ls 1 [(0, .int x0)] := hl
  unfold f_X8_nameOf at hZ
  refine lv_iload_n hx hb dX8_nameOf_0 rfl (lv_at hl 0 rfl) ?_
  by_cases c_1 : x0 = (97 : Int32)
  · have hZ := jx_i_pos c_1 hZ
    refine lv_tableIn (tgt := 116) hx hb dX8_nameOf_1 (by rw [c_1]; decide) (by rw [c_1]; decide) (by rw [c_1]; rfl) (by decide) ?_
    refine lv_iconst (v := (0 : Int32)) hx hb dX8_nameOf_116 (by decide) ?_
    exact leave_i hx hb hr hlocks hP hS hZ dX8_nameOf_117
  have hZ := jx_i_neg c_1 hZ
  by_cases c_2 : x0 = (98 : Int32)
  · have hZ := jx_i_pos c_2 hZ
    refine lv_tableIn (tgt := 118) hx hb dX8_nameOf_1 (by rw [c_2]; decide) (by rw [c_2]; decide) (by rw [c_2]; rfl) (by decide) ?_
    refine lv_iconst (v := (1 : Int32)) hx hb dX8_nameOf_118 (by decide) ?_
    exact leave_i hx hb hr hlocks hP hS hZ dX8_nameOf_119
  have hZ := jx_i_neg c_2 hZ
  by_cases c_3 : x0 = (100 : Int32)
  · have hZ := jx_i_pos c_3 hZ
    refine lv_tableIn (tgt := 120) hx hb dX8_nameOf_1 (by rw [c_3]; decide) (by rw [c_3]; decide) (by rw [c_3]; rfl) (by decide) ?_
    refine lv_iconst (v := (2 : Int32)) hx hb dX8_nameOf_120 (by decide) ?_
    exact leave_i hx hb hr hlocks hP hS hZ dX8_nameOf_121
  have hZ := jx_i_neg c_3 hZ
  by_cases c_4 : x0 = (108 : Int32)
  · have hZ := jx_i_pos c_4 hZ
    refine lv_tableIn (tgt := 124) hx hb dX8_nameOf_1 (by rw [c_4]; decide) (by rw [c_4]; decide) (by rw [c_4]; rfl) (by decide) ?_
    refine lv_iconst (v := (4 : Int32)) hx hb dX8_nameOf_124 (by decide) ?_
    exact leave_i hx hb hr hlocks hP hS hZ dX8_nameOf_125
  have hZ := jx_i_neg c_4 hZ
  by_cases c_5 : x0 = (115 : Int32)
  · have hZ := jx_i_pos c_5 hZ
    refine lv_tableIn (tgt := 126) hx hb dX8_nameOf_1 (by rw [c_5]; decide) (by rw [c_5]; decide) (by rw [c_5]; rfl) (by decide) ?_
    refine lv_iconst (v := (5 : Int32)) hx hb dX8_nameOf_126 (by decide) ?_
    exact leave_i hx hb hr hlocks hP hS hZ dX8_nameOf_127
  have hZ := jx_i_neg c_5 hZ
  by_cases c_6 : x0 = (119 : Int32)
  · have hZ := jx_i_pos c_6 hZ
    refine lv_tableIn (tgt := 122) hx hb dX8_nameOf_1 (by rw [c_6]; decide) (by rw [c_6]; decide) (by rw [c_6]; rfl) (by decide) ?_
    refine lv_iconst (v := (3 : Int32)) hx hb dX8_nameOf_122 (by decide) ?_
    exact leave_i hx hb hr hlocks hP hS hZ dX8_nameOf_123
  have hZ := jx_i_neg c_6 hZ
  by_cases c_7 : x0 = (121 : Int32)
  · have hZ := jx_i_pos c_7 hZ
    refine lv_tableIn (tgt := 128) hx hb dX8_nameOf_1 (by rw [c_7]; decide) (by rw [c_7]; decide) (by rw [c_7]; rfl) (by decide) ?_
    refine lv_bipush (v := (6 : Int32)) hx hb dX8_nameOf_128 (by decide) ?_
    exact leave_i hx hb hr hlocks hP hS hZ dX8_nameOf_130
  have hZ := jx_i_neg c_7 hZ
  refine lv_tableD (tgt := 131) hx hb dX8_nameOf_1 ?_ (by decide) ?_
  · have t_0 : ¬ Int32.toInt x0 = 97 := lv_neT c_1 rfl
    have t_1 : ¬ Int32.toInt x0 = 98 := lv_neT c_2 rfl
    have t_2 : ¬ Int32.toInt x0 = 100 := lv_neT c_3 rfl
    have t_3 : ¬ Int32.toInt x0 = 108 := lv_neT c_4 rfl
    have t_4 : ¬ Int32.toInt x0 = 115 := lv_neT c_5 rfl
    have t_5 : ¬ Int32.toInt x0 = 119 := lv_neT c_6 rfl
    have t_6 : ¬ Int32.toInt x0 = 121 := lv_neT c_7 rfl
    by_cases a1 : Int32.toInt x0 < 97
    · exact Or.inl (Or.inl a1)
    by_cases a2 : 121 < Int32.toInt x0
    · exact Or.inl (Or.inr a2)
    refine Or.inr ⟨a1, a2, ?_⟩
    rcases (show Int32.toInt x0 = 99 ∨ Int32.toInt x0 = 101 ∨ Int32.toInt x0 = 102 ∨ Int32.toInt x0 = 103 ∨ Int32.toInt x0 = 104 ∨ Int32.toInt x0 = 105 ∨ Int32.toInt x0 = 106 ∨ Int32.toInt x0 = 107 ∨ Int32.toInt x0 = 109 ∨ Int32.toInt x0 = 110 ∨ Int32.toInt x0 = 111 ∨ Int32.toInt x0 = 112 ∨ Int32.toInt x0 = 113 ∨ Int32.toInt x0 = 114 ∨ Int32.toInt x0 = 116 ∨ Int32.toInt x0 = 117 ∨ Int32.toInt x0 = 118 ∨ Int32.toInt x0 = 120 by omega) with h | h | h | h | h | h | h | h | h | h | h | h | h | h | h | h | h | h <;> (rw [h]; rfl)
  · refine lv_iconst (v := (-1 : Int32)) hx hb dX8_nameOf_131 (by decide) ?_
    exact leave_i hx hb hr hlocks hP hS hZ dX8_nameOf_132
-- X6_write
def f_X6_write (x1 : Int32) (S : St) : Option (St) :=
  (if (128 : Int32) ≤ (S.1 18 3) then some S else jx_a (S.1 18 3) 128 (jx_l (u1 S 20 (Int32.toNatClampNeg (S.1 18 3)) x1) (fun S_3 => jx_l (u1 S_3 18 3 ((S_3.1 18 3) + (1 : Int32))) (fun S_4 => some S_4))))
set_option maxHeartbeats 4000000 in
set_option maxRecDepth 100000 in
theorem c_X6_write (l : Launch) (D : va_G) (q : Nat → Nat) (k : CI) (x1 : Int32) (S : St) (sz : Nat) (Z : St) (hZ : f_X6_write x1 S = some Z) : MetV W_X SX l yX6_write wsX6_write { frames := 0, cells := 0, slots := 0, locals := 0 } [.ref (q 18), .int x1] D q k S sz Z := by
  refine enter (cc := cX6_write) (maxL := 2) (ret := none) (by decide) rfl (Nat.le_of_ble_eq_true rfl) ?_
  intro p e s m below meth c A ls hx hb hr hts hown hlocks hml hP hK hD hA hS hsp hAe hl
  have hown : s.vm.findClass RX6 = some m.cls := hown
  have hl : lv_has ls 2 [(0, .ref (q 18)), (1, .int x1)] := hl
  have in6 : ∀ w ∈ wsX60, w ∈ wsX6_write := fun _ h => (List.mem_cons_of_mem _ (List.mem_append_right _ h))
  unfold f_X6_write at hZ
  refine lv_aload_n hx hb dX6_write_0 rfl (lv_at hl 0 rfl) ?_
  refine gf_6_codes hx hb hts in6 hown hK hP (hts (.fieldLink RX6 25 "CoinsOfLast$Reader" "codes" "I") (List.mem_of_getElem? (i := 1) rfl)) dX6_write_1 ?_
  refine lv_sipush (v := (128 : Int32)) hx hb dX6_write_4 (by decide) ?_
  refine lv_icmp_ge (tgt := 30) hx hb dX6_write_7 (by decide) (fun c_1 => ?_) (fun c_1 => ?_)
  · have hZ := jx_i_pos c_1 hZ
    exact leave_v hx hb hr hlocks hP hS hZ dX6_write_30
  · have hZ := jx_i_neg c_1 hZ
    refine lv_aload_n hx hb dX6_write_10 rfl (lv_at hl 0 rfl) ?_
    refine gf_6_code hx hb hts in6 hown hK hP (hts (.fieldLink RX6 15 "CoinsOfLast$Reader" "code" "[I") (List.mem_of_getElem? (i := 2) rfl)) dX6_write_11 ?_
    refine lv_aload_n hx hb dX6_write_14 rfl (lv_at hl 0 rfl) ?_
    refine gf_6_codes hx hb hts in6 hown hK hP (hts (.fieldLink RX6 25 "CoinsOfLast$Reader" "codes" "I") (List.mem_of_getElem? (i := 1) rfl)) dX6_write_15 ?_
    refine lv_iload_n hx hb dX6_write_18 rfl (lv_at hl 1 rfl) ?_
    obtain ⟨c_2, hZ⟩ := jx_a_some hZ
    obtain ⟨S_3, e_S_3, hZ⟩ := jx_l_some hZ
    refine X_iast hx hb hK hP hD hS wX_20 (fun _ => wXs_20) c_2 e_S_3 dX6_write_19 (fun H locs hP hD hS => ?_)
    refine lv_aload_n hx hb dX6_write_20 rfl (lv_at hl 0 rfl) ?_
    refine lv_dup hx hb dX6_write_21 rfl ?_
    refine gf_6_codes hx hb hts in6 hown hK hP (hts (.fieldLink RX6 25 "CoinsOfLast$Reader" "codes" "I") (List.mem_of_getElem? (i := 1) rfl)) dX6_write_22 ?_
    refine lv_iconst (v := (1 : Int32)) hx hb dX6_write_25 (by decide) ?_
    refine lv_iadd hx hb dX6_write_26 ?_
    obtain ⟨S_4, e_S_4, hZ⟩ := jx_l_some hZ
    refine pf_6_codes hx hb hts in6 hown hK hP hD hS (hts (.fieldLink RX6 25 "CoinsOfLast$Reader" "codes" "I") (List.mem_of_getElem? (i := 1) rfl)) e_S_4 dX6_write_27 (fun H locs hP hD hS => ?_)
    exact leave_v hx hb hr hlocks hP hS hZ dX6_write_30
theorem hd_X6_next : yX6_next.cls = RX6 ∧ yX6_next.cls ≠ "java/lang/invoke/MethodHandle" ∧ yX6_next.cls ≠ "java/lang/invoke/VarHandle" ∧ (parseMethodDescriptor yX6_next.desc).map (fun d => d.parameters.length) = some 0 := by decide +kernel
theorem hd_X6_write : yX6_write.cls = RX6 ∧ yX6_write.cls ≠ "java/lang/invoke/MethodHandle" ∧ yX6_write.cls ≠ "java/lang/invoke/VarHandle" ∧ (parseMethodDescriptor yX6_write.desc).map (fun d => d.parameters.length) = some 1 := by decide +kernel
-- X6_readNumber
def f_X6_readNumber_52 (x1_5 : Int32) (S_5 : St) : Option (St) :=
  jx_b (f_X6_write x1_5 S_5) (fun S_6 => some S_6)
def b_X6_readNumber_4 (x1 : Int32) (x2 : Int32) (S : St) : Option ((Int32 × Int32 × St) ⊕ ((Int32 × St))) :=
  (if (4 : Int32) ≤ x2 then some (.inr (x1, S)) else jx_b2 (f_X6_next S) (fun r_13 S_11 => jx_b2 (f_X11_within r_13 (48 : Int32) (57 : Int32) S_11) (fun r_16 S_14 => (if r_16 = 0 then some (.inr (x1, S_14)) else jx_b2 (f_X6_next S_14) (fun r_21 S_19 => jx_l (((x1 * (10 : Int32)) + r_21) - (48 : Int32)) (fun x1_22 => jx_l (u1 S_19 18 4 ((S_19.1 18 4) + (1 : Int32))) (fun S_23 => jx_l (x2 + 1) (fun x2_24 => some (.inl (x1_22, x2_24, S_23))))))))))
def g_X6_readNumber_4 : (Int32 × Int32 × St) → Option ((Int32 × Int32 × St) ⊕ ((Int32 × St))) := fun z => b_X6_readNumber_4 z.1 z.2.1 z.2.2
def f_X6_readNumber (S : St) : Option (St) :=
  jx_b (jx_w (g_X6_readNumber_4) FU ((0 : Int32), (0 : Int32), S)) (fun z => f_X6_readNumber_52 z.1 z.2)
theorem gX6_readNumber_X11_within : GoodIn wsX6_readNumber wsX11_within := goodIn_r _ [12] rfl (by decide +kernel)
set_option maxHeartbeats 4000000 in
set_option maxRecDepth 100000 in
theorem c_X6_readNumber (l : Launch) (D : va_G) (q : Nat → Nat) (k : CI) (S : St) (sz : Nat) (Z : St) (hZ : f_X6_readNumber S = some Z) : MetV W_X SX l yX6_readNumber wsX6_readNumber { frames := 1, cells := 0, slots := 0, locals := 22 } [.ref (q 18)] D q k S sz Z := by
  refine enter (cc := cX6_readNumber) (maxL := 3) (ret := none) (by decide) rfl (Nat.le_of_ble_eq_true rfl) ?_
  intro p e s m below meth c A ls hx hb hr hts hown hlocks hml hP hK hD hA hS hsp hAe hl
  have hown : s.vm.findClass RX6 = some m.cls := hown
  have hl : lv_has ls 3 [(0, .ref (q 18))] := hl
  have in6 : ∀ w ∈ wsX60, w ∈ wsX6_readNumber := fun _ h => (List.mem_cons_of_mem _ (List.mem_append_right _ h))
  have j52 : ∀ (x1_5 : Int32) (S_5 : St)  (H : Heap) (locs : List Loc) (hZ : f_X6_readNumber_52 x1_5 S_5 = some Z) (hP : va_P D vwCl (W_X q k S_5) H) (hD : va_D A (W_X q k S_5)) (hS : va_S A s.heap H locs) (ls : Array Slot) (hl : lv_has ls 3 [(0, .ref (q 18)), (1, .int x1_5)]), W p l e ({ frames := 1, cells := 0, slots := 0, locals := 22 } : Room) s m ([.ref (q 18)] : List Value).toArray below meth c H locs 0 0 (MQ below (va_Qv (fun u => u = Z) (fun u t => va_P D vwCl (W_X q k u) t.heap) A) ([.ref (q 18)] : List Value).toArray s 0 0 A) (F0 m 52 ls []) := by
    intro x1_5 S_5   H locs hZ hP hD hS ls hl
    unfold f_X6_readNumber_52 at hZ
    refine lv_aload_n hx hb dX6_readNumber_52 rfl (lv_at hl 0 rfl) ?_
    refine lv_iload_n hx hb dX6_readNumber_53 rfl (lv_at hl 1 rfl) ?_
    obtain ⟨S_6, hc_7, hZ⟩ := jx_b_some hZ
    refine call_Vv SX_ok sameX ⟨hx, hb, hml, hown, hts⟩ (c_X6_write l D q k x1_5 S_5 _ S_6  hc_7) (cwV 1 hts gX6_readNumber_X6_write rfl rfl rfl hd_X6_write ⟨Nat.le_of_ble_eq_true rfl, Nat.le_of_ble_eq_true rfl⟩) hK hP hD hS hA hsp (va_recv hK hP (ci := 6) (q0 := 18) rfl wX_18) (As := [.int x1_5]) rfl hl.1 rfl (Nat.le_of_ble_eq_true rfl) dX6_readNumber_54 ⟨Nat.zero_le _, Nat.zero_le _⟩ (fun H locs hP hD hS => ?_)
    exact leave_v hx hb hr hlocks hP hS hZ dX6_readNumber_57
  unfold f_X6_readNumber at hZ
  refine lv_iconst (v := (0 : Int32)) hx hb dX6_readNumber_0 (by decide) ?_
  refine lv_istore_n (lv' := [(1, .int (0 : Int32)), (0, .ref (q 18))]) hx hb dX6_readNumber_1 rfl hl (by decide) rfl (fun ls hl => ?_)
  refine lv_iconst (v := (0 : Int32)) hx hb dX6_readNumber_2 (by decide) ?_
  refine lv_istore_n (lv' := [(2, .int (0 : Int32)), (1, .int (0 : Int32)), (0, .ref (q 18))]) hx hb dX6_readNumber_3 rfl hl (by decide) rfl (fun ls hl => ?_)
  obtain ⟨r_4, hw, hza_4⟩ := jx_b_some hZ
  have l_4 : ∀ (nn : Nat) (x1_1 : Int32) (x2_2 : Int32) (S_3 : St) (H : Heap) (locs : List Loc) (hw : jx_w (g_X6_readNumber_4) nn (x1_1, x2_2, S_3) = some r_4) (hP : va_P D vwCl (W_X q k S_3) H) (hD : va_D A (W_X q k S_3)) (hS : va_S A s.heap H locs) (ls : Array Slot) (hl : lv_has ls 3 [(0, .ref (q 18)), (1, .int x1_1), (2, .int x2_2)]), W p l e ({ frames := 1, cells := 0, slots := 0, locals := 22 } : Room) s m ([.ref (q 18)] : List Value).toArray below meth c H locs 0 0 (MQ below (va_Qv (fun u => u = Z) (fun u t => va_P D vwCl (W_X q k u) t.heap) A) ([.ref (q 18)] : List Value).toArray s 0 0 A) (F0 m 4 ls []) := by
    intro nn
    induction nn with
    | zero =>
      intro x1_1 x2_2 S_3 H locs hw hP hD hS ls hl
      exact jx_w_zero hw
    | succ n_4 ih_4 =>
      intro x1_1 x2_2 S_3 H locs hw hP hD hS ls hl
      obtain ⟨o_4, hZ, hk_4⟩ := jx_w_succ hw
      have hZ : b_X6_readNumber_4 x1_1 x2_2 S_3 = some o_4 := hZ
      unfold b_X6_readNumber_4 at hZ
      refine lv_iload_n hx hb dX6_readNumber_4 rfl (lv_at hl 2 rfl) ?_
      refine lv_iconst (v := (4 : Int32)) hx hb dX6_readNumber_5 (by decide) ?_
      refine lv_icmp_ge (tgt := 52) hx hb dX6_readNumber_6 (by decide) (fun c_25 => ?_) (fun c_25 => ?_)
      · have hZ := jx_i_pos c_25 hZ
        have ho := Option.some.inj hZ
        subst ho
        have hE := hza_4
        rw [← (show (x1_1, S_3) = r_4 from hk_4)] at hE
        have hZ : f_X6_readNumber_52 x1_1 S_3 = some Z := hE
        exact j52 x1_1 S_3 _ _ hZ hP hD hS _ (lv_sub hl [0, 1] rfl)
      · have hZ := jx_i_neg c_25 hZ
        refine lv_aload_n hx hb dX6_readNumber_9 rfl (lv_at hl 0 rfl) ?_
        obtain ⟨r_29, S_27, hc_28, hZ⟩ := jx_b2_some hZ
        refine call_Vi SX_ok sameX ⟨hx, hb, hml, hown, hts⟩ (c_X6_next l D q k  S_3 _ (r_29, S_27)  hc_28) (cwV 0 hts gX6_readNumber_X6_next rfl rfl rfl hd_X6_next ⟨Nat.le_of_ble_eq_true rfl, Nat.le_of_ble_eq_true rfl⟩) hK hP hD hS hA hsp (va_recv hK hP (ci := 6) (q0 := 18) rfl wX_18) (As := []) rfl hl.1 rfl (Nat.le_of_ble_eq_true rfl) dX6_readNumber_10 ⟨Nat.zero_le _, Nat.zero_le _⟩ (fun H locs hP hD hS => ?_)
        refine lv_bipush (v := (48 : Int32)) hx hb dX6_readNumber_13 (by decide) ?_
        refine lv_bipush (v := (57 : Int32)) hx hb dX6_readNumber_15 (by decide) ?_
        obtain ⟨r_32, S_30, hc_31, hZ⟩ := jx_b2_some hZ
        refine call_Ni SX_ok sameX ⟨hx, hb, hml, hown, hts⟩ (c_X11_within l D q k r_29 (48 : Int32) (57 : Int32) S_27 _ (r_32, S_30)  hc_31) (va_cnB 3 hts gX6_readNumber_X11_within rfl rfl rfl (hsp.1 _ (List.mem_of_getElem? (i := 71) rfl)) (hts _ (List.mem_of_getElem? (i := 11) rfl)) hd_X11_within ⟨Nat.le_of_ble_eq_true rfl, Nat.le_of_ble_eq_true rfl⟩) (hts _ (List.mem_of_getElem? (i := 10) rfl)) hK hP hD hS hA hsp (As := [.int r_29, .int (48 : Int32), .int (57 : Int32)]) rfl hl.1 rfl (Nat.le_of_ble_eq_true rfl) dX6_readNumber_17 ⟨Nat.zero_le _, Nat.zero_le _⟩ (fun H locs hP hD hS => ?_)
        refine lv_if_eq (tgt := 52) hx hb dX6_readNumber_20 (by decide) (fun c_33 => ?_) (fun c_33 => ?_)
        · have hZ := jx_i_pos c_33 hZ
          have ho := Option.some.inj hZ
          subst ho
          have hE := hza_4
          rw [← (show (x1_1, S_30) = r_4 from hk_4)] at hE
          have hZ : f_X6_readNumber_52 x1_1 S_30 = some Z := hE
          exact j52 x1_1 S_30 _ _ hZ hP hD hS _ (lv_sub hl [0, 1] rfl)
        · have hZ := jx_i_neg c_33 hZ
          refine lv_iload_n hx hb dX6_readNumber_23 rfl (lv_at hl 1 rfl) ?_
          refine lv_bipush (v := (10 : Int32)) hx hb dX6_readNumber_24 (by decide) ?_
          refine lv_imul hx hb dX6_readNumber_26 ?_
          refine lv_aload_n hx hb dX6_readNumber_27 rfl (lv_at hl 0 rfl) ?_
          obtain ⟨r_37, S_35, hc_36, hZ⟩ := jx_b2_some hZ
          refine call_Vi SX_ok sameX ⟨hx, hb, hml, hown, hts⟩ (c_X6_next l D q k  S_30 _ (r_37, S_35)  hc_36) (cwV 0 hts gX6_readNumber_X6_next rfl rfl rfl hd_X6_next ⟨Nat.le_of_ble_eq_true rfl, Nat.le_of_ble_eq_true rfl⟩) hK hP hD hS hA hsp (va_recv hK hP (ci := 6) (q0 := 18) rfl wX_18) (As := []) rfl hl.1 rfl (Nat.le_of_ble_eq_true rfl) dX6_readNumber_28 ⟨Nat.zero_le _, Nat.zero_le _⟩ (fun H locs hP hD hS => ?_)
          refine lv_iadd hx hb dX6_readNumber_31 ?_
          refine lv_bipush (v := (48 : Int32)) hx hb dX6_readNumber_32 (by decide) ?_
          refine lv_isub hx hb dX6_readNumber_34 ?_
          obtain ⟨x1_38, e_x1_38, hZ⟩ := jx_l_some hZ
          refine tx_i e_x1_38 ?_
          refine lv_istore_n (lv' := [(1, .int x1_38), (0, .ref (q 18)), (2, .int x2_2)]) hx hb dX6_readNumber_35 rfl hl (by decide) rfl (fun ls hl => ?_)
          refine lv_aload_n hx hb dX6_readNumber_36 rfl (lv_at hl 1 rfl) ?_
          refine lv_dup hx hb dX6_readNumber_37 rfl ?_
          refine gf_6_place hx hb hts in6 hown hK hP (hts (.fieldLink RX6 22 "CoinsOfLast$Reader" "place" "I") (List.mem_of_getElem? (i := 1) rfl)) dX6_readNumber_38 ?_
          refine lv_iconst (v := (1 : Int32)) hx hb dX6_readNumber_41 (by decide) ?_
          refine lv_iadd hx hb dX6_readNumber_42 ?_
          obtain ⟨S_39, e_S_39, hZ⟩ := jx_l_some hZ
          refine pf_6_place hx hb hts in6 hown hK hP hD hS (hts (.fieldLink RX6 22 "CoinsOfLast$Reader" "place" "I") (List.mem_of_getElem? (i := 1) rfl)) e_S_39 dX6_readNumber_43 (fun H locs hP hD hS => ?_)
          obtain ⟨x2_40, e_x2_40, hZ⟩ := jx_l_some hZ
          refine lv_iinc (v := x2_40) (lv' := [(2, .int x2_40), (1, .int x1_38), (0, .ref (q 18))]) hx hb dX6_readNumber_46 hl (k := 2) rfl (by rw [e_x2_40]; rfl) (by decide) rfl (fun ls hl => ?_)
          refine lv_goto (tgt := 4) hx hb dX6_readNumber_49 (by decide) ?_
          have ho := Option.some.inj hZ
          subst ho
          exact ih_4 x1_38 x2_40 S_39 _ _ hk_4 hP hD hS _ (lv_sub hl [2, 1, 0] rfl)
  exact l_4 FU (0 : Int32) (0 : Int32) S _ _ hw hP hD hS _ (lv_sub hl [2, 1, 0] rfl)
-- X6_goesOnWith
def f_X6_goesOnWith (x1 : Int32) (S : St) : Option (Int32 × St) :=
  jx_b2 (f_X6_next S) (fun r_3 S_1 => (if r_3 = x1 then jx_l (u1 S_1 18 4 ((S_1.1 18 4) + (1 : Int32))) (fun S_5 => some ((1 : Int32), S_5)) else some ((0 : Int32), S_1)))
set_option maxHeartbeats 4000000 in
set_option maxRecDepth 100000 in
theorem c_X6_goesOnWith (l : Launch) (D : va_G) (q : Nat → Nat) (k : CI) (x1 : Int32) (S : St) (sz : Nat) (Z : Int32 × St) (hZ : f_X6_goesOnWith x1 S = some Z) : MetI W_X SX l yX6_goesOnWith wsX6_goesOnWith { frames := 1, cells := 0, slots := 0, locals := 20 } [.ref (q 18), .int x1] D q k S sz Z := by
  refine enter (cc := cX6_goesOnWith) (maxL := 2) (ret := some .boolean) (by decide) rfl (Nat.le_of_ble_eq_true rfl) ?_
  intro p e s m below meth c A ls hx hb hr hts hown hlocks hml hP hK hD hA hS hsp hAe hl
  have hown : s.vm.findClass RX6 = some m.cls := hown
  have hl : lv_has ls 2 [(0, .ref (q 18)), (1, .int x1)] := hl
  have in6 : ∀ w ∈ wsX60, w ∈ wsX6_goesOnWith := fun _ h => (List.mem_cons_of_mem _ (List.mem_append_right _ h))
  unfold f_X6_goesOnWith at hZ
  refine lv_aload_n hx hb dX6_goesOnWith_0 rfl (lv_at hl 0 rfl) ?_
  obtain ⟨r_3, S_1, hc_2, hZ⟩ := jx_b2_some hZ
  refine call_Vi SX_ok sameX ⟨hx, hb, hml, hown, hts⟩ (c_X6_next l D q k  S _ (r_3, S_1)  hc_2) (cwV 0 hts gX6_goesOnWith_X6_next rfl rfl rfl hd_X6_next ⟨Nat.le_of_ble_eq_true rfl, Nat.le_of_ble_eq_true rfl⟩) hK hP hD hS hA hsp (va_recv hK hP (ci := 6) (q0 := 18) rfl wX_18) (As := []) rfl hl.1 rfl (Nat.le_of_ble_eq_true rfl) dX6_goesOnWith_1 ⟨Nat.zero_le _, Nat.zero_le _⟩ (fun H locs hP hD hS => ?_)
  refine lv_iload_n hx hb dX6_goesOnWith_4 rfl (lv_at hl 1 rfl) ?_
  refine lv_icmp_eq (tgt := 10) hx hb dX6_goesOnWith_5 (by decide) (fun c_4 => ?_) (fun c_4 => ?_)
  · have hZ := jx_i_pos c_4 hZ
    refine lv_aload_n hx hb dX6_goesOnWith_10 rfl (lv_at hl 0 rfl) ?_
    refine lv_dup hx hb dX6_goesOnWith_11 rfl ?_
    refine gf_6_place hx hb hts in6 hown hK hP (hts (.fieldLink RX6 22 "CoinsOfLast$Reader" "place" "I") (List.mem_of_getElem? (i := 1) rfl)) dX6_goesOnWith_12 ?_
    refine lv_iconst (v := (1 : Int32)) hx hb dX6_goesOnWith_15 (by decide) ?_
    refine lv_iadd hx hb dX6_goesOnWith_16 ?_
    obtain ⟨S_5, e_S_5, hZ⟩ := jx_l_some hZ
    refine pf_6_place hx hb hts in6 hown hK hP hD hS (hts (.fieldLink RX6 22 "CoinsOfLast$Reader" "place" "I") (List.mem_of_getElem? (i := 1) rfl)) e_S_5 dX6_goesOnWith_17 (fun H locs hP hD hS => ?_)
    refine lv_iconst (v := (1 : Int32)) hx hb dX6_goesOnWith_20 (by decide) ?_
    exact leave_z hx hb hr hlocks rfl hP hS hZ dX6_goesOnWith_21
  · have hZ := jx_i_neg c_4 hZ
    refine lv_iconst (v := (0 : Int32)) hx hb dX6_goesOnWith_8 (by decide) ?_
    exact leave_z hx hb hr hlocks rfl hP hS hZ dX6_goesOnWith_9
theorem hd_X6_fail : yX6_fail.cls = RX6 ∧ yX6_fail.cls ≠ "java/lang/invoke/MethodHandle" ∧ yX6_fail.cls ≠ "java/lang/invoke/VarHandle" ∧ (parseMethodDescriptor yX6_fail.desc).map (fun d => d.parameters.length) = some 0 := by decide +kernel
theorem hd_X6_goesOnWith : yX6_goesOnWith.cls = RX6 ∧ yX6_goesOnWith.cls ≠ "java/lang/invoke/MethodHandle" ∧ yX6_goesOnWith.cls ≠ "java/lang/invoke/VarHandle" ∧ (parseMethodDescriptor yX6_goesOnWith.desc).map (fun d => d.parameters.length) = some 1 := by decide +kernel
theorem hd_X6_readJoined : yX6_readJoined.cls = RX6 ∧ yX6_readJoined.cls ≠ "java/lang/invoke/MethodHandle" ∧ yX6_readJoined.cls ≠ "java/lang/invoke/VarHandle" ∧ (parseMethodDescriptor yX6_readJoined.desc).map (fun d => d.parameters.length) = some 2 := by decide +kernel
theorem hd_X6_readNumber : yX6_readNumber.cls = RX6 ∧ yX6_readNumber.cls ≠ "java/lang/invoke/MethodHandle" ∧ yX6_readNumber.cls ≠ "java/lang/invoke/VarHandle" ∧ (parseMethodDescriptor yX6_readNumber.desc).map (fun d => d.parameters.length) = some 0 := by decide +kernel
theorem hd_X8_nameOf : yX8_nameOf.cls ≠ "java/lang/invoke/MethodHandle" ∧ yX8_nameOf.cls ≠ "java/lang/invoke/VarHandle" ∧ (parseMethodDescriptor yX8_nameOf.desc).map (fun d => d.parameters.length) = some 1 := by decide +kernel
-- X6_readOperand
def f_X6_readOperand (rc : Int32 → Int32 → St → Option (St)) (x1 : Int32) (S : St) : Option (St) :=
  jx_b2 (f_X6_next S) (fun r_3 S_1 => jx_b2 (f_X8_nameOf r_3 S_1) (fun r_6 S_4 => jx_b2 (f_X11_within r_3 (48 : Int32) (57 : Int32) S_4) (fun r_9 S_7 => (if r_9 = 0 then (if r_6 < 0 then (if x1 < (6 : Int32) then jx_b2 (f_X6_goesOnWith (33 : Int32) S_7) (fun r_15 S_13 => (if r_15 = 0 then jx_b2 (f_X6_goesOnWith (45 : Int32) S_13) (fun r_19 S_17 => (if r_19 = 0 then jx_b2 (f_X6_goesOnWith (40 : Int32) S_17) (fun r_23 S_21 => (if r_23 = 0 then jx_b (f_X6_fail S_21) (fun S_25 => some S_25) else jx_b (rc (1 : Int32) (x1 + (1 : Int32)) S_21) (fun S_27 => jx_b2 (f_X6_goesOnWith (41 : Int32) S_27) (fun r_31 S_29 => (if r_31 = 0 then jx_b (f_X6_fail S_29) (fun S_33 => some S_33) else some S_29))))) else jx_b (rc (6 : Int32) (x1 + (1 : Int32)) S_17) (fun S_35 => jx_b (f_X6_write (30000 : Int32) S_35) (fun S_37 => some S_37)))) else jx_b (rc (6 : Int32) (x1 + (1 : Int32)) S_13) (fun S_39 => jx_b (f_X6_write (30033 : Int32) S_39) (fun S_41 => some S_41)))) else jx_b (f_X6_fail S_7) (fun S_43 => some S_43)) else jx_l (u1 S_7 18 4 ((S_7.1 18 4) + (1 : Int32))) (fun S_45 => jx_b (f_X6_write ((10000 : Int32) + r_6) S_45) (fun S_46 => some S_46))) else jx_b (f_X6_readNumber S_7) (fun S_48 => some S_48)))))
theorem gX6_readOperand_X11_within : GoodIn wsX6_readOperand wsX11_within := goodIn_r _ [16] rfl (by decide +kernel)
set_option maxHeartbeats 4000000 in
set_option maxRecDepth 100000 in
theorem c_X6_readOperand (l : Launch) (D : va_G) (q : Nat → Nat) (k : CI) (rc : Int32 → Int32 → St → Option (St)) (fr lo : Nat) (hrc : ∀ (x1 : Int32) (x2 : Int32) (S : St) (sz : Nat) (Z : St), rc x1 x2 S = some Z → MetV W_X SX l yX6_readJoined wsX6_readJoined { frames := fr, cells := 0, slots := 0, locals := lo } [.ref (q 18), .int x1, .int x2] D q k S sz Z) (x1 : Int32) (S : St) (sz : Nat) (Z : St) (hZ : f_X6_readOperand rc x1 S = some Z) : MetV W_X SX l yX6_readOperand wsX6_readOperand { frames := fr + 2, cells := 0, slots := 0, locals := lo + 44 } [.ref (q 18), .int x1] D q k S sz Z := by
  refine enter (cc := cX6_readOperand) (maxL := 4) (ret := none) (by decide) rfl (Nat.le_of_ble_eq_true rfl) ?_
  intro p e s m below meth c A ls hx hb hr hts hown hlocks hml hP hK hD hA hS hsp hAe hl
  have hown : s.vm.findClass RX6 = some m.cls := hown
  have hl : lv_has ls 4 [(0, .ref (q 18)), (1, .int x1)] := hl
  have in6 : ∀ w ∈ wsX60, w ∈ wsX6_readOperand := fun _ h => (List.mem_cons_of_mem _ (List.mem_append_right _ h))
  unfold f_X6_readOperand at hZ
  refine lv_aload_n hx hb dX6_readOperand_0 rfl (lv_at hl 0 rfl) ?_
  obtain ⟨r_3, S_1, hc_2, hZ⟩ := jx_b2_some hZ
  refine call_Vi SX_ok sameX ⟨hx, hb, hml, hown, hts⟩ (c_X6_next l D q k  S _ (r_3, S_1)  hc_2) (cwV 0 hts gX6_readOperand_X6_next rfl rfl rfl hd_X6_next ⟨by dsimp only; omega, by dsimp only; omega⟩) hK hP hD hS hA hsp (va_recv hK hP (ci := 6) (q0 := 18) rfl wX_18) (As := []) rfl hl.1 rfl (Nat.le_of_ble_eq_true rfl) dX6_readOperand_1 ⟨Nat.zero_le _, Nat.zero_le _⟩ (fun H locs hP hD hS => ?_)
  refine lv_istore_n (lv' := [(2, .int r_3), (0, .ref (q 18)), (1, .int x1)]) hx hb dX6_readOperand_4 rfl hl (by decide) rfl (fun ls hl => ?_)
  refine lv_iload_n hx hb dX6_readOperand_5 rfl (lv_at hl 0 rfl) ?_
  obtain ⟨r_6, S_4, hc_5, hZ⟩ := jx_b2_some hZ
  refine call_Si SX_ok sameX ⟨hx, hb, hml, hown, hts⟩ (c_X8_nameOf l D q k r_3 S_1 _ (r_6, S_4)  hc_5) (va_cwS 1 hts gX6_readOperand_X8_nameOf rfl rfl rfl hd_X8_nameOf ⟨by dsimp only; omega, by dsimp only; omega⟩) hK hP hD hS hA hsp (As := [.int r_3]) rfl hl.1 rfl (Nat.le_of_ble_eq_true rfl) dX6_readOperand_6 ⟨Nat.zero_le _, Nat.zero_le _⟩ (fun H locs hP hD hS => ?_)
  refine lv_istore_n (lv' := [(3, .int r_6), (2, .int r_3), (0, .ref (q 18)), (1, .int x1)]) hx hb dX6_readOperand_9 rfl hl (by decide) rfl (fun ls hl => ?_)
  refine lv_iload_n hx hb dX6_readOperand_10 rfl (lv_at hl 1 rfl) ?_
  refine lv_bipush (v := (48 : Int32)) hx hb dX6_readOperand_11 (by decide) ?_
  refine lv_bipush (v := (57 : Int32)) hx hb dX6_readOperand_13 (by decide) ?_
  obtain ⟨r_9, S_7, hc_8, hZ⟩ := jx_b2_some hZ
  refine call_Ni SX_ok sameX ⟨hx, hb, hml, hown, hts⟩ (c_X11_within l D q k r_3 (48 : Int32) (57 : Int32) S_4 _ (r_9, S_7)  hc_8) (va_cnB 3 hts gX6_readOperand_X11_within rfl rfl rfl (hsp.1 _ (List.mem_of_getElem? (i := 71) rfl)) (hts _ (List.mem_of_getElem? (i := 15) rfl)) hd_X11_within ⟨by dsimp only; omega, by dsimp only; omega⟩) (hts _ (List.mem_of_getElem? (i := 14) rfl)) hK hP hD hS hA hsp (As := [.int r_3, .int (48 : Int32), .int (57 : Int32)]) rfl hl.1 rfl (Nat.le_of_ble_eq_true rfl) dX6_readOperand_15 ⟨Nat.zero_le _, Nat.zero_le _⟩ (fun H locs hP hD hS => ?_)
  refine lv_if_eq (tgt := 28) hx hb dX6_readOperand_18 (by decide) (fun c_10 => ?_) (fun c_10 => ?_)
  · have hZ := jx_i_pos c_10 hZ
    refine lv_iload_n hx hb dX6_readOperand_28 rfl (lv_at hl 0 rfl) ?_
    refine lv_if_lt (tgt := 54) hx hb dX6_readOperand_29 (by decide) (fun c_11 => ?_) (fun c_11 => ?_)
    · have hZ := jx_i_pos c_11 hZ
      refine lv_iload_n hx hb dX6_readOperand_54 rfl (lv_at hl 3 rfl) ?_
      refine lv_bipush (v := (6 : Int32)) hx hb dX6_readOperand_55 (by decide) ?_
      refine lv_icmp_lt (tgt := 67) hx hb dX6_readOperand_57 (by decide) (fun c_12 => ?_) (fun c_12 => ?_)
      · have hZ := jx_i_pos c_12 hZ
        refine lv_aload_n hx hb dX6_readOperand_67 rfl (lv_at hl 2 rfl) ?_
        refine lv_bipush (v := (33 : Int32)) hx hb dX6_readOperand_68 (by decide) ?_
        obtain ⟨r_15, S_13, hc_14, hZ⟩ := jx_b2_some hZ
        refine call_Vi SX_ok sameX ⟨hx, hb, hml, hown, hts⟩ (c_X6_goesOnWith l D q k (33 : Int32) S_7 _ (r_15, S_13)  hc_14) (cwV 1 hts gX6_readOperand_X6_goesOnWith rfl rfl rfl hd_X6_goesOnWith ⟨by dsimp only; omega, by dsimp only; omega⟩) hK hP hD hS hA hsp (va_recv hK hP (ci := 6) (q0 := 18) rfl wX_18) (As := [.int (33 : Int32)]) rfl hl.1 rfl (Nat.le_of_ble_eq_true rfl) dX6_readOperand_70 ⟨Nat.zero_le _, Nat.zero_le _⟩ (fun H locs hP hD hS => ?_)
        refine lv_if_eq (tgt := 95) hx hb dX6_readOperand_73 (by decide) (fun c_16 => ?_) (fun c_16 => ?_)
        · have hZ := jx_i_pos c_16 hZ
          refine lv_aload_n hx hb dX6_readOperand_95 rfl (lv_at hl 2 rfl) ?_
          refine lv_bipush (v := (45 : Int32)) hx hb dX6_readOperand_96 (by decide) ?_
          obtain ⟨r_19, S_17, hc_18, hZ⟩ := jx_b2_some hZ
          refine call_Vi SX_ok sameX ⟨hx, hb, hml, hown, hts⟩ (c_X6_goesOnWith l D q k (45 : Int32) S_13 _ (r_19, S_17)  hc_18) (cwV 1 hts gX6_readOperand_X6_goesOnWith rfl rfl rfl hd_X6_goesOnWith ⟨by dsimp only; omega, by dsimp only; omega⟩) hK hP hD hS hA hsp (va_recv hK hP (ci := 6) (q0 := 18) rfl wX_18) (As := [.int (45 : Int32)]) rfl hl.1 rfl (Nat.le_of_ble_eq_true rfl) dX6_readOperand_98 ⟨Nat.zero_le _, Nat.zero_le _⟩ (fun H locs hP hD hS => ?_)
          refine lv_if_eq (tgt := 123) hx hb dX6_readOperand_101 (by decide) (fun c_20 => ?_) (fun c_20 => ?_)
          · have hZ := jx_i_pos c_20 hZ
            refine lv_aload_n hx hb dX6_readOperand_123 rfl (lv_at hl 2 rfl) ?_
            refine lv_bipush (v := (40 : Int32)) hx hb dX6_readOperand_124 (by decide) ?_
            obtain ⟨r_23, S_21, hc_22, hZ⟩ := jx_b2_some hZ
            refine call_Vi SX_ok sameX ⟨hx, hb, hml, hown, hts⟩ (c_X6_goesOnWith l D q k (40 : Int32) S_17 _ (r_23, S_21)  hc_22) (cwV 1 hts gX6_readOperand_X6_goesOnWith rfl rfl rfl hd_X6_goesOnWith ⟨by dsimp only; omega, by dsimp only; omega⟩) hK hP hD hS hA hsp (va_recv hK hP (ci := 6) (q0 := 18) rfl wX_18) (As := [.int (40 : Int32)]) rfl hl.1 rfl (Nat.le_of_ble_eq_true rfl) dX6_readOperand_126 ⟨Nat.zero_le _, Nat.zero_le _⟩ (fun H locs hP hD hS => ?_)
            refine lv_if_eq (tgt := 156) hx hb dX6_readOperand_129 (by decide) (fun c_24 => ?_) (fun c_24 => ?_)
            · have hZ := jx_i_pos c_24 hZ
              refine lv_aload_n hx hb dX6_readOperand_156 rfl (lv_at hl 2 rfl) ?_
              obtain ⟨S_25, hc_26, hZ⟩ := jx_b_some hZ
              refine call_Vv SX_ok sameX ⟨hx, hb, hml, hown, hts⟩ (c_X6_fail l D q k  S_21 _ S_25  hc_26) (cwV 0 hts gX6_readOperand_X6_fail rfl rfl rfl hd_X6_fail ⟨by dsimp only; omega, by dsimp only; omega⟩) hK hP hD hS hA hsp (va_recv hK hP (ci := 6) (q0 := 18) rfl wX_18) (As := []) rfl hl.1 rfl (Nat.le_of_ble_eq_true rfl) dX6_readOperand_157 ⟨Nat.zero_le _, Nat.zero_le _⟩ (fun H locs hP hD hS => ?_)
              exact leave_v hx hb hr hlocks hP hS hZ dX6_readOperand_160
            · have hZ := jx_i_neg c_24 hZ
              refine lv_aload_n hx hb dX6_readOperand_132 rfl (lv_at hl 2 rfl) ?_
              refine lv_iconst (v := (1 : Int32)) hx hb dX6_readOperand_133 (by decide) ?_
              refine lv_iload_n hx hb dX6_readOperand_134 rfl (lv_at hl 3 rfl) ?_
              refine lv_iconst (v := (1 : Int32)) hx hb dX6_readOperand_135 (by decide) ?_
              refine lv_iadd hx hb dX6_readOperand_136 ?_
              obtain ⟨S_27, hc_28, hZ⟩ := jx_b_some hZ
              refine call_Vv SX_ok sameX ⟨hx, hb, hml, hown, hts⟩ (hrc (1 : Int32) (x1 + (1 : Int32)) S_21 _ S_27  hc_28) (cwV 2 hts gX6_readOperand_X6_readJoined rfl rfl rfl hd_X6_readJoined ⟨by dsimp only; omega, by dsimp only; omega⟩) hK hP hD hS hA hsp (va_recv hK hP (ci := 6) (q0 := 18) rfl wX_18) (As := [.int (1 : Int32), .int (x1 + (1 : Int32))]) rfl hl.1 rfl (Nat.le_of_ble_eq_true rfl) dX6_readOperand_137 ⟨Nat.zero_le _, Nat.zero_le _⟩ (fun H locs hP hD hS => ?_)
              refine lv_aload_n hx hb dX6_readOperand_140 rfl (lv_at hl 2 rfl) ?_
              refine lv_bipush (v := (41 : Int32)) hx hb dX6_readOperand_141 (by decide) ?_
              obtain ⟨r_31, S_29, hc_30, hZ⟩ := jx_b2_some hZ
              refine call_Vi SX_ok sameX ⟨hx, hb, hml, hown, hts⟩ (c_X6_goesOnWith l D q k (41 : Int32) S_27 _ (r_31, S_29)  hc_30) (cwV 1 hts gX6_readOperand_X6_goesOnWith rfl rfl rfl hd_X6_goesOnWith ⟨by dsimp only; omega, by dsimp only; omega⟩) hK hP hD hS hA hsp (va_recv hK hP (ci := 6) (q0 := 18) rfl wX_18) (As := [.int (41 : Int32)]) rfl hl.1 rfl (Nat.le_of_ble_eq_true rfl) dX6_readOperand_143 ⟨Nat.zero_le _, Nat.zero_le _⟩ (fun H locs hP hD hS => ?_)
              refine lv_if_ne (tgt := 160) hx hb dX6_readOperand_146 (by decide) (fun c_32 => ?_) (fun c_32 => ?_)
              · have hZ := jx_i_neg c_32 hZ
                exact leave_v hx hb hr hlocks hP hS hZ dX6_readOperand_160
              · have hZ := jx_i_pos c_32 hZ
                refine lv_aload_n hx hb dX6_readOperand_149 rfl (lv_at hl 2 rfl) ?_
                obtain ⟨S_33, hc_34, hZ⟩ := jx_b_some hZ
                refine call_Vv SX_ok sameX ⟨hx, hb, hml, hown, hts⟩ (c_X6_fail l D q k  S_29 _ S_33  hc_34) (cwV 0 hts gX6_readOperand_X6_fail rfl rfl rfl hd_X6_fail ⟨by dsimp only; omega, by dsimp only; omega⟩) hK hP hD hS hA hsp (va_recv hK hP (ci := 6) (q0 := 18) rfl wX_18) (As := []) rfl hl.1 rfl (Nat.le_of_ble_eq_true rfl) dX6_readOperand_150 ⟨Nat.zero_le _, Nat.zero_le _⟩ (fun H locs hP hD hS => ?_)
                refine lv_goto (tgt := 160) hx hb dX6_readOperand_153 (by decide) ?_
                exact leave_v hx hb hr hlocks hP hS hZ dX6_readOperand_160
          · have hZ := jx_i_neg c_20 hZ
            refine lv_aload_n hx hb dX6_readOperand_104 rfl (lv_at hl 2 rfl) ?_
            refine lv_bipush (v := (6 : Int32)) hx hb dX6_readOperand_105 (by decide) ?_
            refine lv_iload_n hx hb dX6_readOperand_107 rfl (lv_at hl 3 rfl) ?_
            refine lv_iconst (v := (1 : Int32)) hx hb dX6_readOperand_108 (by decide) ?_
            refine lv_iadd hx hb dX6_readOperand_109 ?_
            obtain ⟨S_35, hc_36, hZ⟩ := jx_b_some hZ
            refine call_Vv SX_ok sameX ⟨hx, hb, hml, hown, hts⟩ (hrc (6 : Int32) (x1 + (1 : Int32)) S_17 _ S_35  hc_36) (cwV 2 hts gX6_readOperand_X6_readJoined rfl rfl rfl hd_X6_readJoined ⟨by dsimp only; omega, by dsimp only; omega⟩) hK hP hD hS hA hsp (va_recv hK hP (ci := 6) (q0 := 18) rfl wX_18) (As := [.int (6 : Int32), .int (x1 + (1 : Int32))]) rfl hl.1 rfl (Nat.le_of_ble_eq_true rfl) dX6_readOperand_110 ⟨Nat.zero_le _, Nat.zero_le _⟩ (fun H locs hP hD hS => ?_)
            refine lv_aload_n hx hb dX6_readOperand_113 rfl (lv_at hl 2 rfl) ?_
            refine lv_sipush (v := (30000 : Int32)) hx hb dX6_readOperand_114 (by decide) ?_
            obtain ⟨S_37, hc_38, hZ⟩ := jx_b_some hZ
            refine call_Vv SX_ok sameX ⟨hx, hb, hml, hown, hts⟩ (c_X6_write l D q k (30000 : Int32) S_35 _ S_37  hc_38) (cwV 1 hts gX6_readOperand_X6_write rfl rfl rfl hd_X6_write ⟨by dsimp only; omega, by dsimp only; omega⟩) hK hP hD hS hA hsp (va_recv hK hP (ci := 6) (q0 := 18) rfl wX_18) (As := [.int (30000 : Int32)]) rfl hl.1 rfl (Nat.le_of_ble_eq_true rfl) dX6_readOperand_117 ⟨Nat.zero_le _, Nat.zero_le _⟩ (fun H locs hP hD hS => ?_)
            refine lv_goto (tgt := 160) hx hb dX6_readOperand_120 (by decide) ?_
            exact leave_v hx hb hr hlocks hP hS hZ dX6_readOperand_160
        · have hZ := jx_i_neg c_16 hZ
          refine lv_aload_n hx hb dX6_readOperand_76 rfl (lv_at hl 2 rfl) ?_
          refine lv_bipush (v := (6 : Int32)) hx hb dX6_readOperand_77 (by decide) ?_
          refine lv_iload_n hx hb dX6_readOperand_79 rfl (lv_at hl 3 rfl) ?_
          refine lv_iconst (v := (1 : Int32)) hx hb dX6_readOperand_80 (by decide) ?_
          refine lv_iadd hx hb dX6_readOperand_81 ?_
          obtain ⟨S_39, hc_40, hZ⟩ := jx_b_some hZ
          refine call_Vv SX_ok sameX ⟨hx, hb, hml, hown, hts⟩ (hrc (6 : Int32) (x1 + (1 : Int32)) S_13 _ S_39  hc_40) (cwV 2 hts gX6_readOperand_X6_readJoined rfl rfl rfl hd_X6_readJoined ⟨by dsimp only; omega, by dsimp only; omega⟩) hK hP hD hS hA hsp (va_recv hK hP (ci := 6) (q0 := 18) rfl wX_18) (As := [.int (6 : Int32), .int (x1 + (1 : Int32))]) rfl hl.1 rfl (Nat.le_of_ble_eq_true rfl) dX6_readOperand_82 ⟨Nat.zero_le _, Nat.zero_le _⟩ (fun H locs hP hD hS => ?_)
          refine lv_aload_n hx hb dX6_readOperand_85 rfl (lv_at hl 2 rfl) ?_
          refine lv_sipush (v := (30033 : Int32)) hx hb dX6_readOperand_86 (by decide) ?_
          obtain ⟨S_41, hc_42, hZ⟩ := jx_b_some hZ
          refine call_Vv SX_ok sameX ⟨hx, hb, hml, hown, hts⟩ (c_X6_write l D q k (30033 : Int32) S_39 _ S_41  hc_42) (cwV 1 hts gX6_readOperand_X6_write rfl rfl rfl hd_X6_write ⟨by dsimp only; omega, by dsimp only; omega⟩) hK hP hD hS hA hsp (va_recv hK hP (ci := 6) (q0 := 18) rfl wX_18) (As := [.int (30033 : Int32)]) rfl hl.1 rfl (Nat.le_of_ble_eq_true rfl) dX6_readOperand_89 ⟨Nat.zero_le _, Nat.zero_le _⟩ (fun H locs hP hD hS => ?_)
          refine lv_goto (tgt := 160) hx hb dX6_readOperand_92 (by decide) ?_
          exact leave_v hx hb hr hlocks hP hS hZ dX6_readOperand_160
      · have hZ := jx_i_neg c_12 hZ
        refine lv_aload_n hx hb dX6_readOperand_60 rfl (lv_at hl 2 rfl) ?_
        obtain ⟨S_43, hc_44, hZ⟩ := jx_b_some hZ
        refine call_Vv SX_ok sameX ⟨hx, hb, hml, hown, hts⟩ (c_X6_fail l D q k  S_7 _ S_43  hc_44) (cwV 0 hts gX6_readOperand_X6_fail rfl rfl rfl hd_X6_fail ⟨by dsimp only; omega, by dsimp only; omega⟩) hK hP hD hS hA hsp (va_recv hK hP (ci := 6) (q0 := 18) rfl wX_18) (As := []) rfl hl.1 rfl (Nat.le_of_ble_eq_true rfl) dX6_readOperand_61 ⟨Nat.zero_le _, Nat.zero_le _⟩ (fun H locs hP hD hS => ?_)
        refine lv_goto (tgt := 160) hx hb dX6_readOperand_64 (by decide) ?_
        exact leave_v hx hb hr hlocks hP hS hZ dX6_readOperand_160
    · have hZ := jx_i_neg c_11 hZ
      refine lv_aload_n hx hb dX6_readOperand_32 rfl (lv_at hl 2 rfl) ?_
      refine lv_dup hx hb dX6_readOperand_33 rfl ?_
      refine gf_6_place hx hb hts in6 hown hK hP (hts (.fieldLink RX6 22 "CoinsOfLast$Reader" "place" "I") (List.mem_of_getElem? (i := 1) rfl)) dX6_readOperand_34 ?_
      refine lv_iconst (v := (1 : Int32)) hx hb dX6_readOperand_37 (by decide) ?_
      refine lv_iadd hx hb dX6_readOperand_38 ?_
      obtain ⟨S_45, e_S_45, hZ⟩ := jx_l_some hZ
      refine pf_6_place hx hb hts in6 hown hK hP hD hS (hts (.fieldLink RX6 22 "CoinsOfLast$Reader" "place" "I") (List.mem_of_getElem? (i := 1) rfl)) e_S_45 dX6_readOperand_39 (fun H locs hP hD hS => ?_)
      refine lv_aload_n hx hb dX6_readOperand_42 rfl (lv_at hl 2 rfl) ?_
      refine lv_sipush (v := (10000 : Int32)) hx hb dX6_readOperand_43 (by decide) ?_
      refine lv_iload_n hx hb dX6_readOperand_46 rfl (lv_at hl 0 rfl) ?_
      refine lv_iadd hx hb dX6_readOperand_47 ?_
      obtain ⟨S_46, hc_47, hZ⟩ := jx_b_some hZ
      refine call_Vv SX_ok sameX ⟨hx, hb, hml, hown, hts⟩ (c_X6_write l D q k ((10000 : Int32) + r_6) S_45 _ S_46  hc_47) (cwV 1 hts gX6_readOperand_X6_write rfl rfl rfl hd_X6_write ⟨by dsimp only; omega, by dsimp only; omega⟩) hK hP hD hS hA hsp (va_recv hK hP (ci := 6) (q0 := 18) rfl wX_18) (As := [.int ((10000 : Int32) + r_6)]) rfl hl.1 rfl (Nat.le_of_ble_eq_true rfl) dX6_readOperand_48 ⟨Nat.zero_le _, Nat.zero_le _⟩ (fun H locs hP hD hS => ?_)
      refine lv_goto (tgt := 160) hx hb dX6_readOperand_51 (by decide) ?_
      exact leave_v hx hb hr hlocks hP hS hZ dX6_readOperand_160
  · have hZ := jx_i_neg c_10 hZ
    refine lv_aload_n hx hb dX6_readOperand_21 rfl (lv_at hl 2 rfl) ?_
    obtain ⟨S_48, hc_49, hZ⟩ := jx_b_some hZ
    refine call_Vv SX_ok sameX ⟨hx, hb, hml, hown, hts⟩ (c_X6_readNumber l D q k  S_7 _ S_48  hc_49) (cwV 0 hts gX6_readOperand_X6_readNumber rfl rfl rfl hd_X6_readNumber ⟨by dsimp only; omega, by dsimp only; omega⟩) hK hP hD hS hA hsp (va_recv hK hP (ci := 6) (q0 := 18) rfl wX_18) (As := []) rfl hl.1 rfl (Nat.le_of_ble_eq_true rfl) dX6_readOperand_22 ⟨Nat.zero_le _, Nat.zero_le _⟩ (fun H locs hP hD hS => ?_)
    refine lv_goto (tgt := 160) hx hb dX6_readOperand_25 (by decide) ?_
    exact leave_v hx hb hr hlocks hP hS hZ dX6_readOperand_160
-- X6_rankOf
def f_X6_rankOf (x0 : Int32) (S : St) : Option (Int32 × St) :=
  (if x0 = (37 : Int32) then some ((5 : Int32), S) else if x0 = (38 : Int32) then some ((2 : Int32), S) else if x0 = (42 : Int32) then some ((5 : Int32), S) else if x0 = (43 : Int32) then some ((4 : Int32), S) else if x0 = (45 : Int32) then some ((4 : Int32), S) else if x0 = (47 : Int32) then some ((5 : Int32), S) else if x0 = (60 : Int32) then some ((3 : Int32), S) else if x0 = (61 : Int32) then some ((3 : Int32), S) else if x0 = (62 : Int32) then some ((3 : Int32), S) else if x0 = (124 : Int32) then some ((1 : Int32), S) else some ((0 : Int32), S))
set_option maxHeartbeats 4000000 in
set_option maxRecDepth 100000 in
theorem c_X6_rankOf (l : Launch) (D : va_G) (q : Nat → Nat) (k : CI) (x0 : Int32) (S : St) (sz : Nat) (Z : Int32 × St) (hZ : f_X6_rankOf x0 S = some Z) : MetI W_X SX l yX6_rankOf wsX6_rankOf { frames := 0, cells := 0, slots := 0, locals := 0 } [.int x0] D q k S sz Z := by
  refine enter (cc := cX6_rankOf) (maxL := 1) (ret := some .int) (by decide) rfl (Nat.le_of_ble_eq_true rfl) ?_
  intro p e s m below meth c A ls hx hb hr hts hown hlocks hml hP hK hD hA hS hsp hAe hl
  have hown : s.vm.findClass RX6 = some m.cls := hown
  have hl : lv_has ls 1 [(0, .int x0)] := hl
  unfold f_X6_rankOf at hZ
  refine lv_iload_n hx hb dX6_rankOf_0 rfl (lv_at hl 0 rfl) ?_
  by_cases c_1 : x0 = (37 : Int32)
  · have hZ := jx_i_pos c_1 hZ
    refine lv_lookup (off := 99) (tgt := 100) hx hb dX6_rankOf_1 (by decide) (by rw [c_1]; rfl) (by decide) ?_
    refine lv_iconst (v := (5 : Int32)) hx hb dX6_rankOf_100 (by decide) ?_
    exact leave_i hx hb hr hlocks hP hS hZ dX6_rankOf_101
  have hZ := jx_i_neg c_1 hZ
  by_cases c_2 : x0 = (38 : Int32)
  · have hZ := jx_i_pos c_2 hZ
    refine lv_lookup (off := 93) (tgt := 94) hx hb dX6_rankOf_1 (by decide) (by rw [c_2]; rfl) (by decide) ?_
    refine lv_iconst (v := (2 : Int32)) hx hb dX6_rankOf_94 (by decide) ?_
    exact leave_i hx hb hr hlocks hP hS hZ dX6_rankOf_95
  have hZ := jx_i_neg c_2 hZ
  by_cases c_3 : x0 = (42 : Int32)
  · have hZ := jx_i_pos c_3 hZ
    refine lv_lookup (off := 99) (tgt := 100) hx hb dX6_rankOf_1 (by decide) (by rw [c_3]; rfl) (by decide) ?_
    refine lv_iconst (v := (5 : Int32)) hx hb dX6_rankOf_100 (by decide) ?_
    exact leave_i hx hb hr hlocks hP hS hZ dX6_rankOf_101
  have hZ := jx_i_neg c_3 hZ
  by_cases c_4 : x0 = (43 : Int32)
  · have hZ := jx_i_pos c_4 hZ
    refine lv_lookup (off := 97) (tgt := 98) hx hb dX6_rankOf_1 (by decide) (by rw [c_4]; rfl) (by decide) ?_
    refine lv_iconst (v := (4 : Int32)) hx hb dX6_rankOf_98 (by decide) ?_
    exact leave_i hx hb hr hlocks hP hS hZ dX6_rankOf_99
  have hZ := jx_i_neg c_4 hZ
  by_cases c_5 : x0 = (45 : Int32)
  · have hZ := jx_i_pos c_5 hZ
    refine lv_lookup (off := 97) (tgt := 98) hx hb dX6_rankOf_1 (by decide) (by rw [c_5]; rfl) (by decide) ?_
    refine lv_iconst (v := (4 : Int32)) hx hb dX6_rankOf_98 (by decide) ?_
    exact leave_i hx hb hr hlocks hP hS hZ dX6_rankOf_99
  have hZ := jx_i_neg c_5 hZ
  by_cases c_6 : x0 = (47 : Int32)
  · have hZ := jx_i_pos c_6 hZ
    refine lv_lookup (off := 99) (tgt := 100) hx hb dX6_rankOf_1 (by decide) (by rw [c_6]; rfl) (by decide) ?_
    refine lv_iconst (v := (5 : Int32)) hx hb dX6_rankOf_100 (by decide) ?_
    exact leave_i hx hb hr hlocks hP hS hZ dX6_rankOf_101
  have hZ := jx_i_neg c_6 hZ
  by_cases c_7 : x0 = (60 : Int32)
  · have hZ := jx_i_pos c_7 hZ
    refine lv_lookup (off := 95) (tgt := 96) hx hb dX6_rankOf_1 (by decide) (by rw [c_7]; rfl) (by decide) ?_
    refine lv_iconst (v := (3 : Int32)) hx hb dX6_rankOf_96 (by decide) ?_
    exact leave_i hx hb hr hlocks hP hS hZ dX6_rankOf_97
  have hZ := jx_i_neg c_7 hZ
  by_cases c_8 : x0 = (61 : Int32)
  · have hZ := jx_i_pos c_8 hZ
    refine lv_lookup (off := 95) (tgt := 96) hx hb dX6_rankOf_1 (by decide) (by rw [c_8]; rfl) (by decide) ?_
    refine lv_iconst (v := (3 : Int32)) hx hb dX6_rankOf_96 (by decide) ?_
    exact leave_i hx hb hr hlocks hP hS hZ dX6_rankOf_97
  have hZ := jx_i_neg c_8 hZ
  by_cases c_9 : x0 = (62 : Int32)
  · have hZ := jx_i_pos c_9 hZ
    refine lv_lookup (off := 95) (tgt := 96) hx hb dX6_rankOf_1 (by decide) (by rw [c_9]; rfl) (by decide) ?_
    refine lv_iconst (v := (3 : Int32)) hx hb dX6_rankOf_96 (by decide) ?_
    exact leave_i hx hb hr hlocks hP hS hZ dX6_rankOf_97
  have hZ := jx_i_neg c_9 hZ
  by_cases c_10 : x0 = (124 : Int32)
  · have hZ := jx_i_pos c_10 hZ
    refine lv_lookup (off := 91) (tgt := 92) hx hb dX6_rankOf_1 (by decide) (by rw [c_10]; rfl) (by decide) ?_
    refine lv_iconst (v := (1 : Int32)) hx hb dX6_rankOf_92 (by decide) ?_
    exact leave_i hx hb hr hlocks hP hS hZ dX6_rankOf_93
  have hZ := jx_i_neg c_10 hZ
  refine lv_lookup (off := 101) (tgt := 102) hx hb dX6_rankOf_1 (by decide) ?_ (by decide) ?_
  · show Op.lookupswitch.offset [(37, 99), (38, 93), (42, 99), (43, 97), (45, 97), (47, 99), (60, 95), (61, 95), (62, 95), (124, 91)] 101 _ = 101
    rw [lv_osw c_1 (show (37 : Int32).toInt = 37 from rfl), lv_osw c_2 (show (38 : Int32).toInt = 38 from rfl), lv_osw c_3 (show (42 : Int32).toInt = 42 from rfl), lv_osw c_4 (show (43 : Int32).toInt = 43 from rfl), lv_osw c_5 (show (45 : Int32).toInt = 45 from rfl), lv_osw c_6 (show (47 : Int32).toInt = 47 from rfl), lv_osw c_7 (show (60 : Int32).toInt = 60 from rfl), lv_osw c_8 (show (61 : Int32).toInt = 61 from rfl), lv_osw c_9 (show (62 : Int32).toInt = 62 from rfl), lv_osw c_10 (show (124 : Int32).toInt = 124 from rfl)]; rfl
  · refine lv_iconst (v := (0 : Int32)) hx hb dX6_rankOf_102 (by decide) ?_
    exact leave_i hx hb hr hlocks hP hS hZ dX6_rankOf_103
-- X6_readRest
def f_X6_readRest (rc : Int32 → Int32 → St → Option (St)) (x1 : Int32) (x2 : Int32) (S : St) : Option (St) :=
  jx_b2 (f_X6_next S) (fun r_3 S_1 => jx_l (u1 S_1 18 4 ((S_1.1 18 4) + (1 : Int32))) (fun S_4 => jx_b (rc (x1 + (1 : Int32)) x2 S_4) (fun S_5 => jx_b (f_X6_write ((30000 : Int32) + r_3) S_5) (fun S_7 => some S_7))))
set_option maxHeartbeats 4000000 in
set_option maxRecDepth 100000 in
theorem c_X6_readRest (l : Launch) (D : va_G) (q : Nat → Nat) (k : CI) (rc : Int32 → Int32 → St → Option (St)) (fr lo : Nat) (hrc : ∀ (x1 : Int32) (x2 : Int32) (S : St) (sz : Nat) (Z : St), rc x1 x2 S = some Z → MetV W_X SX l yX6_readJoined wsX6_readJoined { frames := fr, cells := 0, slots := 0, locals := lo } [.ref (q 18), .int x1, .int x2] D q k S sz Z) (x1 : Int32) (x2 : Int32) (S : St) (sz : Nat) (Z : St) (hZ : f_X6_readRest rc x1 x2 S = some Z) : MetV W_X SX l yX6_readRest wsX6_readRest { frames := fr + 1, cells := 0, slots := 0, locals := lo + 25 } [.ref (q 18), .int x1, .int x2] D q k S sz Z := by
  refine enter (cc := cX6_readRest) (maxL := 4) (ret := none) (by decide) rfl (Nat.le_of_ble_eq_true rfl) ?_
  intro p e s m below meth c A ls hx hb hr hts hown hlocks hml hP hK hD hA hS hsp hAe hl
  have hown : s.vm.findClass RX6 = some m.cls := hown
  have hl : lv_has ls 4 [(0, .ref (q 18)), (1, .int x1), (2, .int x2)] := hl
  have in6 : ∀ w ∈ wsX60, w ∈ wsX6_readRest := fun _ h => (List.mem_cons_of_mem _ (List.mem_append_right _ h))
  unfold f_X6_readRest at hZ
  refine lv_aload_n hx hb dX6_readRest_0 rfl (lv_at hl 0 rfl) ?_
  obtain ⟨r_3, S_1, hc_2, hZ⟩ := jx_b2_some hZ
  refine call_Vi SX_ok sameX ⟨hx, hb, hml, hown, hts⟩ (c_X6_next l D q k  S _ (r_3, S_1)  hc_2) (cwV 0 hts gX6_readRest_X6_next rfl rfl rfl hd_X6_next ⟨by dsimp only; omega, by dsimp only; omega⟩) hK hP hD hS hA hsp (va_recv hK hP (ci := 6) (q0 := 18) rfl wX_18) (As := []) rfl hl.1 rfl (Nat.le_of_ble_eq_true rfl) dX6_readRest_1 ⟨Nat.zero_le _, Nat.zero_le _⟩ (fun H locs hP hD hS => ?_)
  refine lv_istore_n (lv' := [(3, .int r_3), (0, .ref (q 18)), (1, .int x1), (2, .int x2)]) hx hb dX6_readRest_4 rfl hl (by decide) rfl (fun ls hl => ?_)
  refine lv_aload_n hx hb dX6_readRest_5 rfl (lv_at hl 1 rfl) ?_
  refine lv_dup hx hb dX6_readRest_6 rfl ?_
  refine gf_6_place hx hb hts in6 hown hK hP (hts (.fieldLink RX6 22 "CoinsOfLast$Reader" "place" "I") (List.mem_of_getElem? (i := 1) rfl)) dX6_readRest_7 ?_
  refine lv_iconst (v := (1 : Int32)) hx hb dX6_readRest_10 (by decide) ?_
  refine lv_iadd hx hb dX6_readRest_11 ?_
  obtain ⟨S_4, e_S_4, hZ⟩ := jx_l_some hZ
  refine pf_6_place hx hb hts in6 hown hK hP hD hS (hts (.fieldLink RX6 22 "CoinsOfLast$Reader" "place" "I") (List.mem_of_getElem? (i := 1) rfl)) e_S_4 dX6_readRest_12 (fun H locs hP hD hS => ?_)
  refine lv_aload_n hx hb dX6_readRest_15 rfl (lv_at hl 1 rfl) ?_
  refine lv_iload_n hx hb dX6_readRest_16 rfl (lv_at hl 2 rfl) ?_
  refine lv_iconst (v := (1 : Int32)) hx hb dX6_readRest_17 (by decide) ?_
  refine lv_iadd hx hb dX6_readRest_18 ?_
  refine lv_iload_n hx hb dX6_readRest_19 rfl (lv_at hl 3 rfl) ?_
  obtain ⟨S_5, hc_6, hZ⟩ := jx_b_some hZ
  refine call_Vv SX_ok sameX ⟨hx, hb, hml, hown, hts⟩ (hrc (x1 + (1 : Int32)) x2 S_4 _ S_5  hc_6) (cwV 2 hts gX6_readRest_X6_readJoined rfl rfl rfl hd_X6_readJoined ⟨by dsimp only; omega, by dsimp only; omega⟩) hK hP hD hS hA hsp (va_recv hK hP (ci := 6) (q0 := 18) rfl wX_18) (As := [.int (x1 + (1 : Int32)), .int x2]) rfl hl.1 rfl (Nat.le_of_ble_eq_true rfl) dX6_readRest_20 ⟨Nat.zero_le _, Nat.zero_le _⟩ (fun H locs hP hD hS => ?_)
  refine lv_aload_n hx hb dX6_readRest_23 rfl (lv_at hl 1 rfl) ?_
  refine lv_sipush (v := (30000 : Int32)) hx hb dX6_readRest_24 (by decide) ?_
  refine lv_iload_n hx hb dX6_readRest_27 rfl (lv_at hl 0 rfl) ?_
  refine lv_iadd hx hb dX6_readRest_28 ?_
  obtain ⟨S_7, hc_8, hZ⟩ := jx_b_some hZ
  refine call_Vv SX_ok sameX ⟨hx, hb, hml, hown, hts⟩ (c_X6_write l D q k ((30000 : Int32) + r_3) S_5 _ S_7  hc_8) (cwV 1 hts gX6_readRest_X6_write rfl rfl rfl hd_X6_write ⟨by dsimp only; omega, by dsimp only; omega⟩) hK hP hD hS hA hsp (va_recv hK hP (ci := 6) (q0 := 18) rfl wX_18) (As := [.int ((30000 : Int32) + r_3)]) rfl hl.1 rfl (Nat.le_of_ble_eq_true rfl) dX6_readRest_29 ⟨Nat.zero_le _, Nat.zero_le _⟩ (fun H locs hP hD hS => ?_)
  exact leave_v hx hb hr hlocks hP hS hZ dX6_readRest_32
theorem hd_X6_rankOf : yX6_rankOf.cls ≠ "java/lang/invoke/MethodHandle" ∧ yX6_rankOf.cls ≠ "java/lang/invoke/VarHandle" ∧ (parseMethodDescriptor yX6_rankOf.desc).map (fun d => d.parameters.length) = some 1 := by decide +kernel
theorem hd_X6_readOperand : yX6_readOperand.cls = RX6 ∧ yX6_readOperand.cls ≠ "java/lang/invoke/MethodHandle" ∧ yX6_readOperand.cls ≠ "java/lang/invoke/VarHandle" ∧ (parseMethodDescriptor yX6_readOperand.desc).map (fun d => d.parameters.length) = some 1 := by decide +kernel
theorem hd_X6_readRest : yX6_readRest.cls = RX6 ∧ yX6_readRest.cls ≠ "java/lang/invoke/MethodHandle" ∧ yX6_readRest.cls ≠ "java/lang/invoke/VarHandle" ∧ (parseMethodDescriptor yX6_readRest.desc).map (fun d => d.parameters.length) = some 2 := by decide +kernel
-- X6_readJoined
def f_X6_readJoined_12 (rc : Int32 → Int32 → St → Option (St)) (S_2 : St) : Option (St) :=
  jx_b (f_X6_fail S_2) (fun S_3 => some S_3)
def f_X6_readJoined_82 (rc : Int32 → Int32 → St → Option (St)) (S_13 : St) : Option (St) :=
  some S_13
def f_X6_readJoined_55 (rc : Int32 → Int32 → St → Option (St)) (S_15 : St) : Option (St) :=
  some S_15
def f_X6_readJoined_75i27 (rc : Int32 → Int32 → St → Option (St)) (x1 : Int32) (x2 : Int32) (x4_31 : Int32) (s0_31 : Int32) (S_31 : St) : Option ((Int32 × Int32 × St) ⊕ ((St) ⊕ (St))) :=
  jx_l (x4_31 + 1) (fun x4_32 => some (.inl (s0_31, x4_32, S_31)))
def b_X6_readJoined_27 (rc : Int32 → Int32 → St → Option (St)) (x1 : Int32) (x2 : Int32) (x3 : Int32) (x4 : Int32) (S : St) : Option ((Int32 × Int32 × St) ⊕ ((St) ⊕ (St))) :=
  (if (120 : Int32) ≤ x4 then some (.inr (.inl S)) else jx_b2 (f_X6_next S) (fun r_21 S_19 => jx_b2 (f_X6_rankOf r_21 S_19) (fun r_24 S_22 => (if r_24 < x1 then some (.inr (.inr S_22)) else (if r_24 ≤ x3 then jx_b (f_X6_readRest rc r_24 x2 S_22) (fun S_28 => (if r_24 = (3 : Int32) then f_X6_readJoined_75i27 rc x1 x2 x4 (2 : Int32) S_28 else f_X6_readJoined_75i27 rc x1 x2 x4 r_24 S_28)) else some (.inr (.inr S_22)))))))
def g_X6_readJoined_27 (rc : Int32 → Int32 → St → Option (St)) (x1 : Int32) (x2 : Int32) : (Int32 × Int32 × St) → Option ((Int32 × Int32 × St) ⊕ ((St) ⊕ (St))) := fun z => b_X6_readJoined_27 rc x1 x2 z.1 z.2.1 z.2.2
def fb_X6_readJoined (rc : Int32 → Int32 → St → Option (St)) (x1 : Int32) (x2 : Int32) (S : St) : Option (St) :=
  (if (6 : Int32) < x1 then f_X6_readJoined_12 rc S else (if x2 ≤ (6 : Int32) then jx_b (f_X6_readOperand rc x2 S) (fun S_7 => jx_b (jx_w (g_X6_readJoined_27 rc x1 x2) FU ((5 : Int32), (0 : Int32), S_7)) (fun z => Sum.elim (fun z => f_X6_readJoined_82 rc z) (fun z => f_X6_readJoined_55 rc z) z)) else f_X6_readJoined_12 rc S))
def f_X6_readJoined : Nat → Int32 → Int32 → St → Option (St)
  | 0, _, _, _ => none
  | n + 1, x1, x2, S => fb_X6_readJoined (f_X6_readJoined n) x1 x2 S
set_option maxHeartbeats 4000000 in
set_option maxRecDepth 100000 in
theorem cb_X6_readJoined (l : Launch) (D : va_G) (q : Nat → Nat) (k : CI) (rc : Int32 → Int32 → St → Option (St)) (fr lo : Nat) (hrc : ∀ (x1 : Int32) (x2 : Int32) (S : St) (sz : Nat) (Z : St), rc x1 x2 S = some Z → MetV W_X SX l yX6_readJoined wsX6_readJoined { frames := fr, cells := 0, slots := 0, locals := lo } [.ref (q 18), .int x1, .int x2] D q k S sz Z) (x1 : Int32) (x2 : Int32) (S : St) (sz : Nat) (Z : St) (hZ : fb_X6_readJoined rc x1 x2 S = some Z) : MetV W_X SX l yX6_readJoined wsX6_readJoined { frames := fr + 3, cells := 0, slots := 0, locals := lo + 67 } [.ref (q 18), .int x1, .int x2] D q k S sz Z := by
  refine enter (cc := cX6_readJoined) (maxL := 6) (ret := none) (by decide) rfl (Nat.le_of_ble_eq_true rfl) ?_
  intro p e s m below meth c A ls hx hb hr hts hown hlocks hml hP hK hD hA hS hsp hAe hl
  have hown : s.vm.findClass RX6 = some m.cls := hown
  have hl : lv_has ls 6 [(0, .ref (q 18)), (1, .int x1), (2, .int x2)] := hl
  have j12 : ∀ (S_2 : St)  (H : Heap) (locs : List Loc) (hZ : f_X6_readJoined_12 rc S_2 = some Z) (hP : va_P D vwCl (W_X q k S_2) H) (hD : va_D A (W_X q k S_2)) (hS : va_S A s.heap H locs) (ls : Array Slot) (hl : lv_has ls 6 [(0, .ref (q 18))]), W p l e ({ frames := fr + 3, cells := 0, slots := 0, locals := lo + 67 } : Room) s m ([.ref (q 18), .int x1, .int x2] : List Value).toArray below meth c H locs 0 0 (MQ below (va_Qv (fun u => u = Z) (fun u t => va_P D vwCl (W_X q k u) t.heap) A) ([.ref (q 18), .int x1, .int x2] : List Value).toArray s 0 0 A) (F0 m 12 ls []) := by
    intro S_2   H locs hZ hP hD hS ls hl
    unfold f_X6_readJoined_12 at hZ
    refine lv_aload_n hx hb dX6_readJoined_12 rfl (lv_at hl 0 rfl) ?_
    obtain ⟨S_3, hc_4, hZ⟩ := jx_b_some hZ
    refine call_Vv SX_ok sameX ⟨hx, hb, hml, hown, hts⟩ (c_X6_fail l D q k  S_2 _ S_3  hc_4) (cwV 0 hts gX6_readJoined_X6_fail rfl rfl rfl hd_X6_fail ⟨by dsimp only; omega, by dsimp only; omega⟩) hK hP hD hS hA hsp (va_recv hK hP (ci := 6) (q0 := 18) rfl wX_18) (As := []) rfl hl.1 rfl (Nat.le_of_ble_eq_true rfl) dX6_readJoined_13 ⟨Nat.zero_le _, Nat.zero_le _⟩ (fun H locs hP hD hS => ?_)
    exact leave_v hx hb hr hlocks hP hS hZ dX6_readJoined_16
  have j82 : ∀ (S_13 : St)  (H : Heap) (locs : List Loc) (hZ : f_X6_readJoined_82 rc S_13 = some Z) (hP : va_P D vwCl (W_X q k S_13) H) (hD : va_D A (W_X q k S_13)) (hS : va_S A s.heap H locs) (ls : Array Slot) (hl : lv_has ls 6 []), W p l e ({ frames := fr + 3, cells := 0, slots := 0, locals := lo + 67 } : Room) s m ([.ref (q 18), .int x1, .int x2] : List Value).toArray below meth c H locs 0 0 (MQ below (va_Qv (fun u => u = Z) (fun u t => va_P D vwCl (W_X q k u) t.heap) A) ([.ref (q 18), .int x1, .int x2] : List Value).toArray s 0 0 A) (F0 m 82 ls []) := by
    intro S_13   H locs hZ hP hD hS ls hl
    unfold f_X6_readJoined_82 at hZ
    exact leave_v hx hb hr hlocks hP hS hZ dX6_readJoined_82
  have j55 : ∀ (S_15 : St)  (H : Heap) (locs : List Loc) (hZ : f_X6_readJoined_55 rc S_15 = some Z) (hP : va_P D vwCl (W_X q k S_15) H) (hD : va_D A (W_X q k S_15)) (hS : va_S A s.heap H locs) (ls : Array Slot) (hl : lv_has ls 6 []), W p l e ({ frames := fr + 3, cells := 0, slots := 0, locals := lo + 67 } : Room) s m ([.ref (q 18), .int x1, .int x2] : List Value).toArray below meth c H locs 0 0 (MQ below (va_Qv (fun u => u = Z) (fun u t => va_P D vwCl (W_X q k u) t.heap) A) ([.ref (q 18), .int x1, .int x2] : List Value).toArray s 0 0 A) (F0 m 55 ls []) := by
    intro S_15   H locs hZ hP hD hS ls hl
    unfold f_X6_readJoined_55 at hZ
    exact leave_v hx hb hr hlocks hP hS hZ dX6_readJoined_55
  unfold fb_X6_readJoined at hZ
  refine lv_iload_n hx hb dX6_readJoined_0 rfl (lv_at hl 1 rfl) ?_
  refine lv_bipush (v := (6 : Int32)) hx hb dX6_readJoined_1 (by decide) ?_
  refine lv_icmp_gt (tgt := 12) hx hb dX6_readJoined_3 (by decide) (fun c_1 => ?_) (fun c_1 => ?_)
  · have hZ := jx_i_pos c_1 hZ
    exact j12 S _ _ hZ hP hD hS _ (lv_sub hl [0] rfl)
  · have hZ := jx_i_neg c_1 hZ
    refine lv_iload_n hx hb dX6_readJoined_6 rfl (lv_at hl 2 rfl) ?_
    refine lv_bipush (v := (6 : Int32)) hx hb dX6_readJoined_7 (by decide) ?_
    refine lv_icmp_le (tgt := 17) hx hb dX6_readJoined_9 (by decide) (fun c_6 => ?_) (fun c_6 => ?_)
    · have hZ := jx_i_pos c_6 hZ
      refine lv_aload_n hx hb dX6_readJoined_17 rfl (lv_at hl 0 rfl) ?_
      refine lv_iload_n hx hb dX6_readJoined_18 rfl (lv_at hl 2 rfl) ?_
      obtain ⟨S_7, hc_8, hZ⟩ := jx_b_some hZ
      refine call_Vv SX_ok sameX ⟨hx, hb, hml, hown, hts⟩ (c_X6_readOperand l D q k rc fr lo hrc x2 S _ S_7  hc_8) (cwV 1 hts gX6_readJoined_X6_readOperand rfl rfl rfl hd_X6_readOperand ⟨by dsimp only; omega, by dsimp only; omega⟩) hK hP hD hS hA hsp (va_recv hK hP (ci := 6) (q0 := 18) rfl wX_18) (As := [.int x2]) rfl hl.1 rfl (Nat.le_of_ble_eq_true rfl) dX6_readJoined_19 ⟨Nat.zero_le _, Nat.zero_le _⟩ (fun H locs hP hD hS => ?_)
      refine lv_iconst (v := (5 : Int32)) hx hb dX6_readJoined_22 (by decide) ?_
      refine lv_istore_n (lv' := [(3, .int (5 : Int32)), (0, .ref (q 18)), (1, .int x1), (2, .int x2)]) hx hb dX6_readJoined_23 rfl hl (by decide) rfl (fun ls hl => ?_)
      refine lv_iconst (v := (0 : Int32)) hx hb dX6_readJoined_24 (by decide) ?_
      refine lv_istore (lv' := [(4, .int (0 : Int32)), (3, .int (5 : Int32)), (0, .ref (q 18)), (1, .int x1), (2, .int x2)]) hx hb dX6_readJoined_25 hl (by decide) rfl (fun ls hl => ?_)
      obtain ⟨r_12, hw, hza_12⟩ := jx_b_some hZ
      have l_12 : ∀ (nn : Nat) (x3_9 : Int32) (x4_10 : Int32) (S_11 : St) (H : Heap) (locs : List Loc) (hw : jx_w (g_X6_readJoined_27 rc x1 x2) nn (x3_9, x4_10, S_11) = some r_12) (hP : va_P D vwCl (W_X q k S_11) H) (hD : va_D A (W_X q k S_11)) (hS : va_S A s.heap H locs) (ls : Array Slot) (hl : lv_has ls 6 [(0, .ref (q 18)), (1, .int x1), (2, .int x2), (3, .int x3_9), (4, .int x4_10)]), W p l e ({ frames := fr + 3, cells := 0, slots := 0, locals := lo + 67 } : Room) s m ([.ref (q 18), .int x1, .int x2] : List Value).toArray below meth c H locs 0 0 (MQ below (va_Qv (fun u => u = Z) (fun u t => va_P D vwCl (W_X q k u) t.heap) A) ([.ref (q 18), .int x1, .int x2] : List Value).toArray s 0 0 A) (F0 m 27 ls []) := by
        intro nn
        induction nn with
        | zero =>
          intro x3_9 x4_10 S_11 H locs hw hP hD hS ls hl
          exact jx_w_zero hw
        | succ n_12 ih_12 =>
          intro x3_9 x4_10 S_11 H locs hw hP hD hS ls hl
          obtain ⟨o_12, hZ, hk_12⟩ := jx_w_succ hw
          have hZ : b_X6_readJoined_27 rc x1 x2 x3_9 x4_10 S_11 = some o_12 := hZ
          have j75i27 : ∀ (x4_50 : Int32) (s0_50 : Int32) (S_50 : St)  (o_12 : (Int32 × Int32 × St) ⊕ ((St) ⊕ (St))) (hk_12 : jx_k (g_X6_readJoined_27 rc x1 x2) n_12 r_12 o_12) (H : Heap) (locs : List Loc) (hZ : f_X6_readJoined_75i27 rc x1 x2 x4_50 s0_50 S_50 = some o_12) (hP : va_P D vwCl (W_X q k S_50) H) (hD : va_D A (W_X q k S_50)) (hS : va_S A s.heap H locs) (ls : Array Slot) (hl : lv_has ls 6 [(0, .ref (q 18)), (1, .int x1), (2, .int x2), (4, .int x4_50)]), W p l e ({ frames := fr + 3, cells := 0, slots := 0, locals := lo + 67 } : Room) s m ([.ref (q 18), .int x1, .int x2] : List Value).toArray below meth c H locs 0 0 (MQ below (va_Qv (fun u => u = Z) (fun u t => va_P D vwCl (W_X q k u) t.heap) A) ([.ref (q 18), .int x1, .int x2] : List Value).toArray s 0 0 A) (F0 m 75 ls [.int s0_50]) := by
            intro x4_50 s0_50 S_50  o_12 hk_12 H locs hZ hP hD hS ls hl
            unfold f_X6_readJoined_75i27 at hZ
            refine lv_istore_n (lv' := [(3, .int s0_50), (0, .ref (q 18)), (1, .int x1), (2, .int x2), (4, .int x4_50)]) hx hb dX6_readJoined_75 rfl hl (by decide) rfl (fun ls hl => ?_)
            obtain ⟨x4_51, e_x4_51, hZ⟩ := jx_l_some hZ
            refine lv_iinc (v := x4_51) (lv' := [(4, .int x4_51), (3, .int s0_50), (0, .ref (q 18)), (1, .int x1), (2, .int x2)]) hx hb dX6_readJoined_76 hl (k := 4) rfl (by rw [e_x4_51]; rfl) (by decide) rfl (fun ls hl => ?_)
            refine lv_goto (tgt := 27) hx hb dX6_readJoined_79 (by decide) ?_
            have ho := Option.some.inj hZ
            subst ho
            exact ih_12 s0_50 x4_51 S_50 _ _ hk_12 hP hD hS _ (lv_sub hl [2, 3, 4, 1, 0] rfl)
          unfold b_X6_readJoined_27 at hZ
          refine lv_iload hx hb dX6_readJoined_27 (lv_at hl 4 rfl) ?_
          refine lv_bipush (v := (120 : Int32)) hx hb dX6_readJoined_29 (by decide) ?_
          refine lv_icmp_ge (tgt := 82) hx hb dX6_readJoined_31 (by decide) (fun c_36 => ?_) (fun c_36 => ?_)
          · have hZ := jx_i_pos c_36 hZ
            have ho := Option.some.inj hZ
            subst ho
            have hE := hza_12
            rw [← (show .inl S_11 = r_12 from hk_12)] at hE
            have hZ : f_X6_readJoined_82 rc S_11 = some Z := hE
            exact j82 S_11 _ _ hZ hP hD hS _ (lv_sub hl [] rfl)
          · have hZ := jx_i_neg c_36 hZ
            refine lv_aload_n hx hb dX6_readJoined_34 rfl (lv_at hl 0 rfl) ?_
            obtain ⟨r_40, S_38, hc_39, hZ⟩ := jx_b2_some hZ
            refine call_Vi SX_ok sameX ⟨hx, hb, hml, hown, hts⟩ (c_X6_next l D q k  S_11 _ (r_40, S_38)  hc_39) (cwV 0 hts gX6_readJoined_X6_next rfl rfl rfl hd_X6_next ⟨by dsimp only; omega, by dsimp only; omega⟩) hK hP hD hS hA hsp (va_recv hK hP (ci := 6) (q0 := 18) rfl wX_18) (As := []) rfl hl.1 rfl (Nat.le_of_ble_eq_true rfl) dX6_readJoined_35 ⟨Nat.zero_le _, Nat.zero_le _⟩ (fun H locs hP hD hS => ?_)
            obtain ⟨r_43, S_41, hc_42, hZ⟩ := jx_b2_some hZ
            refine call_Si SX_ok sameX ⟨hx, hb, hml, hown, hts⟩ (c_X6_rankOf l D q k r_40 S_38 _ (r_43, S_41)  hc_42) (va_cwS 1 hts gX6_readJoined_X6_rankOf rfl rfl rfl hd_X6_rankOf ⟨by dsimp only; omega, by dsimp only; omega⟩) hK hP hD hS hA hsp (As := [.int r_40]) rfl hl.1 rfl (Nat.le_of_ble_eq_true rfl) dX6_readJoined_38 ⟨Nat.zero_le _, Nat.zero_le _⟩ (fun H locs hP hD hS => ?_)
            refine lv_istore (lv' := [(5, .int r_43), (0, .ref (q 18)), (1, .int x1), (2, .int x2), (3, .int x3_9), (4, .int x4_10)]) hx hb dX6_readJoined_41 hl (by decide) rfl (fun ls hl => ?_)
            refine lv_iload hx hb dX6_readJoined_43 (lv_at hl 0 rfl) ?_
            refine lv_iload_n hx hb dX6_readJoined_45 rfl (lv_at hl 2 rfl) ?_
            refine lv_icmp_lt (tgt := 55) hx hb dX6_readJoined_46 (by decide) (fun c_44 => ?_) (fun c_44 => ?_)
            · have hZ := jx_i_pos c_44 hZ
              have ho := Option.some.inj hZ
              subst ho
              have hE := hza_12
              rw [← (show .inr S_41 = r_12 from hk_12)] at hE
              have hZ : f_X6_readJoined_55 rc S_41 = some Z := hE
              exact j55 S_41 _ _ hZ hP hD hS _ (lv_sub hl [] rfl)
            · have hZ := jx_i_neg c_44 hZ
              refine lv_iload hx hb dX6_readJoined_49 (lv_at hl 0 rfl) ?_
              refine lv_iload_n hx hb dX6_readJoined_51 rfl (lv_at hl 4 rfl) ?_
              refine lv_icmp_le (tgt := 56) hx hb dX6_readJoined_52 (by decide) (fun c_46 => ?_) (fun c_46 => ?_)
              · have hZ := jx_i_pos c_46 hZ
                refine lv_aload_n hx hb dX6_readJoined_56 rfl (lv_at hl 1 rfl) ?_
                refine lv_iload hx hb dX6_readJoined_57 (lv_at hl 0 rfl) ?_
                refine lv_iload_n hx hb dX6_readJoined_59 rfl (lv_at hl 3 rfl) ?_
                obtain ⟨S_47, hc_48, hZ⟩ := jx_b_some hZ
                refine call_Vv SX_ok sameX ⟨hx, hb, hml, hown, hts⟩ (c_X6_readRest l D q k rc fr lo hrc r_43 x2 S_41 _ S_47  hc_48) (cwV 2 hts gX6_readJoined_X6_readRest rfl rfl rfl hd_X6_readRest ⟨by dsimp only; omega, by dsimp only; omega⟩) hK hP hD hS hA hsp (va_recv hK hP (ci := 6) (q0 := 18) rfl wX_18) (As := [.int r_43, .int x2]) rfl hl.1 rfl (Nat.le_of_ble_eq_true rfl) dX6_readJoined_60 ⟨Nat.zero_le _, Nat.zero_le _⟩ (fun H locs hP hD hS => ?_)
                refine lv_iload hx hb dX6_readJoined_63 (lv_at hl 0 rfl) ?_
                refine lv_iconst (v := (3 : Int32)) hx hb dX6_readJoined_65 (by decide) ?_
                refine lv_icmp_ne (tgt := 73) hx hb dX6_readJoined_66 (by decide) (fun c_49 => ?_) (fun c_49 => ?_)
                · have hZ := jx_i_neg c_49 hZ
                  refine lv_iload hx hb dX6_readJoined_73 (lv_at hl 0 rfl) ?_
                  exact j75i27 x4_10 r_43 S_47 _ hk_12 _ _ hZ hP hD hS _ (lv_sub hl [1, 2, 3, 5] rfl)
                · have hZ := jx_i_pos c_49 hZ
                  refine lv_iconst (v := (2 : Int32)) hx hb dX6_readJoined_69 (by decide) ?_
                  refine lv_goto (tgt := 75) hx hb dX6_readJoined_70 (by decide) ?_
                  exact j75i27 x4_10 (2 : Int32) S_47 _ hk_12 _ _ hZ hP hD hS _ (lv_sub hl [1, 2, 3, 5] rfl)
              · have hZ := jx_i_neg c_46 hZ
                have ho := Option.some.inj hZ
                subst ho
                have hE := hza_12
                rw [← (show .inr S_41 = r_12 from hk_12)] at hE
                have hZ : f_X6_readJoined_55 rc S_41 = some Z := hE
                exact j55 S_41 _ _ hZ hP hD hS _ (lv_sub hl [] rfl)
      exact l_12 FU (5 : Int32) (0 : Int32) S_7 _ _ hw hP hD hS _ (lv_sub hl [2, 3, 4, 1, 0] rfl)
    · have hZ := jx_i_neg c_6 hZ
      exact j12 S _ _ hZ hP hD hS _ (lv_sub hl [0] rfl)
theorem c_X6_readJoined (l : Launch) (D : va_G) (q : Nat → Nat) (k : CI) : ∀ (n : Nat) (x1 : Int32) (x2 : Int32) (S : St) (sz : Nat) (Z : St) (hZ : f_X6_readJoined n x1 x2 S = some Z), MetV W_X SX l yX6_readJoined wsX6_readJoined { frames := 3 * n, cells := 0, slots := 0, locals := 67 * n } [.ref (q 18), .int x1, .int x2] D q k S sz Z := by
  intro n
  induction n with
  | zero =>
    intro x1 x2 S sz Z  hZ
    unfold f_X6_readJoined at hZ
    cases hZ
  | succ n ih =>
    intro x1 x2 S sz Z  hZ
    unfold f_X6_readJoined at hZ
    exact cb_X6_readJoined l D q k (f_X6_readJoined n) (3 * n) (67 * n) ih x1 x2 S sz Z  hZ
-- X6_readLine
def f_X6_readLine (S : St) : Option (St) :=
  jx_b (f_X6_readJoined 60 (1 : Int32) (0 : Int32) S) (fun S_1 => jx_b2 (f_X6_goesOnWith (63 : Int32) S_1) (fun r_5 S_3 => (if r_5 = 0 then jx_b (f_X6_write (20000 : Int32) S_3) (fun S_7 => some S_7) else jx_b (f_X6_readJoined 60 (1 : Int32) (0 : Int32) S_3) (fun S_9 => jx_b (f_X6_write (20001 : Int32) S_9) (fun S_11 => some S_11)))))
set_option maxHeartbeats 4000000 in
set_option maxRecDepth 100000 in
theorem c_X6_readLine (l : Launch) (D : va_G) (q : Nat → Nat) (k : CI) (S : St) (sz : Nat) (Z : St) (hZ : f_X6_readLine S = some Z) : MetV W_X SX l yX6_readLine wsX6_readLine { frames := 181, cells := 0, slots := 0, locals := 4045 } [.ref (q 18)] D q k S sz Z := by
  refine enter (cc := cX6_readLine) (maxL := 1) (ret := none) (by decide) rfl (Nat.le_of_ble_eq_true rfl) ?_
  intro p e s m below meth c A ls hx hb hr hts hown hlocks hml hP hK hD hA hS hsp hAe hl
  have hown : s.vm.findClass RX6 = some m.cls := hown
  have hl : lv_has ls 1 [(0, .ref (q 18))] := hl
  unfold f_X6_readLine at hZ
  refine lv_aload_n hx hb dX6_readLine_0 rfl (lv_at hl 0 rfl) ?_
  refine lv_iconst (v := (1 : Int32)) hx hb dX6_readLine_1 (by decide) ?_
  refine lv_iconst (v := (0 : Int32)) hx hb dX6_readLine_2 (by decide) ?_
  obtain ⟨S_1, hc_2, hZ⟩ := jx_b_some hZ
  refine call_Vv SX_ok sameX ⟨hx, hb, hml, hown, hts⟩ (c_X6_readJoined l D q k 60 (1 : Int32) (0 : Int32) S _ S_1  hc_2) (cwV 2 hts gX6_readLine_X6_readJoined rfl rfl rfl hd_X6_readJoined ⟨Nat.le_of_ble_eq_true rfl, Nat.le_of_ble_eq_true rfl⟩) hK hP hD hS hA hsp (va_recv hK hP (ci := 6) (q0 := 18) rfl wX_18) (As := [.int (1 : Int32), .int (0 : Int32)]) rfl hl.1 rfl (Nat.le_of_ble_eq_true rfl) dX6_readLine_3 ⟨Nat.zero_le _, Nat.zero_le _⟩ (fun H locs hP hD hS => ?_)
  refine lv_aload_n hx hb dX6_readLine_6 rfl (lv_at hl 0 rfl) ?_
  refine lv_bipush (v := (63 : Int32)) hx hb dX6_readLine_7 (by decide) ?_
  obtain ⟨r_5, S_3, hc_4, hZ⟩ := jx_b2_some hZ
  refine call_Vi SX_ok sameX ⟨hx, hb, hml, hown, hts⟩ (c_X6_goesOnWith l D q k (63 : Int32) S_1 _ (r_5, S_3)  hc_4) (cwV 1 hts gX6_readLine_X6_goesOnWith rfl rfl rfl hd_X6_goesOnWith ⟨Nat.le_of_ble_eq_true rfl, Nat.le_of_ble_eq_true rfl⟩) hK hP hD hS hA hsp (va_recv hK hP (ci := 6) (q0 := 18) rfl wX_18) (As := [.int (63 : Int32)]) rfl hl.1 rfl (Nat.le_of_ble_eq_true rfl) dX6_readLine_9 ⟨Nat.zero_le _, Nat.zero_le _⟩ (fun H locs hP hD hS => ?_)
  refine lv_if_eq (tgt := 31) hx hb dX6_readLine_12 (by decide) (fun c_6 => ?_) (fun c_6 => ?_)
  · have hZ := jx_i_pos c_6 hZ
    refine lv_aload_n hx hb dX6_readLine_31 rfl (lv_at hl 0 rfl) ?_
    refine lv_sipush (v := (20000 : Int32)) hx hb dX6_readLine_32 (by decide) ?_
    obtain ⟨S_7, hc_8, hZ⟩ := jx_b_some hZ
    refine call_Vv SX_ok sameX ⟨hx, hb, hml, hown, hts⟩ (c_X6_write l D q k (20000 : Int32) S_3 _ S_7  hc_8) (cwV 1 hts gX6_readLine_X6_write rfl rfl rfl hd_X6_write ⟨Nat.le_of_ble_eq_true rfl, Nat.le_of_ble_eq_true rfl⟩) hK hP hD hS hA hsp (va_recv hK hP (ci := 6) (q0 := 18) rfl wX_18) (As := [.int (20000 : Int32)]) rfl hl.1 rfl (Nat.le_of_ble_eq_true rfl) dX6_readLine_35 ⟨Nat.zero_le _, Nat.zero_le _⟩ (fun H locs hP hD hS => ?_)
    exact leave_v hx hb hr hlocks hP hS hZ dX6_readLine_38
  · have hZ := jx_i_neg c_6 hZ
    refine lv_aload_n hx hb dX6_readLine_15 rfl (lv_at hl 0 rfl) ?_
    refine lv_iconst (v := (1 : Int32)) hx hb dX6_readLine_16 (by decide) ?_
    refine lv_iconst (v := (0 : Int32)) hx hb dX6_readLine_17 (by decide) ?_
    obtain ⟨S_9, hc_10, hZ⟩ := jx_b_some hZ
    refine call_Vv SX_ok sameX ⟨hx, hb, hml, hown, hts⟩ (c_X6_readJoined l D q k 60 (1 : Int32) (0 : Int32) S_3 _ S_9  hc_10) (cwV 2 hts gX6_readLine_X6_readJoined rfl rfl rfl hd_X6_readJoined ⟨Nat.le_of_ble_eq_true rfl, Nat.le_of_ble_eq_true rfl⟩) hK hP hD hS hA hsp (va_recv hK hP (ci := 6) (q0 := 18) rfl wX_18) (As := [.int (1 : Int32), .int (0 : Int32)]) rfl hl.1 rfl (Nat.le_of_ble_eq_true rfl) dX6_readLine_18 ⟨Nat.zero_le _, Nat.zero_le _⟩ (fun H locs hP hD hS => ?_)
    refine lv_aload_n hx hb dX6_readLine_21 rfl (lv_at hl 0 rfl) ?_
    refine lv_sipush (v := (20001 : Int32)) hx hb dX6_readLine_22 (by decide) ?_
    obtain ⟨S_11, hc_12, hZ⟩ := jx_b_some hZ
    refine call_Vv SX_ok sameX ⟨hx, hb, hml, hown, hts⟩ (c_X6_write l D q k (20001 : Int32) S_9 _ S_11  hc_12) (cwV 1 hts gX6_readLine_X6_write rfl rfl rfl hd_X6_write ⟨Nat.le_of_ble_eq_true rfl, Nat.le_of_ble_eq_true rfl⟩) hK hP hD hS hA hsp (va_recv hK hP (ci := 6) (q0 := 18) rfl wX_18) (As := [.int (20001 : Int32)]) rfl hl.1 rfl (Nat.le_of_ble_eq_true rfl) dX6_readLine_25 ⟨Nat.zero_le _, Nat.zero_le _⟩ (fun H locs hP hD hS => ?_)
    refine lv_goto (tgt := 38) hx hb dX6_readLine_28 (by decide) ?_
    exact leave_v hx hb hr hlocks hP hS hZ dX6_readLine_38
theorem hd_X6_readLine : yX6_readLine.cls = RX6 ∧ yX6_readLine.cls ≠ "java/lang/invoke/MethodHandle" ∧ yX6_readLine.cls ≠ "java/lang/invoke/VarHandle" ∧ (parseMethodDescriptor yX6_readLine.desc).map (fun d => d.parameters.length) = some 0 := by decide +kernel
-- X6_parse
def f_X6_parse_61 (S_11 : St) : Option (Int32 × St) :=
  jx_l (u1 S_11 18 2 (0 : Int32)) (fun S_12 => some ((S_12.1 18 5), S_12))
def f_X6_parse_46 (S_9 : St) : Option (Int32 × St) :=
  (if (S_9.1 18 2) ≤ (S_9.1 18 4) then f_X6_parse_61 S_9 else jx_b (f_X6_fail S_9) (fun S_14 => f_X6_parse_61 S_14))
def b_X6_parse_21 (x1 : Int32) (S : St) : Option ((Int32 × St) ⊕ (St)) :=
  (if (120 : Int32) ≤ x1 then some (.inr S) else jx_b2 (f_X6_goesOnWith (59 : Int32) S) (fun r_22 S_20 => (if r_22 = 0 then some (.inr S_20) else jx_b (f_X6_readLine S_20) (fun S_25 => jx_l (x1 + 1) (fun x1_27 => some (.inl (x1_27, S_25)))))))
def g_X6_parse_21 : (Int32 × St) → Option ((Int32 × St) ⊕ (St)) := fun z => b_X6_parse_21 z.1 z.2
def f_X6_parse (S : St) : Option (Int32 × St) :=
  jx_l (u1 S 18 4 (0 : Int32)) (fun S_1 => jx_l (u1 S_1 18 3 (0 : Int32)) (fun S_2 => jx_l (u1 S_2 18 5 (-1 : Int32)) (fun S_3 => jx_b (f_X6_readLine S_3) (fun S_4 => jx_b (jx_w (g_X6_parse_21) FU ((0 : Int32), S_4)) (fun z => f_X6_parse_46 z)))))
set_option maxHeartbeats 4000000 in
set_option maxRecDepth 100000 in
theorem c_X6_parse (l : Launch) (D : va_G) (q : Nat → Nat) (k : CI) (S : St) (sz : Nat) (Z : Int32 × St) (hZ : f_X6_parse S = some Z) : MetI W_X SX l yX6_parse wsX6_parse { frames := 182, cells := 0, slots := 0, locals := 4065 } [.ref (q 18)] D q k S sz Z := by
  refine enter (cc := cX6_parse) (maxL := 2) (ret := some .int) (by decide) rfl (Nat.le_of_ble_eq_true rfl) ?_
  intro p e s m below meth c A ls hx hb hr hts hown hlocks hml hP hK hD hA hS hsp hAe hl
  have hown : s.vm.findClass RX6 = some m.cls := hown
  have hl : lv_has ls 2 [(0, .ref (q 18))] := hl
  have in6 : ∀ w ∈ wsX60, w ∈ wsX6_parse := fun _ h => (List.mem_cons_of_mem _ (List.mem_append_right _ h))
  have j61 : ∀ (S_11 : St)  (H : Heap) (locs : List Loc) (hZ : f_X6_parse_61 S_11 = some Z) (hP : va_P D vwCl (W_X q k S_11) H) (hD : va_D A (W_X q k S_11)) (hS : va_S A s.heap H locs) (ls : Array Slot) (hl : lv_has ls 2 [(0, .ref (q 18))]), W p l e ({ frames := 182, cells := 0, slots := 0, locals := 4065 } : Room) s m ([.ref (q 18)] : List Value).toArray below meth c H locs 0 0 (MQ below (va_Qi (fun r u => (r, u) = Z) (fun u t => va_P D vwCl (W_X q k u) t.heap) A) ([.ref (q 18)] : List Value).toArray s 0 0 A) (F0 m 61 ls []) := by
    intro S_11   H locs hZ hP hD hS ls hl
    unfold f_X6_parse_61 at hZ
    refine lv_aload_n hx hb dX6_parse_61 rfl (lv_at hl 0 rfl) ?_
    refine lv_iconst (v := (0 : Int32)) hx hb dX6_parse_62 (by decide) ?_
    obtain ⟨S_12, e_S_12, hZ⟩ := jx_l_some hZ
    refine pf_6_length hx hb hts in6 hown hK hP hD hS (hts (.fieldLink RX6 18 "CoinsOfLast$Reader" "length" "I") (List.mem_of_getElem? (i := 4) rfl)) e_S_12 dX6_parse_63 (fun H locs hP hD hS => ?_)
    refine lv_aload_n hx hb dX6_parse_66 rfl (lv_at hl 0 rfl) ?_
    refine gf_6_fault hx hb hts in6 hown hK hP (hts (.fieldLink RX6 28 "CoinsOfLast$Reader" "fault" "I") (List.mem_of_getElem? (i := 3) rfl)) dX6_parse_67 ?_
    exact leave_i hx hb hr hlocks hP hS hZ dX6_parse_70
  have j46 : ∀ (S_9 : St)  (H : Heap) (locs : List Loc) (hZ : f_X6_parse_46 S_9 = some Z) (hP : va_P D vwCl (W_X q k S_9) H) (hD : va_D A (W_X q k S_9)) (hS : va_S A s.heap H locs) (ls : Array Slot) (hl : lv_has ls 2 [(0, .ref (q 18))]), W p l e ({ frames := 182, cells := 0, slots := 0, locals := 4065 } : Room) s m ([.ref (q 18)] : List Value).toArray below meth c H locs 0 0 (MQ below (va_Qi (fun r u => (r, u) = Z) (fun u t => va_P D vwCl (W_X q k u) t.heap) A) ([.ref (q 18)] : List Value).toArray s 0 0 A) (F0 m 46 ls []) := by
    intro S_9   H locs hZ hP hD hS ls hl
    unfold f_X6_parse_46 at hZ
    refine lv_aload_n hx hb dX6_parse_46 rfl (lv_at hl 0 rfl) ?_
    refine gf_6_place hx hb hts in6 hown hK hP (hts (.fieldLink RX6 22 "CoinsOfLast$Reader" "place" "I") (List.mem_of_getElem? (i := 1) rfl)) dX6_parse_47 ?_
    refine lv_aload_n hx hb dX6_parse_50 rfl (lv_at hl 0 rfl) ?_
    refine gf_6_length hx hb hts in6 hown hK hP (hts (.fieldLink RX6 18 "CoinsOfLast$Reader" "length" "I") (List.mem_of_getElem? (i := 4) rfl)) dX6_parse_51 ?_
    refine lv_icmp_ge (tgt := 61) hx hb dX6_parse_54 (by decide) (fun c_10 => ?_) (fun c_10 => ?_)
    · have hZ := jx_i_pos c_10 hZ
      exact j61 S_9 _ _ hZ hP hD hS _ (lv_sub hl [0] rfl)
    · have hZ := jx_i_neg c_10 hZ
      refine lv_aload_n hx hb dX6_parse_57 rfl (lv_at hl 0 rfl) ?_
      obtain ⟨S_14, hc_15, hZ⟩ := jx_b_some hZ
      refine call_Vv SX_ok sameX ⟨hx, hb, hml, hown, hts⟩ (c_X6_fail l D q k  S_9 _ S_14  hc_15) (cwV 0 hts gX6_parse_X6_fail rfl rfl rfl hd_X6_fail ⟨Nat.le_of_ble_eq_true rfl, Nat.le_of_ble_eq_true rfl⟩) hK hP hD hS hA hsp (va_recv hK hP (ci := 6) (q0 := 18) rfl wX_18) (As := []) rfl hl.1 rfl (Nat.le_of_ble_eq_true rfl) dX6_parse_58 ⟨Nat.zero_le _, Nat.zero_le _⟩ (fun H locs hP hD hS => ?_)
      exact j61 S_14 _ _ hZ hP hD hS _ (lv_sub hl [0] rfl)
  unfold f_X6_parse at hZ
  refine lv_aload_n hx hb dX6_parse_0 rfl (lv_at hl 0 rfl) ?_
  refine lv_iconst (v := (0 : Int32)) hx hb dX6_parse_1 (by decide) ?_
  obtain ⟨S_1, e_S_1, hZ⟩ := jx_l_some hZ
  refine pf_6_place hx hb hts in6 hown hK hP hD hS (hts (.fieldLink RX6 22 "CoinsOfLast$Reader" "place" "I") (List.mem_of_getElem? (i := 1) rfl)) e_S_1 dX6_parse_2 (fun H locs hP hD hS => ?_)
  refine lv_aload_n hx hb dX6_parse_5 rfl (lv_at hl 0 rfl) ?_
  refine lv_iconst (v := (0 : Int32)) hx hb dX6_parse_6 (by decide) ?_
  obtain ⟨S_2, e_S_2, hZ⟩ := jx_l_some hZ
  refine pf_6_codes hx hb hts in6 hown hK hP hD hS (hts (.fieldLink RX6 25 "CoinsOfLast$Reader" "codes" "I") (List.mem_of_getElem? (i := 2) rfl)) e_S_2 dX6_parse_7 (fun H locs hP hD hS => ?_)
  refine lv_aload_n hx hb dX6_parse_10 rfl (lv_at hl 0 rfl) ?_
  refine lv_iconst (v := (-1 : Int32)) hx hb dX6_parse_11 (by decide) ?_
  obtain ⟨S_3, e_S_3, hZ⟩ := jx_l_some hZ
  refine pf_6_fault hx hb hts in6 hown hK hP hD hS (hts (.fieldLink RX6 28 "CoinsOfLast$Reader" "fault" "I") (List.mem_of_getElem? (i := 3) rfl)) e_S_3 dX6_parse_12 (fun H locs hP hD hS => ?_)
  refine lv_aload_n hx hb dX6_parse_15 rfl (lv_at hl 0 rfl) ?_
  obtain ⟨S_4, hc_5, hZ⟩ := jx_b_some hZ
  refine call_Vv SX_ok sameX ⟨hx, hb, hml, hown, hts⟩ (c_X6_readLine l D q k  S_3 _ S_4  hc_5) (cwV 0 hts gX6_parse_X6_readLine rfl rfl rfl hd_X6_readLine ⟨Nat.le_of_ble_eq_true rfl, Nat.le_of_ble_eq_true rfl⟩) hK hP hD hS hA hsp (va_recv hK hP (ci := 6) (q0 := 18) rfl wX_18) (As := []) rfl hl.1 rfl (Nat.le_of_ble_eq_true rfl) dX6_parse_16 ⟨Nat.zero_le _, Nat.zero_le _⟩ (fun H locs hP hD hS => ?_)
  refine lv_iconst (v := (0 : Int32)) hx hb dX6_parse_19 (by decide) ?_
  refine lv_istore_n (lv' := [(1, .int (0 : Int32)), (0, .ref (q 18))]) hx hb dX6_parse_20 rfl hl (by decide) rfl (fun ls hl => ?_)
  obtain ⟨r_8, hw, hza_8⟩ := jx_b_some hZ
  have l_8 : ∀ (nn : Nat) (x1_6 : Int32) (S_7 : St) (H : Heap) (locs : List Loc) (hw : jx_w (g_X6_parse_21) nn (x1_6, S_7) = some r_8) (hP : va_P D vwCl (W_X q k S_7) H) (hD : va_D A (W_X q k S_7)) (hS : va_S A s.heap H locs) (ls : Array Slot) (hl : lv_has ls 2 [(0, .ref (q 18)), (1, .int x1_6)]), W p l e ({ frames := 182, cells := 0, slots := 0, locals := 4065 } : Room) s m ([.ref (q 18)] : List Value).toArray below meth c H locs 0 0 (MQ below (va_Qi (fun r u => (r, u) = Z) (fun u t => va_P D vwCl (W_X q k u) t.heap) A) ([.ref (q 18)] : List Value).toArray s 0 0 A) (F0 m 21 ls []) := by
    intro nn
    induction nn with
    | zero =>
      intro x1_6 S_7 H locs hw hP hD hS ls hl
      exact jx_w_zero hw
    | succ n_8 ih_8 =>
      intro x1_6 S_7 H locs hw hP hD hS ls hl
      obtain ⟨o_8, hZ, hk_8⟩ := jx_w_succ hw
      have hZ : b_X6_parse_21 x1_6 S_7 = some o_8 := hZ
      unfold b_X6_parse_21 at hZ
      refine lv_iload_n hx hb dX6_parse_21 rfl (lv_at hl 1 rfl) ?_
      refine lv_bipush (v := (120 : Int32)) hx hb dX6_parse_22 (by decide) ?_
      refine lv_icmp_ge (tgt := 46) hx hb dX6_parse_24 (by decide) (fun c_28 => ?_) (fun c_28 => ?_)
      · have hZ := jx_i_pos c_28 hZ
        have ho := Option.some.inj hZ
        subst ho
        have hE := hza_8
        rw [← (show S_7 = r_8 from hk_8)] at hE
        have hZ : f_X6_parse_46 S_7 = some Z := hE
        exact j46 S_7 _ _ hZ hP hD hS _ (lv_sub hl [0] rfl)
      · have hZ := jx_i_neg c_28 hZ
        refine lv_aload_n hx hb dX6_parse_27 rfl (lv_at hl 0 rfl) ?_
        refine lv_bipush (v := (59 : Int32)) hx hb dX6_parse_28 (by decide) ?_
        obtain ⟨r_32, S_30, hc_31, hZ⟩ := jx_b2_some hZ
        refine call_Vi SX_ok sameX ⟨hx, hb, hml, hown, hts⟩ (c_X6_goesOnWith l D q k (59 : Int32) S_7 _ (r_32, S_30)  hc_31) (cwV 1 hts gX6_parse_X6_goesOnWith rfl rfl rfl hd_X6_goesOnWith ⟨Nat.le_of_ble_eq_true rfl, Nat.le_of_ble_eq_true rfl⟩) hK hP hD hS hA hsp (va_recv hK hP (ci := 6) (q0 := 18) rfl wX_18) (As := [.int (59 : Int32)]) rfl hl.1 rfl (Nat.le_of_ble_eq_true rfl) dX6_parse_30 ⟨Nat.zero_le _, Nat.zero_le _⟩ (fun H locs hP hD hS => ?_)
        refine lv_if_eq (tgt := 46) hx hb dX6_parse_33 (by decide) (fun c_33 => ?_) (fun c_33 => ?_)
        · have hZ := jx_i_pos c_33 hZ
          have ho := Option.some.inj hZ
          subst ho
          have hE := hza_8
          rw [← (show S_30 = r_8 from hk_8)] at hE
          have hZ : f_X6_parse_46 S_30 = some Z := hE
          exact j46 S_30 _ _ hZ hP hD hS _ (lv_sub hl [0] rfl)
        · have hZ := jx_i_neg c_33 hZ
          refine lv_aload_n hx hb dX6_parse_36 rfl (lv_at hl 0 rfl) ?_
          obtain ⟨S_35, hc_36, hZ⟩ := jx_b_some hZ
          refine call_Vv SX_ok sameX ⟨hx, hb, hml, hown, hts⟩ (c_X6_readLine l D q k  S_30 _ S_35  hc_36) (cwV 0 hts gX6_parse_X6_readLine rfl rfl rfl hd_X6_readLine ⟨Nat.le_of_ble_eq_true rfl, Nat.le_of_ble_eq_true rfl⟩) hK hP hD hS hA hsp (va_recv hK hP (ci := 6) (q0 := 18) rfl wX_18) (As := []) rfl hl.1 rfl (Nat.le_of_ble_eq_true rfl) dX6_parse_37 ⟨Nat.zero_le _, Nat.zero_le _⟩ (fun H locs hP hD hS => ?_)
          obtain ⟨x1_37, e_x1_37, hZ⟩ := jx_l_some hZ
          refine lv_iinc (v := x1_37) (lv' := [(1, .int x1_37), (0, .ref (q 18))]) hx hb dX6_parse_40 hl (k := 1) rfl (by rw [e_x1_37]; rfl) (by decide) rfl (fun ls hl => ?_)
          refine lv_goto (tgt := 21) hx hb dX6_parse_43 (by decide) ?_
          have ho := Option.some.inj hZ
          subst ho
          exact ih_8 x1_37 S_35 _ _ hk_8 hP hD hS _ (lv_sub hl [1, 0] rfl)
  exact l_8 FU (0 : Int32) S_4 _ _ hw hP hD hS _ (lv_sub hl [1, 0] rfl)
-- X7_holdDeed
def f_X7_holdDeed_10 (t : Nat) (x1_2 : Int32) (s1_2 : Int32) (S_2 : St) : Option (St) :=
  jx_l (u1 S_2 (48 + 2 * t) 1 s1_2) (fun S_3 => jx_l (u1 S_3 (48 + 2 * t) 2 x1_2) (fun S_4 => jx_l (u1 S_4 (48 + 2 * t) 4 (0 : Int32)) (fun S_5 => some S_5)))
def f_X7_holdDeed (t : Nat) (x1 : Int32) (S : St) : Option (St) :=
  (if 0 ≤ x1 then f_X7_holdDeed_10 t x1 (1 : Int32) S else f_X7_holdDeed_10 t x1 (0 : Int32) S)
set_option maxHeartbeats 4000000 in
set_option maxRecDepth 100000 in
theorem c_X7_holdDeed (l : Launch) (D : va_G) (q : Nat → Nat) (k : CI) (t : Nat) (x1 : Int32) (S : St) (sz : Nat) (Z : St) (ht : t < 6) (hZ : f_X7_holdDeed t x1 S = some Z) : MetV W_X SX l yX7_holdDeed wsX7_holdDeed { frames := 0, cells := 0, slots := 0, locals := 0 } [.ref (q (48 + 2 * t)), .int x1] D q k S sz Z := by
  refine enter (cc := cX7_holdDeed) (maxL := 2) (ret := none) (by decide) rfl (Nat.le_of_ble_eq_true rfl) ?_
  intro p e s m below meth c A ls hx hb hr hts hown hlocks hml hP hK hD hA hS hsp hAe hl
  have hown : s.vm.findClass RX7 = some m.cls := hown
  have hl : lv_has ls 2 [(0, .ref (q (48 + 2 * t))), (1, .int x1)] := hl
  have in7 : ∀ w ∈ wsX70, w ∈ wsX7_holdDeed := fun _ h => (List.mem_cons_of_mem _ (List.mem_append_right _ h))
  have j10 : ∀ (x1_2 : Int32) (s1_2 : Int32) (S_2 : St)  (H : Heap) (locs : List Loc) (hZ : f_X7_holdDeed_10 t x1_2 s1_2 S_2 = some Z) (hP : va_P D vwCl (W_X q k S_2) H) (hD : va_D A (W_X q k S_2)) (hS : va_S A s.heap H locs) (ls : Array Slot) (hl : lv_has ls 2 [(0, .ref (q (48 + 2 * t))), (1, .int x1_2)]), W p l e ({ frames := 0, cells := 0, slots := 0, locals := 0 } : Room) s m ([.ref (q (48 + 2 * t)), .int x1] : List Value).toArray below meth c H locs 0 0 (MQ below (va_Qv (fun u => u = Z) (fun u t => va_P D vwCl (W_X q k u) t.heap) A) ([.ref (q (48 + 2 * t)), .int x1] : List Value).toArray s 0 0 A) (F0 m 10 ls [.int s1_2, .ref (q (48 + 2 * t))]) := by
    intro x1_2 s1_2 S_2   H locs hZ hP hD hS ls hl
    unfold f_X7_holdDeed_10 at hZ
    obtain ⟨S_3, e_S_3, hZ⟩ := jx_l_some hZ
    refine pf_7_holds ht hx hb hts in7 hown hK hP hD hS (hts (.fieldLink RX7 15 "CoinsOfLast$Shelf" "holds" "I") (List.mem_of_getElem? (i := 1) rfl)) e_S_3 dX7_holdDeed_10 (fun H locs hP hD hS => ?_)
    refine lv_aload_n hx hb dX7_holdDeed_13 rfl (lv_at hl 0 rfl) ?_
    refine lv_iload_n hx hb dX7_holdDeed_14 rfl (lv_at hl 1 rfl) ?_
    obtain ⟨S_4, e_S_4, hZ⟩ := jx_l_some hZ
    refine pf_7_deed ht hx hb hts in7 hown hK hP hD hS (hts (.fieldLink RX7 19 "CoinsOfLast$Shelf" "deed" "I") (List.mem_of_getElem? (i := 2) rfl)) e_S_4 dX7_holdDeed_15 (fun H locs hP hD hS => ?_)
    refine lv_aload_n hx hb dX7_holdDeed_18 rfl (lv_at hl 0 rfl) ?_
    refine lv_iconst (v := (0 : Int32)) hx hb dX7_holdDeed_19 (by decide) ?_
    obtain ⟨S_5, e_S_5, hZ⟩ := jx_l_some hZ
    refine pf_7_size ht hx hb hts in7 hown hK hP hD hS (hts (.fieldLink RX7 22 "CoinsOfLast$Shelf" "size" "I") (List.mem_of_getElem? (i := 3) rfl)) e_S_5 dX7_holdDeed_20 (fun H locs hP hD hS => ?_)
    exact leave_v hx hb hr hlocks hP hS hZ dX7_holdDeed_23
  unfold f_X7_holdDeed at hZ
  refine lv_aload_n hx hb dX7_holdDeed_0 rfl (lv_at hl 0 rfl) ?_
  refine lv_iload_n hx hb dX7_holdDeed_1 rfl (lv_at hl 1 rfl) ?_
  refine lv_if_ge (tgt := 9) hx hb dX7_holdDeed_2 (by decide) (fun c_1 => ?_) (fun c_1 => ?_)
  · have hZ := jx_i_pos c_1 hZ
    refine lv_iconst (v := (1 : Int32)) hx hb dX7_holdDeed_9 (by decide) ?_
    exact j10 x1 (1 : Int32) S _ _ hZ hP hD hS _ (lv_sub hl [0, 1] rfl)
  · have hZ := jx_i_neg c_1 hZ
    refine lv_iconst (v := (0 : Int32)) hx hb dX7_holdDeed_5 (by decide) ?_
    refine lv_goto (tgt := 10) hx hb dX7_holdDeed_6 (by decide) ?_
    exact j10 x1 (0 : Int32) S _ _ hZ hP hD hS _ (lv_sub hl [0, 1] rfl)
-- X11_bounded
def f_X11_bounded (x0 : Int32) (x1 : Int32) (x2 : Int32) (S : St) : Option (Int32 × St) :=
  some ((if x1 < (if x0 < x2 then x0 else x2) then (if x0 < x2 then x0 else x2) else x1), S)
set_option maxHeartbeats 4000000 in
set_option maxRecDepth 100000 in
theorem c_X11_bounded (l : Launch) (D : va_G) (q : Nat → Nat) (k : CI) (x0 : Int32) (x1 : Int32) (x2 : Int32) (S : St) (sz : Nat) (Z : Int32 × St) (hZ : f_X11_bounded x0 x1 x2 S = some Z) : MetI W_X SX l yX11_bounded wsX11_bounded { frames := 1, cells := 0, slots := 0, locals := 21 } [.int x0, .int x1, .int x2] D q k S sz Z := by
  refine enter (cc := cX11_bounded) (maxL := 3) (ret := some .int) (by decide) rfl (Nat.le_of_ble_eq_true rfl) ?_
  intro p e s m below meth c A ls hx hb hr hts hown hlocks hml hP hK hD hA hS hsp hAe hl
  have hown : s.vm.findClass RX11 = some m.cls := hown
  have hl : lv_has ls 3 [(0, .int x0), (1, .int x1), (2, .int x2)] := hl
  unfold f_X11_bounded at hZ
  refine lv_iload_n hx hb dX11_bounded_0 rfl (lv_at hl 1 rfl) ?_
  refine lv_iload_n hx hb dX11_bounded_1 rfl (lv_at hl 2 rfl) ?_
  refine lv_iload_n hx hb dX11_bounded_2 rfl (lv_at hl 0 rfl) ?_
  refine va_mmin hx hb (hml.trans hl.1.symm) hown (hts _ (List.mem_of_getElem? (i := 1) rfl)) (hts _ (List.mem_of_getElem? (i := 2) rfl)) (hts _ (List.mem_of_getElem? (i := 3) rfl)) (hts _ (List.mem_of_getElem? (i := 4) rfl)) (Nat.le_of_ble_eq_true rfl) (Nat.le_of_ble_eq_true rfl) (Nat.zero_le _) (Nat.zero_le _) dX11_bounded_3 ?_
  refine va_mmax hx hb (hml.trans hl.1.symm) hown (hts _ (List.mem_of_getElem? (i := 5) rfl)) (hts _ (List.mem_of_getElem? (i := 6) rfl)) (hts _ (List.mem_of_getElem? (i := 3) rfl)) (hts _ (List.mem_of_getElem? (i := 7) rfl)) (Nat.le_of_ble_eq_true rfl) (Nat.le_of_ble_eq_true rfl) (Nat.zero_le _) (Nat.zero_le _) dX11_bounded_6 ?_
  exact leave_i hx hb hr hlocks hP hS hZ dX11_bounded_9
theorem hd_X11_bounded : yX11_bounded.cls ≠ "java/lang/invoke/MethodHandle" ∧ yX11_bounded.cls ≠ "java/lang/invoke/VarHandle" ∧ (parseMethodDescriptor yX11_bounded.desc).map (fun d => d.parameters.length) = some 3 := by decide +kernel
-- X7_holdRow
def f_X7_holdRow (t : Nat) (x1 : Int32) (x2 : Int32) (S : St) : Option (St) :=
  jx_l (u1 S (48 + 2 * t) 1 (2 : Int32)) (fun S_1 => jx_l (u1 S_1 (48 + 2 * t) 3 x1) (fun S_2 => jx_b2 (f_X11_bounded x2 (0 : Int32) (60 : Int32) S_2) (fun r_5 S_3 => jx_l (u1 S_3 (48 + 2 * t) 4 r_5) (fun S_6 => jx_b (f_J7_fill_d0a16s t (0 : Int64) S_6) (fun S_7 => some S_7)))))
theorem gX7_holdRow_X11_bounded : GoodIn wsX7_holdRow wsX11_bounded := goodIn_r _ [7, 8, 9, 10, 11, 12, 13, 14] rfl (by decide +kernel)
set_option maxHeartbeats 4000000 in
set_option maxRecDepth 100000 in
theorem c_X7_holdRow (l : Launch) (D : va_G) (q : Nat → Nat) (k : CI) (t : Nat) (x1 : Int32) (x2 : Int32) (S : St) (sz : Nat) (Z : St) (ht : t < 6) (hZ : f_X7_holdRow t x1 x2 S = some Z) : MetV W_X SX l yX7_holdRow wsX7_holdRow { frames := 2, cells := 0, slots := 0, locals := 43 } [.ref (q (48 + 2 * t)), .int x1, .int x2] D q k S sz Z := by
  refine enter (cc := cX7_holdRow) (maxL := 3) (ret := none) (by decide) rfl (Nat.le_of_ble_eq_true rfl) ?_
  intro p e s m below meth c A ls hx hb hr hts hown hlocks hml hP hK hD hA hS hsp hAe hl
  have hown : s.vm.findClass RX7 = some m.cls := hown
  have hl : lv_has ls 3 [(0, .ref (q (48 + 2 * t))), (1, .int x1), (2, .int x2)] := hl
  have in7 : ∀ w ∈ wsX70, w ∈ wsX7_holdRow := fun _ h => (List.mem_cons_of_mem _ (List.mem_append_right _ h))
  unfold f_X7_holdRow at hZ
  refine lv_aload_n hx hb dX7_holdRow_0 rfl (lv_at hl 0 rfl) ?_
  refine lv_iconst (v := (2 : Int32)) hx hb dX7_holdRow_1 (by decide) ?_
  obtain ⟨S_1, e_S_1, hZ⟩ := jx_l_some hZ
  refine pf_7_holds ht hx hb hts in7 hown hK hP hD hS (hts (.fieldLink RX7 15 "CoinsOfLast$Shelf" "holds" "I") (List.mem_of_getElem? (i := 1) rfl)) e_S_1 dX7_holdRow_2 (fun H locs hP hD hS => ?_)
  refine lv_aload_n hx hb dX7_holdRow_5 rfl (lv_at hl 0 rfl) ?_
  refine lv_iload_n hx hb dX7_holdRow_6 rfl (lv_at hl 1 rfl) ?_
  obtain ⟨S_2, e_S_2, hZ⟩ := jx_l_some hZ
  refine pf_7_sort ht hx hb hts in7 hown hK hP hD hS (hts (.fieldLink RX7 25 "CoinsOfLast$Shelf" "sort" "I") (List.mem_of_getElem? (i := 2) rfl)) e_S_2 dX7_holdRow_7 (fun H locs hP hD hS => ?_)
  refine lv_aload_n hx hb dX7_holdRow_10 rfl (lv_at hl 0 rfl) ?_
  refine lv_iload_n hx hb dX7_holdRow_11 rfl (lv_at hl 2 rfl) ?_
  refine lv_iconst (v := (0 : Int32)) hx hb dX7_holdRow_12 (by decide) ?_
  refine lv_bipush (v := (60 : Int32)) hx hb dX7_holdRow_13 (by decide) ?_
  obtain ⟨r_5, S_3, hc_4, hZ⟩ := jx_b2_some hZ
  refine call_Ni SX_ok sameX ⟨hx, hb, hml, hown, hts⟩ (c_X11_bounded l D q k x2 (0 : Int32) (60 : Int32) S_2 _ (r_5, S_3)  hc_4) (va_cnB 3 hts gX7_holdRow_X11_bounded rfl rfl rfl (hsp.1 _ (List.mem_of_getElem? (i := 76) rfl)) (hts _ (List.mem_of_getElem? (i := 6) rfl)) hd_X11_bounded ⟨Nat.le_of_ble_eq_true rfl, Nat.le_of_ble_eq_true rfl⟩) (hts _ (List.mem_of_getElem? (i := 5) rfl)) hK hP hD hS hA hsp (As := [.int x2, .int (0 : Int32), .int (60 : Int32)]) rfl hl.1 rfl (Nat.le_of_ble_eq_true rfl) dX7_holdRow_15 ⟨Nat.zero_le _, Nat.zero_le _⟩ (fun H locs hP hD hS => ?_)
  obtain ⟨S_6, e_S_6, hZ⟩ := jx_l_some hZ
  refine pf_7_size ht hx hb hts in7 hown hK hP hD hS (hts (.fieldLink RX7 22 "CoinsOfLast$Shelf" "size" "I") (List.mem_of_getElem? (i := 3) rfl)) e_S_6 dX7_holdRow_18 (fun H locs hP hD hS => ?_)
  refine lv_aload_n hx hb dX7_holdRow_21 rfl (lv_at hl 0 rfl) ?_
  refine gf_7_cells ht hx hb hts in7 hown hK hP (hts (.fieldLink RX7 9 "CoinsOfLast$Shelf" "cells" "[J") (List.mem_of_getElem? (i := 4) rfl)) dX7_holdRow_22 ?_
  refine lv_lconst (v := (0 : Int64)) hx hb dX7_holdRow_25 (by decide) ?_
  obtain ⟨S_7, hc_8, hZ⟩ := jx_b_some hZ
  refine call_Sv SX_ok sameX ⟨hx, hb, hml, hown, hts⟩ (c_J7_fill_d0a16s l D q k t (0 : Int64) S_6 _ S_7 ht hc_8) (va_cwS 2 hts gX7_holdRow_J7_fill_d0a16 rfl rfl rfl hd_J7_fill_d0a16 ⟨Nat.le_of_ble_eq_true rfl, Nat.le_of_ble_eq_true rfl⟩) hK hP hD hS hA hsp (As := [.ref (q (48 + 2 * t + 1)), .long (0 : Int64)]) rfl hl.1 rfl (Nat.le_of_ble_eq_true rfl) dX7_holdRow_26 ⟨Nat.zero_le _, Nat.zero_le _⟩ (fun H locs hP hD hS => ?_)
  exact leave_v hx hb hr hlocks hP hS hZ dX7_holdRow_29
-- X7_spans
def f_X7_spans (t : Nat) (x1 : Int32) (x2 : Int32) (S : St) : Option (Int32 × St) :=
  (if x1 < 0 then some ((0 : Int32), S) else (if x2 < 0 then some ((0 : Int32), S) else (if (S.1 (48 + 2 * t) 4) < x1 then some ((0 : Int32), S) else (if ((S.1 (48 + 2 * t) 4) - x1) < x2 then some ((0 : Int32), S) else some ((1 : Int32), S)))))
set_option maxHeartbeats 4000000 in
set_option maxRecDepth 100000 in
theorem c_X7_spans (l : Launch) (D : va_G) (q : Nat → Nat) (k : CI) (t : Nat) (x1 : Int32) (x2 : Int32) (S : St) (sz : Nat) (Z : Int32 × St) (ht : t < 6) (hZ : f_X7_spans t x1 x2 S = some Z) : MetI W_X SX l yX7_spans wsX7_spans { frames := 0, cells := 0, slots := 0, locals := 0 } [.ref (q (48 + 2 * t)), .int x1, .int x2] D q k S sz Z := by
  refine enter (cc := cX7_spans) (maxL := 3) (ret := some .boolean) (by decide) rfl (Nat.le_of_ble_eq_true rfl) ?_
  intro p e s m below meth c A ls hx hb hr hts hown hlocks hml hP hK hD hA hS hsp hAe hl
  have hown : s.vm.findClass RX7 = some m.cls := hown
  have hl : lv_has ls 3 [(0, .ref (q (48 + 2 * t))), (1, .int x1), (2, .int x2)] := hl
  have in7 : ∀ w ∈ wsX70, w ∈ wsX7_spans := fun _ h => (List.mem_cons_of_mem _ (List.mem_append_right _ h))
  unfold f_X7_spans at hZ
  refine lv_iload_n hx hb dX7_spans_0 rfl (lv_at hl 1 rfl) ?_
  refine lv_if_lt (tgt := 30) hx hb dX7_spans_1 (by decide) (fun c_1 => ?_) (fun c_1 => ?_)
  · have hZ := jx_i_pos c_1 hZ
    refine lv_iconst (v := (0 : Int32)) hx hb dX7_spans_30 (by decide) ?_
    exact leave_z hx hb hr hlocks rfl hP hS hZ dX7_spans_31
  · have hZ := jx_i_neg c_1 hZ
    refine lv_iload_n hx hb dX7_spans_4 rfl (lv_at hl 2 rfl) ?_
    refine lv_if_lt (tgt := 30) hx hb dX7_spans_5 (by decide) (fun c_2 => ?_) (fun c_2 => ?_)
    · have hZ := jx_i_pos c_2 hZ
      refine lv_iconst (v := (0 : Int32)) hx hb dX7_spans_30 (by decide) ?_
      exact leave_z hx hb hr hlocks rfl hP hS hZ dX7_spans_31
    · have hZ := jx_i_neg c_2 hZ
      refine lv_iload_n hx hb dX7_spans_8 rfl (lv_at hl 1 rfl) ?_
      refine lv_aload_n hx hb dX7_spans_9 rfl (lv_at hl 0 rfl) ?_
      refine gf_7_size ht hx hb hts in7 hown hK hP (hts (.fieldLink RX7 22 "CoinsOfLast$Shelf" "size" "I") (List.mem_of_getElem? (i := 1) rfl)) dX7_spans_10 ?_
      refine lv_icmp_gt (tgt := 30) hx hb dX7_spans_13 (by decide) (fun c_3 => ?_) (fun c_3 => ?_)
      · have hZ := jx_i_pos c_3 hZ
        refine lv_iconst (v := (0 : Int32)) hx hb dX7_spans_30 (by decide) ?_
        exact leave_z hx hb hr hlocks rfl hP hS hZ dX7_spans_31
      · have hZ := jx_i_neg c_3 hZ
        refine lv_iload_n hx hb dX7_spans_16 rfl (lv_at hl 2 rfl) ?_
        refine lv_aload_n hx hb dX7_spans_17 rfl (lv_at hl 0 rfl) ?_
        refine gf_7_size ht hx hb hts in7 hown hK hP (hts (.fieldLink RX7 22 "CoinsOfLast$Shelf" "size" "I") (List.mem_of_getElem? (i := 1) rfl)) dX7_spans_18 ?_
        refine lv_iload_n hx hb dX7_spans_21 rfl (lv_at hl 1 rfl) ?_
        refine lv_isub hx hb dX7_spans_22 ?_
        refine lv_icmp_gt (tgt := 30) hx hb dX7_spans_23 (by decide) (fun c_4 => ?_) (fun c_4 => ?_)
        · have hZ := jx_i_pos c_4 hZ
          refine lv_iconst (v := (0 : Int32)) hx hb dX7_spans_30 (by decide) ?_
          exact leave_z hx hb hr hlocks rfl hP hS hZ dX7_spans_31
        · have hZ := jx_i_neg c_4 hZ
          refine lv_iconst (v := (1 : Int32)) hx hb dX7_spans_26 (by decide) ?_
          refine lv_goto (tgt := 31) hx hb dX7_spans_27 (by decide) ?_
          exact leave_z hx hb hr hlocks rfl hP hS hZ dX7_spans_31
-- X7_lowest
def f_X7_lowest (t : Nat) (x1 : Int64) (S : St) : Option (Int64 × St) :=
  (if (S.1 (48 + 2 * t) 3) = (0 : Int32) then some ((Int32.toInt64 ((Int32.toInt8 (Int64.toInt32 x1)).toInt32)), S) else if (S.1 (48 + 2 * t) 3) = (1 : Int32) then some ((Int32.toInt64 ((Int32.toInt16 (Int64.toInt32 x1)).toInt32)), S) else if (S.1 (48 + 2 * t) 3) = (2 : Int32) then some ((Int32.toInt64 (Int64.toInt32 x1)), S) else if (S.1 (48 + 2 * t) 3) = (3 : Int32) then some (x1, S) else (if (lg_cmp x1 (0 : Int64)) = 0 then some ((0 : Int64), S) else some ((1 : Int64), S)))
set_option maxHeartbeats 4000000 in
set_option maxRecDepth 100000 in
theorem c_X7_lowest (l : Launch) (D : va_G) (q : Nat → Nat) (k : CI) (t : Nat) (x1 : Int64) (S : St) (sz : Nat) (Z : Int64 × St) (ht : t < 6) (hZ : f_X7_lowest t x1 S = some Z) : MetL W_X SX l yX7_lowest wsX7_lowest { frames := 0, cells := 0, slots := 0, locals := 0 } [.ref (q (48 + 2 * t)), .long x1] D q k S sz Z := by
  refine enter (cc := cX7_lowest) (maxL := 3) (ret := some .long) (by decide) rfl (Nat.le_of_ble_eq_true rfl) ?_
  intro p e s m below meth c A ls hx hb hr hts hown hlocks hml hP hK hD hA hS hsp hAe hl
  have hown : s.vm.findClass RX7 = some m.cls := hown
  have hl : lv_has ls 3 [(0, .ref (q (48 + 2 * t))), (1, .long x1)] := hl
  have in7 : ∀ w ∈ wsX70, w ∈ wsX7_lowest := fun _ h => (List.mem_cons_of_mem _ (List.mem_append_right _ h))
  unfold f_X7_lowest at hZ
  refine lv_aload_n hx hb dX7_lowest_0 rfl (lv_at hl 0 rfl) ?_
  refine gf_7_sort ht hx hb hts in7 hown hK hP (hts (.fieldLink RX7 25 "CoinsOfLast$Shelf" "sort" "I") (List.mem_of_getElem? (i := 1) rfl)) dX7_lowest_1 ?_
  by_cases c_1 : (S.1 (48 + 2 * t) 3) = (0 : Int32)
  · have hZ := jx_i_pos c_1 hZ
    refine lv_tableIn (tgt := 36) hx hb dX7_lowest_4 (by rw [c_1]; decide) (by rw [c_1]; decide) (by rw [c_1]; rfl) (by decide) ?_
    refine lv_lload_n hx hb dX7_lowest_36 rfl (lv_at hl 1 rfl) ?_
    refine lv_l2i (v := (Int64.toInt32 x1)) hx hb dX7_lowest_37 rfl ?_
    refine lv_i2b (v := ((Int32.toInt8 (Int64.toInt32 x1)).toInt32)) hx hb dX7_lowest_38 rfl ?_
    refine lv_i2l (v := (Int32.toInt64 ((Int32.toInt8 (Int64.toInt32 x1)).toInt32))) hx hb dX7_lowest_39 rfl ?_
    exact leave_l hx hb hr hlocks hP hS hZ dX7_lowest_40
  have hZ := jx_i_neg c_1 hZ
  by_cases c_2 : (S.1 (48 + 2 * t) 3) = (1 : Int32)
  · have hZ := jx_i_pos c_2 hZ
    refine lv_tableIn (tgt := 41) hx hb dX7_lowest_4 (by rw [c_2]; decide) (by rw [c_2]; decide) (by rw [c_2]; rfl) (by decide) ?_
    refine lv_lload_n hx hb dX7_lowest_41 rfl (lv_at hl 1 rfl) ?_
    refine lv_l2i (v := (Int64.toInt32 x1)) hx hb dX7_lowest_42 rfl ?_
    refine lv_i2s (v := ((Int32.toInt16 (Int64.toInt32 x1)).toInt32)) hx hb dX7_lowest_43 rfl ?_
    refine lv_i2l (v := (Int32.toInt64 ((Int32.toInt16 (Int64.toInt32 x1)).toInt32))) hx hb dX7_lowest_44 rfl ?_
    exact leave_l hx hb hr hlocks hP hS hZ dX7_lowest_45
  have hZ := jx_i_neg c_2 hZ
  by_cases c_3 : (S.1 (48 + 2 * t) 3) = (2 : Int32)
  · have hZ := jx_i_pos c_3 hZ
    refine lv_tableIn (tgt := 46) hx hb dX7_lowest_4 (by rw [c_3]; decide) (by rw [c_3]; decide) (by rw [c_3]; rfl) (by decide) ?_
    refine lv_lload_n hx hb dX7_lowest_46 rfl (lv_at hl 1 rfl) ?_
    refine lv_l2i (v := (Int64.toInt32 x1)) hx hb dX7_lowest_47 rfl ?_
    refine lv_i2l (v := (Int32.toInt64 (Int64.toInt32 x1))) hx hb dX7_lowest_48 rfl ?_
    exact leave_l hx hb hr hlocks hP hS hZ dX7_lowest_49
  have hZ := jx_i_neg c_3 hZ
  by_cases c_4 : (S.1 (48 + 2 * t) 3) = (3 : Int32)
  · have hZ := jx_i_pos c_4 hZ
    refine lv_tableIn (tgt := 50) hx hb dX7_lowest_4 (by rw [c_4]; decide) (by rw [c_4]; decide) (by rw [c_4]; rfl) (by decide) ?_
    refine lv_lload_n hx hb dX7_lowest_50 rfl (lv_at hl 1 rfl) ?_
    exact leave_l hx hb hr hlocks hP hS hZ dX7_lowest_51
  have hZ := jx_i_neg c_4 hZ
  refine lv_tableD (tgt := 52) hx hb dX7_lowest_4 ?_ (by decide) ?_
  · have t_0 : ¬ Int32.toInt (S.1 (48 + 2 * t) 3) = 0 := lv_neT c_1 rfl
    have t_1 : ¬ Int32.toInt (S.1 (48 + 2 * t) 3) = 1 := lv_neT c_2 rfl
    have t_2 : ¬ Int32.toInt (S.1 (48 + 2 * t) 3) = 2 := lv_neT c_3 rfl
    have t_3 : ¬ Int32.toInt (S.1 (48 + 2 * t) 3) = 3 := lv_neT c_4 rfl
    by_cases a1 : Int32.toInt (S.1 (48 + 2 * t) 3) < 0
    · exact Or.inl (Or.inl a1)
    by_cases a2 : 3 < Int32.toInt (S.1 (48 + 2 * t) 3)
    · exact Or.inl (Or.inr a2)
    exfalso; omega
  · refine lv_lload_n hx hb dX7_lowest_52 rfl (lv_at hl 1 rfl) ?_
    refine lv_lconst (v := (0 : Int64)) hx hb dX7_lowest_53 (by decide) ?_
    refine W.lcmp hx hb dX7_lowest_54 ?_
    refine lv_if_eq (tgt := 62) hx hb dX7_lowest_55 (by decide) (fun c_5 => ?_) (fun c_5 => ?_)
    · have hZ := jx_i_pos c_5 hZ
      refine lv_lconst (v := (0 : Int64)) hx hb dX7_lowest_62 (by decide) ?_
      exact leave_l hx hb hr hlocks hP hS hZ dX7_lowest_63
    · have hZ := jx_i_neg c_5 hZ
      refine lv_lconst (v := (1 : Int64)) hx hb dX7_lowest_58 (by decide) ?_
      refine lv_goto (tgt := 63) hx hb dX7_lowest_59 (by decide) ?_
      exact leave_l hx hb hr hlocks hP hS hZ dX7_lowest_63
theorem hd_X7_lowest : yX7_lowest.cls = RX7 ∧ yX7_lowest.cls ≠ "java/lang/invoke/MethodHandle" ∧ yX7_lowest.cls ≠ "java/lang/invoke/VarHandle" ∧ (parseMethodDescriptor yX7_lowest.desc).map (fun d => d.parameters.length) = some 1 := by decide +kernel
theorem hd_X7_spans : yX7_spans.cls = RX7 ∧ yX7_spans.cls ≠ "java/lang/invoke/MethodHandle" ∧ yX7_spans.cls ≠ "java/lang/invoke/VarHandle" ∧ (parseMethodDescriptor yX7_spans.desc).map (fun d => d.parameters.length) = some 2 := by decide +kernel
-- X7_store
def f_X7_store (t : Nat) (x1 : Int32) (x2 : Int64) (S : St) : Option (St) :=
  jx_b2 (f_X7_spans t x1 (1 : Int32) S) (fun r_3 S_1 => (if r_3 = 0 then some S_1 else jx_b2 (f_X7_lowest t x2 S_1) (fun r_7 S_5 => jx_a x1 60 (jx_l (u2 S_5 (48 + 2 * t + 1) (Int32.toNatClampNeg x1) r_7) (fun S_9 => some S_9)))))
set_option maxHeartbeats 4000000 in
set_option maxRecDepth 100000 in
theorem c_X7_store (l : Launch) (D : va_G) (q : Nat → Nat) (k : CI) (t : Nat) (x1 : Int32) (x2 : Int64) (S : St) (sz : Nat) (Z : St) (ht : t < 6) (hZ : f_X7_store t x1 x2 S = some Z) : MetV W_X SX l yX7_store wsX7_store { frames := 1, cells := 0, slots := 0, locals := 22 } [.ref (q (48 + 2 * t)), .int x1, .long x2] D q k S sz Z := by
  refine enter (cc := cX7_store) (maxL := 4) (ret := none) (by decide) rfl (Nat.le_of_ble_eq_true rfl) ?_
  intro p e s m below meth c A ls hx hb hr hts hown hlocks hml hP hK hD hA hS hsp hAe hl
  have hown : s.vm.findClass RX7 = some m.cls := hown
  have hl : lv_has ls 4 [(0, .ref (q (48 + 2 * t))), (1, .int x1), (2, .long x2)] := hl
  have in7 : ∀ w ∈ wsX70, w ∈ wsX7_store := fun _ h => (List.mem_cons_of_mem _ (List.mem_append_right _ h))
  unfold f_X7_store at hZ
  refine lv_aload_n hx hb dX7_store_0 rfl (lv_at hl 0 rfl) ?_
  refine lv_iload_n hx hb dX7_store_1 rfl (lv_at hl 1 rfl) ?_
  refine lv_iconst (v := (1 : Int32)) hx hb dX7_store_2 (by decide) ?_
  obtain ⟨r_3, S_1, hc_2, hZ⟩ := jx_b2_some hZ
  refine call_Vi SX_ok sameX ⟨hx, hb, hml, hown, hts⟩ (c_X7_spans l D q k t x1 (1 : Int32) S _ (r_3, S_1) ht hc_2) (cwV 2 hts gX7_store_X7_spans rfl rfl rfl hd_X7_spans ⟨Nat.le_of_ble_eq_true rfl, Nat.le_of_ble_eq_true rfl⟩) hK hP hD hS hA hsp (va_recv hK hP (ci := 7) (q0 := (48 + 2 * t)) rfl (wX_o7 ht)) (As := [.int x1, .int (1 : Int32)]) rfl hl.1 rfl (Nat.le_of_ble_eq_true rfl) dX7_store_3 ⟨Nat.zero_le _, Nat.zero_le _⟩ (fun H locs hP hD hS => ?_)
  refine lv_if_eq (tgt := 20) hx hb dX7_store_6 (by decide) (fun c_4 => ?_) (fun c_4 => ?_)
  · have hZ := jx_i_pos c_4 hZ
    exact leave_v hx hb hr hlocks hP hS hZ dX7_store_20
  · have hZ := jx_i_neg c_4 hZ
    refine lv_aload_n hx hb dX7_store_9 rfl (lv_at hl 0 rfl) ?_
    refine gf_7_cells ht hx hb hts in7 hown hK hP (hts (.fieldLink RX7 9 "CoinsOfLast$Shelf" "cells" "[J") (List.mem_of_getElem? (i := 1) rfl)) dX7_store_10 ?_
    refine lv_iload_n hx hb dX7_store_13 rfl (lv_at hl 1 rfl) ?_
    refine lv_aload_n hx hb dX7_store_14 rfl (lv_at hl 0 rfl) ?_
    refine lv_lload_n hx hb dX7_store_15 rfl (lv_at hl 2 rfl) ?_
    obtain ⟨r_7, S_5, hc_6, hZ⟩ := jx_b2_some hZ
    refine call_Vl SX_ok sameX ⟨hx, hb, hml, hown, hts⟩ (c_X7_lowest l D q k t x2 S_1 _ (r_7, S_5) ht hc_6) (cwV 1 hts gX7_store_X7_lowest rfl rfl rfl hd_X7_lowest ⟨Nat.le_of_ble_eq_true rfl, Nat.le_of_ble_eq_true rfl⟩) hK hP hD hS hA hsp (va_recv hK hP (ci := 7) (q0 := (48 + 2 * t)) rfl (wX_o7 ht)) (As := [.long x2]) rfl hl.1 rfl (Nat.le_of_ble_eq_true rfl) dX7_store_16 ⟨Nat.zero_le _, Nat.zero_le _⟩ (fun H locs hP hD hS => ?_)
    obtain ⟨c_8, hZ⟩ := jx_a_some hZ
    obtain ⟨S_9, e_S_9, hZ⟩ := jx_l_some hZ
    refine X_last hx hb hK hP hD hS (wX_a7_cells ht) (fun _ => wXs_a7_cells ht) c_8 e_S_9 dX7_store_19 (fun H locs hP hD hS => ?_)
    exact leave_v hx hb hr hlocks hP hS hZ dX7_store_20
-- X8_become
def f_X8_become_50 (t : Nat) (S_5 : St) : Option (St) :=
  jx_l (u1 S_5 (40 + 4 * t) 4 (1 : Int32)) (fun S_6 => some S_6)
def b_X8_become_7 (t : Nat) (x2 : Int32) (x3 : Int32) (S : St) : Option ((Int32 × St) ⊕ (St)) :=
  (if x2 ≤ x3 then some (.inr S) else (if (128 : Int32) ≤ x3 then some (.inr S) else (if (128 : Int32) ≤ x3 then some (.inr S) else jx_a x3 128 (jx_a x3 128 (jx_l (u1 S (40 + 4 * t + 1) (Int32.toNatClampNeg x3) (S.1 20 (Int32.toNatClampNeg x3))) (fun S_16 => jx_l (u1 S_16 (40 + 4 * t) 3 ((S_16.1 (40 + 4 * t) 3) + (1 : Int32))) (fun S_17 => jx_l (x3 + 1) (fun x3_18 => some (.inl (x3_18, S_17))))))))))
def g_X8_become_7 (t : Nat) (x2 : Int32) : (Int32 × St) → Option ((Int32 × St) ⊕ (St)) := fun z => b_X8_become_7 t x2 z.1 z.2
def f_X8_become (t : Nat) (x2 : Int32) (S : St) : Option (St) :=
  jx_l (u1 S (40 + 4 * t) 3 (0 : Int32)) (fun S_1 => jx_b (jx_w (g_X8_become_7 t x2) FU ((0 : Int32), S_1)) (fun z => f_X8_become_50 t z))
set_option maxHeartbeats 4000000 in
set_option maxRecDepth 100000 in
theorem c_X8_become (l : Launch) (D : va_G) (q : Nat → Nat) (k : CI) (t : Nat) (x2 : Int32) (S : St) (sz : Nat) (Z : St) (ht : t < 2) (hZ : f_X8_become t x2 S = some Z) : MetV W_X SX l yX8_become wsX8_become { frames := 0, cells := 0, slots := 0, locals := 0 } [.ref (q (40 + 4 * t)), .ref (q 20), .int x2] D q k S sz Z := by
  refine enter (cc := cX8_become) (maxL := 4) (ret := none) (by decide) rfl (Nat.le_of_ble_eq_true rfl) ?_
  intro p e s m below meth c A ls hx hb hr hts hown hlocks hml hP hK hD hA hS hsp hAe hl
  have hown : s.vm.findClass RX8 = some m.cls := hown
  have hl : lv_has ls 4 [(0, .ref (q (40 + 4 * t))), (1, .ref (q 20)), (2, .int x2)] := hl
  have in8 : ∀ w ∈ wsX80, w ∈ wsX8_become := fun _ h => (List.mem_cons_of_mem _ (List.mem_append_right _ h))
  have j50 : ∀ (S_5 : St)  (H : Heap) (locs : List Loc) (hZ : f_X8_become_50 t S_5 = some Z) (hP : va_P D vwCl (W_X q k S_5) H) (hD : va_D A (W_X q k S_5)) (hS : va_S A s.heap H locs) (ls : Array Slot) (hl : lv_has ls 4 [(0, .ref (q (40 + 4 * t)))]), W p l e ({ frames := 0, cells := 0, slots := 0, locals := 0 } : Room) s m ([.ref (q (40 + 4 * t)), .ref (q 20), .int x2] : List Value).toArray below meth c H locs 0 0 (MQ below (va_Qv (fun u => u = Z) (fun u t => va_P D vwCl (W_X q k u) t.heap) A) ([.ref (q (40 + 4 * t)), .ref (q 20), .int x2] : List Value).toArray s 0 0 A) (F0 m 50 ls []) := by
    intro S_5   H locs hZ hP hD hS ls hl
    unfold f_X8_become_50 at hZ
    refine lv_aload_n hx hb dX8_become_50 rfl (lv_at hl 0 rfl) ?_
    refine lv_iconst (v := (1 : Int32)) hx hb dX8_become_51 (by decide) ?_
    obtain ⟨S_6, e_S_6, hZ⟩ := jx_l_some hZ
    refine pf_8_there ht hx hb hts in8 hown hK hP hD hS (hts (.fieldLink RX8 25 "CoinsOfLast$Text" "there" "Z") (List.mem_of_getElem? (i := 3) rfl)) rfl rfl e_S_6 dX8_become_52 (fun H locs hP hD hS => ?_)
    exact leave_v hx hb hr hlocks hP hS hZ dX8_become_55
  unfold f_X8_become at hZ
  refine lv_aload_n hx hb dX8_become_0 rfl (lv_at hl 0 rfl) ?_
  refine lv_iconst (v := (0 : Int32)) hx hb dX8_become_1 (by decide) ?_
  obtain ⟨S_1, e_S_1, hZ⟩ := jx_l_some hZ
  refine pf_8_codes ht hx hb hts in8 hown hK hP hD hS (hts (.fieldLink RX8 21 "CoinsOfLast$Text" "codes" "I") (List.mem_of_getElem? (i := 1) rfl)) e_S_1 dX8_become_2 (fun H locs hP hD hS => ?_)
  refine lv_iconst (v := (0 : Int32)) hx hb dX8_become_5 (by decide) ?_
  refine lv_istore_n (lv' := [(3, .int (0 : Int32)), (0, .ref (q (40 + 4 * t))), (1, .ref (q 20)), (2, .int x2)]) hx hb dX8_become_6 rfl hl (by decide) rfl (fun ls hl => ?_)
  obtain ⟨r_4, hw, hza_4⟩ := jx_b_some hZ
  have l_4 : ∀ (nn : Nat) (x3_2 : Int32) (S_3 : St) (H : Heap) (locs : List Loc) (hw : jx_w (g_X8_become_7 t x2) nn (x3_2, S_3) = some r_4) (hP : va_P D vwCl (W_X q k S_3) H) (hD : va_D A (W_X q k S_3)) (hS : va_S A s.heap H locs) (ls : Array Slot) (hl : lv_has ls 4 [(0, .ref (q (40 + 4 * t))), (1, .ref (q 20)), (2, .int x2), (3, .int x3_2)]), W p l e ({ frames := 0, cells := 0, slots := 0, locals := 0 } : Room) s m ([.ref (q (40 + 4 * t)), .ref (q 20), .int x2] : List Value).toArray below meth c H locs 0 0 (MQ below (va_Qv (fun u => u = Z) (fun u t => va_P D vwCl (W_X q k u) t.heap) A) ([.ref (q (40 + 4 * t)), .ref (q 20), .int x2] : List Value).toArray s 0 0 A) (F0 m 7 ls []) := by
    intro nn
    induction nn with
    | zero =>
      intro x3_2 S_3 H locs hw hP hD hS ls hl
      exact jx_w_zero hw
    | succ n_4 ih_4 =>
      intro x3_2 S_3 H locs hw hP hD hS ls hl
      obtain ⟨o_4, hZ, hk_4⟩ := jx_w_succ hw
      have hZ : b_X8_become_7 t x2 x3_2 S_3 = some o_4 := hZ
      unfold b_X8_become_7 at hZ
      refine lv_iload_n hx hb dX8_become_7 rfl (lv_at hl 3 rfl) ?_
      refine lv_iload_n hx hb dX8_become_8 rfl (lv_at hl 2 rfl) ?_
      refine lv_icmp_ge (tgt := 50) hx hb dX8_become_9 (by decide) (fun c_19 => ?_) (fun c_19 => ?_)
      · have hZ := jx_i_pos c_19 hZ
        have ho := Option.some.inj hZ
        subst ho
        have hE := hza_4
        rw [← (show S_3 = r_4 from hk_4)] at hE
        have hZ : f_X8_become_50 t S_3 = some Z := hE
        exact j50 S_3 _ _ hZ hP hD hS _ (lv_sub hl [0] rfl)
      · have hZ := jx_i_neg c_19 hZ
        refine lv_iload_n hx hb dX8_become_12 rfl (lv_at hl 3 rfl) ?_
        refine lv_aload_n hx hb dX8_become_13 rfl (lv_at hl 1 rfl) ?_
        refine X_alen (v := (128 : Int32)) (t0 := 0) hx hb hK hP wX_20 rfl rfl dX8_become_14 ?_
        refine lv_icmp_ge (tgt := 50) hx hb dX8_become_15 (by decide) (fun c_21 => ?_) (fun c_21 => ?_)
        · have hZ := jx_i_pos c_21 hZ
          have ho := Option.some.inj hZ
          subst ho
          have hE := hza_4
          rw [← (show S_3 = r_4 from hk_4)] at hE
          have hZ : f_X8_become_50 t S_3 = some Z := hE
          exact j50 S_3 _ _ hZ hP hD hS _ (lv_sub hl [0] rfl)
        · have hZ := jx_i_neg c_21 hZ
          refine lv_iload_n hx hb dX8_become_18 rfl (lv_at hl 3 rfl) ?_
          refine lv_sipush (v := (128 : Int32)) hx hb dX8_become_19 (by decide) ?_
          refine lv_icmp_ge (tgt := 50) hx hb dX8_become_22 (by decide) (fun c_23 => ?_) (fun c_23 => ?_)
          · have hZ := jx_i_pos c_23 hZ
            have ho := Option.some.inj hZ
            subst ho
            have hE := hza_4
            rw [← (show S_3 = r_4 from hk_4)] at hE
            have hZ : f_X8_become_50 t S_3 = some Z := hE
            exact j50 S_3 _ _ hZ hP hD hS _ (lv_sub hl [0] rfl)
          · have hZ := jx_i_neg c_23 hZ
            refine lv_aload_n hx hb dX8_become_25 rfl (lv_at hl 0 rfl) ?_
            refine gf_8_code ht hx hb hts in8 hown hK hP (hts (.fieldLink RX8 9 "CoinsOfLast$Text" "code" "[I") (List.mem_of_getElem? (i := 2) rfl)) dX8_become_26 ?_
            refine lv_iload_n hx hb dX8_become_29 rfl (lv_at hl 3 rfl) ?_
            refine lv_aload_n hx hb dX8_become_30 rfl (lv_at hl 1 rfl) ?_
            refine lv_iload_n hx hb dX8_become_31 rfl (lv_at hl 3 rfl) ?_
            obtain ⟨c_25, hZ⟩ := jx_a_some hZ
            refine X_iald hx hb hK hP wX_20 c_25 dX8_become_32 ?_
            obtain ⟨c_26, hZ⟩ := jx_a_some hZ
            obtain ⟨S_27, e_S_27, hZ⟩ := jx_l_some hZ
            refine X_iast hx hb hK hP hD hS (wX_a8_code ht) (fun _ => wXs_a8_code ht) c_26 e_S_27 dX8_become_33 (fun H locs hP hD hS => ?_)
            refine lv_aload_n hx hb dX8_become_34 rfl (lv_at hl 0 rfl) ?_
            refine lv_dup hx hb dX8_become_35 rfl ?_
            refine gf_8_codes ht hx hb hts in8 hown hK hP (hts (.fieldLink RX8 21 "CoinsOfLast$Text" "codes" "I") (List.mem_of_getElem? (i := 1) rfl)) dX8_become_36 ?_
            refine lv_iconst (v := (1 : Int32)) hx hb dX8_become_39 (by decide) ?_
            refine lv_iadd hx hb dX8_become_40 ?_
            obtain ⟨S_28, e_S_28, hZ⟩ := jx_l_some hZ
            refine pf_8_codes ht hx hb hts in8 hown hK hP hD hS (hts (.fieldLink RX8 21 "CoinsOfLast$Text" "codes" "I") (List.mem_of_getElem? (i := 1) rfl)) e_S_28 dX8_become_41 (fun H locs hP hD hS => ?_)
            obtain ⟨x3_29, e_x3_29, hZ⟩ := jx_l_some hZ
            refine lv_iinc (v := x3_29) (lv' := [(3, .int x3_29), (0, .ref (q (40 + 4 * t))), (1, .ref (q 20)), (2, .int x2)]) hx hb dX8_become_44 hl (k := 3) rfl (by rw [e_x3_29]; rfl) (by decide) rfl (fun ls hl => ?_)
            refine lv_goto (tgt := 7) hx hb dX8_become_47 (by decide) ?_
            have ho := Option.some.inj hZ
            subst ho
            exact ih_4 x3_29 S_28 _ _ hk_4 hP hD hS _ (lv_sub hl [1, 2, 3, 0] rfl)
  exact l_4 FU (0 : Int32) S_1 _ _ hw hP hD hS _ (lv_sub hl [1, 2, 3, 0] rfl)
-- X8_operandsOf
def f_X8_operandsOf_30 (S_3 : St) : Option (Int32 × St) :=
  some ((1 : Int32), S_3)
def f_X8_operandsOf (x0 : Int32) (S : St) : Option (Int32 × St) :=
  (if (20000 : Int32) ≤ x0 then (if x0 = (20000 : Int32) then f_X8_operandsOf_30 S else (if x0 = (30000 : Int32) then f_X8_operandsOf_30 S else (if x0 = (30033 : Int32) then f_X8_operandsOf_30 S else some ((2 : Int32), S)))) else some ((0 : Int32), S))
set_option maxHeartbeats 4000000 in
set_option maxRecDepth 100000 in
theorem c_X8_operandsOf (l : Launch) (D : va_G) (q : Nat → Nat) (k : CI) (x0 : Int32) (S : St) (sz : Nat) (Z : Int32 × St) (hZ : f_X8_operandsOf x0 S = some Z) : MetI W_X SX l yX8_operandsOf wsX8_operandsOf { frames := 0, cells := 0, slots := 0, locals := 0 } [.int x0] D q k S sz Z := by
  refine enter (cc := cX8_operandsOf) (maxL := 1) (ret := some .int) (by decide) rfl (Nat.le_of_ble_eq_true rfl) ?_
  intro p e s m below meth c A ls hx hb hr hts hown hlocks hml hP hK hD hA hS hsp hAe hl
  have hown : s.vm.findClass RX8 = some m.cls := hown
  have hl : lv_has ls 1 [(0, .int x0)] := hl
  have j30 : ∀ (S_3 : St)  (H : Heap) (locs : List Loc) (hZ : f_X8_operandsOf_30 S_3 = some Z) (hP : va_P D vwCl (W_X q k S_3) H) (hD : va_D A (W_X q k S_3)) (hS : va_S A s.heap H locs) (ls : Array Slot) (hl : lv_has ls 1 []), W p l e ({ frames := 0, cells := 0, slots := 0, locals := 0 } : Room) s m ([.int x0] : List Value).toArray below meth c H locs 0 0 (MQ below (va_Qi (fun r u => (r, u) = Z) (fun u t => va_P D vwCl (W_X q k u) t.heap) A) ([.int x0] : List Value).toArray s 0 0 A) (F0 m 30 ls []) := by
    intro S_3   H locs hZ hP hD hS ls hl
    unfold f_X8_operandsOf_30 at hZ
    refine lv_iconst (v := (1 : Int32)) hx hb dX8_operandsOf_30 (by decide) ?_
    refine lv_goto (tgt := 35) hx hb dX8_operandsOf_31 (by decide) ?_
    exact leave_i hx hb hr hlocks hP hS hZ dX8_operandsOf_35
  unfold f_X8_operandsOf at hZ
  refine lv_iload_n hx hb dX8_operandsOf_0 rfl (lv_at hl 0 rfl) ?_
  refine lv_sipush (v := (20000 : Int32)) hx hb dX8_operandsOf_1 (by decide) ?_
  refine lv_icmp_ge (tgt := 9) hx hb dX8_operandsOf_4 (by decide) (fun c_1 => ?_) (fun c_1 => ?_)
  · have hZ := jx_i_pos c_1 hZ
    refine lv_iload_n hx hb dX8_operandsOf_9 rfl (lv_at hl 0 rfl) ?_
    refine lv_sipush (v := (20000 : Int32)) hx hb dX8_operandsOf_10 (by decide) ?_
    refine lv_icmp_eq (tgt := 30) hx hb dX8_operandsOf_13 (by decide) (fun c_2 => ?_) (fun c_2 => ?_)
    · have hZ := jx_i_pos c_2 hZ
      exact j30 S _ _ hZ hP hD hS _ (lv_sub hl [] rfl)
    · have hZ := jx_i_neg c_2 hZ
      refine lv_iload_n hx hb dX8_operandsOf_16 rfl (lv_at hl 0 rfl) ?_
      refine lv_sipush (v := (30000 : Int32)) hx hb dX8_operandsOf_17 (by decide) ?_
      refine lv_icmp_eq (tgt := 30) hx hb dX8_operandsOf_20 (by decide) (fun c_5 => ?_) (fun c_5 => ?_)
      · have hZ := jx_i_pos c_5 hZ
        exact j30 S _ _ hZ hP hD hS _ (lv_sub hl [] rfl)
      · have hZ := jx_i_neg c_5 hZ
        refine lv_iload_n hx hb dX8_operandsOf_23 rfl (lv_at hl 0 rfl) ?_
        refine lv_sipush (v := (30033 : Int32)) hx hb dX8_operandsOf_24 (by decide) ?_
        refine lv_icmp_ne (tgt := 34) hx hb dX8_operandsOf_27 (by decide) (fun c_7 => ?_) (fun c_7 => ?_)
        · have hZ := jx_i_neg c_7 hZ
          refine lv_iconst (v := (2 : Int32)) hx hb dX8_operandsOf_34 (by decide) ?_
          exact leave_i hx hb hr hlocks hP hS hZ dX8_operandsOf_35
        · have hZ := jx_i_pos c_7 hZ
          exact j30 S _ _ hZ hP hD hS _ (lv_sub hl [] rfl)
  · have hZ := jx_i_neg c_1 hZ
    refine lv_iconst (v := (0 : Int32)) hx hb dX8_operandsOf_7 (by decide) ?_
    exact leave_i hx hb hr hlocks hP hS hZ dX8_operandsOf_8
-- X8_told
def f_X8_told (t : Nat) (x1 : Int32) (S : St) : Option (Int32 × St) :=
  jx_l (x1 - (10000 : Int32)) (fun x2_1 => (if 0 ≤ x2_1 then (if (7 : Int32) ≤ x2_1 then some ((0 : Int32), S) else jx_a x2_1 7 (some ((S.1 (40 + 4 * t + 3) (Int32.toNatClampNeg x2_1)), S))) else some (x1, S)))
set_option maxHeartbeats 4000000 in
set_option maxRecDepth 100000 in
theorem c_X8_told (l : Launch) (D : va_G) (q : Nat → Nat) (k : CI) (t : Nat) (x1 : Int32) (S : St) (sz : Nat) (Z : Int32 × St) (ht : t < 2) (hZ : f_X8_told t x1 S = some Z) : MetI W_X SX l yX8_told wsX8_told { frames := 0, cells := 0, slots := 0, locals := 0 } [.ref (q (40 + 4 * t)), .int x1] D q k S sz Z := by
  refine enter (cc := cX8_told) (maxL := 3) (ret := some .int) (by decide) rfl (Nat.le_of_ble_eq_true rfl) ?_
  intro p e s m below meth c A ls hx hb hr hts hown hlocks hml hP hK hD hA hS hsp hAe hl
  have hown : s.vm.findClass RX8 = some m.cls := hown
  have hl : lv_has ls 3 [(0, .ref (q (40 + 4 * t))), (1, .int x1)] := hl
  have in8 : ∀ w ∈ wsX80, w ∈ wsX8_told := fun _ h => (List.mem_cons_of_mem _ (List.mem_append_right _ h))
  unfold f_X8_told at hZ
  refine lv_iload_n hx hb dX8_told_0 rfl (lv_at hl 1 rfl) ?_
  refine lv_sipush (v := (10000 : Int32)) hx hb dX8_told_1 (by decide) ?_
  refine lv_isub hx hb dX8_told_4 ?_
  obtain ⟨x2_1, e_x2_1, hZ⟩ := jx_l_some hZ
  refine tx_i e_x2_1 ?_
  refine lv_istore_n (lv' := [(2, .int x2_1), (0, .ref (q (40 + 4 * t))), (1, .int x1)]) hx hb dX8_told_5 rfl hl (by decide) rfl (fun ls hl => ?_)
  refine lv_iload_n hx hb dX8_told_6 rfl (lv_at hl 0 rfl) ?_
  refine lv_if_ge (tgt := 14) hx hb dX8_told_7 (by decide) (fun c_2 => ?_) (fun c_2 => ?_)
  · have hZ := jx_i_pos c_2 hZ
    refine lv_iload_n hx hb dX8_told_14 rfl (lv_at hl 0 rfl) ?_
    refine lv_bipush (v := (7 : Int32)) hx hb dX8_told_15 (by decide) ?_
    refine lv_icmp_ge (tgt := 29) hx hb dX8_told_17 (by decide) (fun c_3 => ?_) (fun c_3 => ?_)
    · have hZ := jx_i_pos c_3 hZ
      refine lv_iconst (v := (0 : Int32)) hx hb dX8_told_29 (by decide) ?_
      exact leave_i hx hb hr hlocks hP hS hZ dX8_told_30
    · have hZ := jx_i_neg c_3 hZ
      refine lv_aload_n hx hb dX8_told_20 rfl (lv_at hl 1 rfl) ?_
      refine gf_8_names ht hx hb hts in8 hown hK hP (hts (.fieldLink RX8 18 "CoinsOfLast$Text" "names" "[I") (List.mem_of_getElem? (i := 1) rfl)) dX8_told_21 ?_
      refine lv_iload_n hx hb dX8_told_24 rfl (lv_at hl 0 rfl) ?_
      obtain ⟨c_4, hZ⟩ := jx_a_some hZ
      refine X_iald hx hb hK hP (wX_a8_names ht) c_4 dX8_told_25 ?_
      refine lv_goto (tgt := 30) hx hb dX8_told_26 (by decide) ?_
      exact leave_i hx hb hr hlocks hP hS hZ dX8_told_30
  · have hZ := jx_i_neg c_2 hZ
    refine lv_iload_n hx hb dX8_told_10 rfl (lv_at hl 2 rfl) ?_
    refine lv_goto (tgt := 30) hx hb dX8_told_11 (by decide) ?_
    exact leave_i hx hb hr hlocks hP hS hZ dX8_told_30
-- X8_joined
def f_X8_joined_129 (S_24 : St) : Option (Int32 × St) :=
  some ((1 : Int32), S_24)
def f_X8_joined (x0 : Int32) (x1 : Int32) (x2 : Int32) (S : St) : Option (Int32 × St) :=
  (if x0 = (0 : Int32) then some ((-x1), S) else if x0 = (33 : Int32) then (if x1 = 0 then some ((1 : Int32), S) else some ((0 : Int32), S)) else if x0 = (37 : Int32) then (if x2 = 0 then some ((0 : Int32), S) else jx_d x2 (some ((x1 - x1 / x2 * x2), S))) else if x0 = (38 : Int32) then (if x1 = 0 then some ((0 : Int32), S) else (if x2 = 0 then some ((0 : Int32), S) else some ((1 : Int32), S))) else if x0 = (42 : Int32) then some ((x1 * x2), S) else if x0 = (43 : Int32) then some ((x1 + x2), S) else if x0 = (45 : Int32) then some ((x1 - x2), S) else if x0 = (47 : Int32) then (if x2 = 0 then some ((0 : Int32), S) else jx_d x2 (some ((x1 / x2), S))) else if x0 = (60 : Int32) then (if x2 ≤ x1 then some ((0 : Int32), S) else some ((1 : Int32), S)) else if x0 = (61 : Int32) then (if x1 = x2 then some ((1 : Int32), S) else some ((0 : Int32), S)) else if x0 = (62 : Int32) then (if x1 ≤ x2 then some ((0 : Int32), S) else some ((1 : Int32), S)) else if x0 = (124 : Int32) then (if x1 = 0 then (if x2 = 0 then some ((0 : Int32), S) else f_X8_joined_129 S) else f_X8_joined_129 S) else some ((0 : Int32), S))
set_option maxHeartbeats 4000000 in
set_option maxRecDepth 100000 in
theorem c_X8_joined (l : Launch) (D : va_G) (q : Nat → Nat) (k : CI) (x0 : Int32) (x1 : Int32) (x2 : Int32) (S : St) (sz : Nat) (Z : Int32 × St) (hZ : f_X8_joined x0 x1 x2 S = some Z) : MetI W_X SX l yX8_joined wsX8_joined { frames := 0, cells := 0, slots := 0, locals := 0 } [.int x0, .int x1, .int x2] D q k S sz Z := by
  refine enter (cc := cX8_joined) (maxL := 3) (ret := some .int) (by decide) rfl (Nat.le_of_ble_eq_true rfl) ?_
  intro p e s m below meth c A ls hx hb hr hts hown hlocks hml hP hK hD hA hS hsp hAe hl
  have hown : s.vm.findClass RX8 = some m.cls := hown
  have hl : lv_has ls 3 [(0, .int x0), (1, .int x1), (2, .int x2)] := hl
  have j129 : ∀ (S_24 : St)  (H : Heap) (locs : List Loc) (hZ : f_X8_joined_129 S_24 = some Z) (hP : va_P D vwCl (W_X q k S_24) H) (hD : va_D A (W_X q k S_24)) (hS : va_S A s.heap H locs) (ls : Array Slot) (hl : lv_has ls 3 []), W p l e ({ frames := 0, cells := 0, slots := 0, locals := 0 } : Room) s m ([.int x0, .int x1, .int x2] : List Value).toArray below meth c H locs 0 0 (MQ below (va_Qi (fun r u => (r, u) = Z) (fun u t => va_P D vwCl (W_X q k u) t.heap) A) ([.int x0, .int x1, .int x2] : List Value).toArray s 0 0 A) (F0 m 129 ls []) := by
    intro S_24   H locs hZ hP hD hS ls hl
    unfold f_X8_joined_129 at hZ
    refine lv_iconst (v := (1 : Int32)) hx hb dX8_joined_129 (by decide) ?_
    refine lv_goto (tgt := 134) hx hb dX8_joined_130 (by decide) ?_
    exact leave_i hx hb hr hlocks hP hS hZ dX8_joined_134
  unfold f_X8_joined at hZ
  refine lv_iload_n hx hb dX8_joined_0 rfl (lv_at hl 0 rfl) ?_
  by_cases c_1 : x0 = (0 : Int32)
  · have hZ := jx_i_pos c_1 hZ
    refine lv_lookup (off := 107) (tgt := 108) hx hb dX8_joined_1 (by decide) (by rw [c_1]; rfl) (by decide) ?_
    refine lv_iload_n hx hb dX8_joined_108 rfl (lv_at hl 1 rfl) ?_
    refine lv_ineg hx hb dX8_joined_109 ?_
    exact leave_i hx hb hr hlocks hP hS hZ dX8_joined_110
  have hZ := jx_i_neg c_1 hZ
  by_cases c_2 : x0 = (33 : Int32)
  · have hZ := jx_i_pos c_2 hZ
    refine lv_lookup (off := 110) (tgt := 111) hx hb dX8_joined_1 (by decide) (by rw [c_2]; rfl) (by decide) ?_
    refine lv_iload_n hx hb dX8_joined_111 rfl (lv_at hl 1 rfl) ?_
    refine lv_if_ne (tgt := 119) hx hb dX8_joined_112 (by decide) (fun c_3 => ?_) (fun c_3 => ?_)
    · have hZ := jx_i_neg c_3 hZ
      refine lv_iconst (v := (0 : Int32)) hx hb dX8_joined_119 (by decide) ?_
      exact leave_i hx hb hr hlocks hP hS hZ dX8_joined_120
    · have hZ := jx_i_pos c_3 hZ
      refine lv_iconst (v := (1 : Int32)) hx hb dX8_joined_115 (by decide) ?_
      refine lv_goto (tgt := 120) hx hb dX8_joined_116 (by decide) ?_
      exact leave_i hx hb hr hlocks hP hS hZ dX8_joined_120
  have hZ := jx_i_neg c_2 hZ
  by_cases c_4 : x0 = (37 : Int32)
  · have hZ := jx_i_pos c_4 hZ
    refine lv_lookup (off := 205) (tgt := 206) hx hb dX8_joined_1 (by decide) (by rw [c_4]; rfl) (by decide) ?_
    refine lv_iload_n hx hb dX8_joined_206 rfl (lv_at hl 2 rfl) ?_
    refine lv_if_ne (tgt := 214) hx hb dX8_joined_207 (by decide) (fun c_5 => ?_) (fun c_5 => ?_)
    · have hZ := jx_i_neg c_5 hZ
      refine lv_iload_n hx hb dX8_joined_214 rfl (lv_at hl 1 rfl) ?_
      refine lv_iload_n hx hb dX8_joined_215 rfl (lv_at hl 2 rfl) ?_
      obtain ⟨c_6, hZ⟩ := jx_d_some hZ
      refine lv_irem hx hb dX8_joined_216 c_6 ?_
      exact leave_i hx hb hr hlocks hP hS hZ dX8_joined_217
    · have hZ := jx_i_pos c_5 hZ
      refine lv_iconst (v := (0 : Int32)) hx hb dX8_joined_210 (by decide) ?_
      refine lv_goto (tgt := 217) hx hb dX8_joined_211 (by decide) ?_
      exact leave_i hx hb hr hlocks hP hS hZ dX8_joined_217
  have hZ := jx_i_neg c_4 hZ
  by_cases c_7 : x0 = (38 : Int32)
  · have hZ := jx_i_pos c_7 hZ
    refine lv_lookup (off := 134) (tgt := 135) hx hb dX8_joined_1 (by decide) (by rw [c_7]; rfl) (by decide) ?_
    refine lv_iload_n hx hb dX8_joined_135 rfl (lv_at hl 1 rfl) ?_
    refine lv_if_eq (tgt := 147) hx hb dX8_joined_136 (by decide) (fun c_8 => ?_) (fun c_8 => ?_)
    · have hZ := jx_i_pos c_8 hZ
      refine lv_iconst (v := (0 : Int32)) hx hb dX8_joined_147 (by decide) ?_
      exact leave_i hx hb hr hlocks hP hS hZ dX8_joined_148
    · have hZ := jx_i_neg c_8 hZ
      refine lv_iload_n hx hb dX8_joined_139 rfl (lv_at hl 2 rfl) ?_
      refine lv_if_eq (tgt := 147) hx hb dX8_joined_140 (by decide) (fun c_9 => ?_) (fun c_9 => ?_)
      · have hZ := jx_i_pos c_9 hZ
        refine lv_iconst (v := (0 : Int32)) hx hb dX8_joined_147 (by decide) ?_
        exact leave_i hx hb hr hlocks hP hS hZ dX8_joined_148
      · have hZ := jx_i_neg c_9 hZ
        refine lv_iconst (v := (1 : Int32)) hx hb dX8_joined_143 (by decide) ?_
        refine lv_goto (tgt := 148) hx hb dX8_joined_144 (by decide) ?_
        exact leave_i hx hb hr hlocks hP hS hZ dX8_joined_148
  have hZ := jx_i_neg c_7 hZ
  by_cases c_10 : x0 = (42 : Int32)
  · have hZ := jx_i_pos c_10 hZ
    refine lv_lookup (off := 189) (tgt := 190) hx hb dX8_joined_1 (by decide) (by rw [c_10]; rfl) (by decide) ?_
    refine lv_iload_n hx hb dX8_joined_190 rfl (lv_at hl 1 rfl) ?_
    refine lv_iload_n hx hb dX8_joined_191 rfl (lv_at hl 2 rfl) ?_
    refine lv_imul hx hb dX8_joined_192 ?_
    exact leave_i hx hb hr hlocks hP hS hZ dX8_joined_193
  have hZ := jx_i_neg c_10 hZ
  by_cases c_11 : x0 = (43 : Int32)
  · have hZ := jx_i_pos c_11 hZ
    refine lv_lookup (off := 181) (tgt := 182) hx hb dX8_joined_1 (by decide) (by rw [c_11]; rfl) (by decide) ?_
    refine lv_iload_n hx hb dX8_joined_182 rfl (lv_at hl 1 rfl) ?_
    refine lv_iload_n hx hb dX8_joined_183 rfl (lv_at hl 2 rfl) ?_
    refine lv_iadd hx hb dX8_joined_184 ?_
    exact leave_i hx hb hr hlocks hP hS hZ dX8_joined_185
  have hZ := jx_i_neg c_11 hZ
  by_cases c_12 : x0 = (45 : Int32)
  · have hZ := jx_i_pos c_12 hZ
    refine lv_lookup (off := 185) (tgt := 186) hx hb dX8_joined_1 (by decide) (by rw [c_12]; rfl) (by decide) ?_
    refine lv_iload_n hx hb dX8_joined_186 rfl (lv_at hl 1 rfl) ?_
    refine lv_iload_n hx hb dX8_joined_187 rfl (lv_at hl 2 rfl) ?_
    refine lv_isub hx hb dX8_joined_188 ?_
    exact leave_i hx hb hr hlocks hP hS hZ dX8_joined_189
  have hZ := jx_i_neg c_12 hZ
  by_cases c_13 : x0 = (47 : Int32)
  · have hZ := jx_i_pos c_13 hZ
    refine lv_lookup (off := 193) (tgt := 194) hx hb dX8_joined_1 (by decide) (by rw [c_13]; rfl) (by decide) ?_
    refine lv_iload_n hx hb dX8_joined_194 rfl (lv_at hl 2 rfl) ?_
    refine lv_if_ne (tgt := 202) hx hb dX8_joined_195 (by decide) (fun c_14 => ?_) (fun c_14 => ?_)
    · have hZ := jx_i_neg c_14 hZ
      refine lv_iload_n hx hb dX8_joined_202 rfl (lv_at hl 1 rfl) ?_
      refine lv_iload_n hx hb dX8_joined_203 rfl (lv_at hl 2 rfl) ?_
      obtain ⟨c_15, hZ⟩ := jx_d_some hZ
      refine lv_idiv hx hb dX8_joined_204 c_15 ?_
      exact leave_i hx hb hr hlocks hP hS hZ dX8_joined_205
    · have hZ := jx_i_pos c_14 hZ
      refine lv_iconst (v := (0 : Int32)) hx hb dX8_joined_198 (by decide) ?_
      refine lv_goto (tgt := 205) hx hb dX8_joined_199 (by decide) ?_
      exact leave_i hx hb hr hlocks hP hS hZ dX8_joined_205
  have hZ := jx_i_neg c_13 hZ
  by_cases c_16 : x0 = (60 : Int32)
  · have hZ := jx_i_pos c_16 hZ
    refine lv_lookup (off := 148) (tgt := 149) hx hb dX8_joined_1 (by decide) (by rw [c_16]; rfl) (by decide) ?_
    refine lv_iload_n hx hb dX8_joined_149 rfl (lv_at hl 1 rfl) ?_
    refine lv_iload_n hx hb dX8_joined_150 rfl (lv_at hl 2 rfl) ?_
    refine lv_icmp_ge (tgt := 158) hx hb dX8_joined_151 (by decide) (fun c_17 => ?_) (fun c_17 => ?_)
    · have hZ := jx_i_pos c_17 hZ
      refine lv_iconst (v := (0 : Int32)) hx hb dX8_joined_158 (by decide) ?_
      exact leave_i hx hb hr hlocks hP hS hZ dX8_joined_159
    · have hZ := jx_i_neg c_17 hZ
      refine lv_iconst (v := (1 : Int32)) hx hb dX8_joined_154 (by decide) ?_
      refine lv_goto (tgt := 159) hx hb dX8_joined_155 (by decide) ?_
      exact leave_i hx hb hr hlocks hP hS hZ dX8_joined_159
  have hZ := jx_i_neg c_16 hZ
  by_cases c_18 : x0 = (61 : Int32)
  · have hZ := jx_i_pos c_18 hZ
    refine lv_lookup (off := 159) (tgt := 160) hx hb dX8_joined_1 (by decide) (by rw [c_18]; rfl) (by decide) ?_
    refine lv_iload_n hx hb dX8_joined_160 rfl (lv_at hl 1 rfl) ?_
    refine lv_iload_n hx hb dX8_joined_161 rfl (lv_at hl 2 rfl) ?_
    refine lv_icmp_ne (tgt := 169) hx hb dX8_joined_162 (by decide) (fun c_19 => ?_) (fun c_19 => ?_)
    · have hZ := jx_i_neg c_19 hZ
      refine lv_iconst (v := (0 : Int32)) hx hb dX8_joined_169 (by decide) ?_
      exact leave_i hx hb hr hlocks hP hS hZ dX8_joined_170
    · have hZ := jx_i_pos c_19 hZ
      refine lv_iconst (v := (1 : Int32)) hx hb dX8_joined_165 (by decide) ?_
      refine lv_goto (tgt := 170) hx hb dX8_joined_166 (by decide) ?_
      exact leave_i hx hb hr hlocks hP hS hZ dX8_joined_170
  have hZ := jx_i_neg c_18 hZ
  by_cases c_20 : x0 = (62 : Int32)
  · have hZ := jx_i_pos c_20 hZ
    refine lv_lookup (off := 170) (tgt := 171) hx hb dX8_joined_1 (by decide) (by rw [c_20]; rfl) (by decide) ?_
    refine lv_iload_n hx hb dX8_joined_171 rfl (lv_at hl 1 rfl) ?_
    refine lv_iload_n hx hb dX8_joined_172 rfl (lv_at hl 2 rfl) ?_
    refine lv_icmp_le (tgt := 180) hx hb dX8_joined_173 (by decide) (fun c_21 => ?_) (fun c_21 => ?_)
    · have hZ := jx_i_pos c_21 hZ
      refine lv_iconst (v := (0 : Int32)) hx hb dX8_joined_180 (by decide) ?_
      exact leave_i hx hb hr hlocks hP hS hZ dX8_joined_181
    · have hZ := jx_i_neg c_21 hZ
      refine lv_iconst (v := (1 : Int32)) hx hb dX8_joined_176 (by decide) ?_
      refine lv_goto (tgt := 181) hx hb dX8_joined_177 (by decide) ?_
      exact leave_i hx hb hr hlocks hP hS hZ dX8_joined_181
  have hZ := jx_i_neg c_20 hZ
  by_cases c_22 : x0 = (124 : Int32)
  · have hZ := jx_i_pos c_22 hZ
    refine lv_lookup (off := 120) (tgt := 121) hx hb dX8_joined_1 (by decide) (by rw [c_22]; rfl) (by decide) ?_
    refine lv_iload_n hx hb dX8_joined_121 rfl (lv_at hl 1 rfl) ?_
    refine lv_if_ne (tgt := 129) hx hb dX8_joined_122 (by decide) (fun c_23 => ?_) (fun c_23 => ?_)
    · have hZ := jx_i_neg c_23 hZ
      exact j129 S _ _ hZ hP hD hS _ (lv_sub hl [] rfl)
    · have hZ := jx_i_pos c_23 hZ
      refine lv_iload_n hx hb dX8_joined_125 rfl (lv_at hl 2 rfl) ?_
      refine lv_if_eq (tgt := 133) hx hb dX8_joined_126 (by decide) (fun c_26 => ?_) (fun c_26 => ?_)
      · have hZ := jx_i_pos c_26 hZ
        refine lv_iconst (v := (0 : Int32)) hx hb dX8_joined_133 (by decide) ?_
        exact leave_i hx hb hr hlocks hP hS hZ dX8_joined_134
      · have hZ := jx_i_neg c_26 hZ
        exact j129 S _ _ hZ hP hD hS _ (lv_sub hl [] rfl)
  have hZ := jx_i_neg c_22 hZ
  refine lv_lookup (off := 217) (tgt := 218) hx hb dX8_joined_1 (by decide) ?_ (by decide) ?_
  · show Op.lookupswitch.offset [(0, 107), (33, 110), (37, 205), (38, 134), (42, 189), (43, 181), (45, 185), (47, 193), (60, 148), (61, 159), (62, 170), (124, 120)] 217 _ = 217
    rw [lv_osw c_1 (show (0 : Int32).toInt = 0 from rfl), lv_osw c_2 (show (33 : Int32).toInt = 33 from rfl), lv_osw c_4 (show (37 : Int32).toInt = 37 from rfl), lv_osw c_7 (show (38 : Int32).toInt = 38 from rfl), lv_osw c_10 (show (42 : Int32).toInt = 42 from rfl), lv_osw c_11 (show (43 : Int32).toInt = 43 from rfl), lv_osw c_12 (show (45 : Int32).toInt = 45 from rfl), lv_osw c_13 (show (47 : Int32).toInt = 47 from rfl), lv_osw c_16 (show (60 : Int32).toInt = 60 from rfl), lv_osw c_18 (show (61 : Int32).toInt = 61 from rfl), lv_osw c_20 (show (62 : Int32).toInt = 62 from rfl), lv_osw c_22 (show (124 : Int32).toInt = 124 from rfl)]; rfl
  · refine lv_iconst (v := (0 : Int32)) hx hb dX8_joined_218 (by decide) ?_
    exact leave_i hx hb hr hlocks hP hS hZ dX8_joined_219
