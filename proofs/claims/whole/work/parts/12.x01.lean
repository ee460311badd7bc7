theorem hd_X2_own : yX2_own.cls = RX2 ∧ yX2_own.cls ≠ "java/lang/invoke/MethodHandle" ∧ yX2_own.cls ≠ "java/lang/invoke/VarHandle" ∧ (parseMethodDescriptor yX2_own.desc).map (fun d => d.parameters.length) = some 3 := by decide +kernel
-- X2_run
def f_X2_run (rc : Int32 → Int32 → Int32 → Int32 → St → Option (Int32 × St)) (x1 : Int32) (x2 : Int32) (x3 : Int32) (x4 : Int32) (S : St) : Option (Int32 × St) :=
  (if x1 = (1 : Int32) then some ((x3 + (S.1 34 4)), S) else if x1 = (2 : Int32) then jx_b2 (f_X2_own rc (1 : Int32) x3 x4 S) (fun r_5 S_3 => jx_b2 (f_X2_own rc (2 : Int32) (1 : Int32) x4 S_3) (fun r_8 S_6 => some ((r_5 - r_8), S_6))) else if x1 = (10 : Int32) then jx_b2 (f_X2_own rc (0 : Int32) x3 x4 S) (fun r_12 S_10 => some ((r_12 * (2 : Int32)), S_10)) else if x1 = (11 : Int32) then some ((x3 ^^^ (S.1 34 4)), S) else if x1 = (20 : Int32) then jx_b2 (rc x2 (0 : Int32) x3 x4 S) (fun r_17 S_15 => some ((r_17 + (3 : Int32)), S_15)) else if x1 = (30 : Int32) then jx_b2 (rc x2 (1 : Int32) x3 x4 S) (fun r_21 S_19 => some ((-r_21), S_19)) else if x1 = (40 : Int32) then jx_b2 (rc x2 (2 : Int32) x3 x4 S) (fun r_25 S_23 => some ((r_25 * (3 : Int32)), S_23)) else if x1 = (41 : Int32) then jx_b2 (rc x2 (1 : Int32) (x3 + (1 : Int32)) x4 S) (fun r_29 S_27 => some (r_29, S_27)) else if x1 = (50 : Int32) then jx_b2 (rc x2 (2 : Int32) x3 x4 S) (fun r_33 S_31 => jx_b2 (f_X2_own rc (0 : Int32) (2 : Int32) x4 S_31) (fun r_36 S_34 => some ((r_33 - r_36), S_34))) else if x1 = (60 : Int32) then jx_b2 (rc x2 (3 : Int32) x3 x4 S) (fun r_40 S_38 => some ((r_40 ^^^ (5 : Int32)), S_38)) else if x1 = (70 : Int32) then jx_b2 (rc x2 (0 : Int32) x3 x4 S) (fun r_44 S_42 => some ((r_44 * (2 : Int32)), S_42)) else if x1 = (80 : Int32) then jx_b2 (rc x2 (1 : Int32) x3 x4 S) (fun r_48 S_46 => jx_b2 (f_X2_own rc (2 : Int32) (2 : Int32) x4 S_46) (fun r_51 S_49 => some ((r_48 + r_51), S_49))) else if x1 = (81 : Int32) then jx_b2 (rc x2 (3 : Int32) x3 x4 S) (fun r_55 S_53 => some ((r_55 - (1 : Int32)), S_53)) else some ((0 : Int32), S))
set_option maxHeartbeats 4000000 in
set_option maxRecDepth 100000 in
theorem c_X2_run (l : Launch) (D : va_G) (q : Nat → Nat) (k : CI) (rc : Int32 → Int32 → Int32 → Int32 → St → Option (Int32 × St)) (fr lo : Nat) (hrc : ∀ (x1 : Int32) (x2 : Int32) (x3 : Int32) (x4 : Int32) (S : St) (sz : Nat) (Z : Int32 × St), rc x1 x2 x3 x4 S = some Z → MetI W_X SX l yX2_from wsX2_from { frames := fr, cells := 0, slots := 0, locals := lo } [.ref (q 34), .int x1, .int x2, .int x3, .int x4] D q k S sz Z) (x1 : Int32) (x2 : Int32) (x3 : Int32) (x4 : Int32) (S : St) (sz : Nat) (Z : Int32 × St) (hZ : f_X2_run rc x1 x2 x3 x4 S = some Z) : MetI W_X SX l yX2_run wsX2_run { frames := fr + 3, cells := 0, slots := 0, locals := lo + 65 } [.ref (q 34), .int x1, .int x2, .int x3, .int x4] D q k S sz Z := by
  refine enter (cc := cX2_run) (maxL := 5) (ret := some .int) (by decide) rfl (Nat.le_of_ble_eq_true rfl) ?_
  intro p e s m below meth c A ls hx hb hr hts hown hlocks hml hP hK hD hA hS hsp hAe hl
  have hown : s.vm.findClass RX2 = some m.cls := hown
  have hl : lv_has ls 5 [(0, .ref (q 34)), (1, .int x1), (2, .int x2), (3, .int x3), (4, .int x4)] := hl
  have in2 : ∀ w ∈ wsX20, w ∈ wsX2_run := fun _ h => (List.mem_cons_of_mem _ (List.mem_append_right _ h))
  unfold f_X2_run at hZ
  refine lv_iload_n hx hb dX2_run_0 rfl (lv_at hl 1 rfl) ?_
  by_cases c_1 : x1 = (1 : Int32)
  · have hZ := jx_i_pos c_1 hZ
    refine lv_lookup (off := 115) (tgt := 116) hx hb dX2_run_1 (by decide) (by rw [c_1]; rfl) (by decide) ?_
    refine lv_iload_n hx hb dX2_run_116 rfl (lv_at hl 3 rfl) ?_
    refine lv_aload_n hx hb dX2_run_117 rfl (lv_at hl 0 rfl) ?_
    refine gf_2_actor hx hb hts in2 hown hK hP (hts (.fieldLink RX2 36 "CoinsOfLast$Deeds" "actor" "I") (List.mem_of_getElem? (i := 1) rfl)) dX2_run_118 ?_
    refine lv_iadd hx hb dX2_run_121 ?_
    exact leave_i hx hb hr hlocks hP hS hZ dX2_run_122
  have hZ := jx_i_neg c_1 hZ
  by_cases c_2 : x1 = (2 : Int32)
  · have hZ := jx_i_pos c_2 hZ
    refine lv_lookup (off := 122) (tgt := 123) hx hb dX2_run_1 (by decide) (by rw [c_2]; rfl) (by decide) ?_
    refine lv_aload_n hx hb dX2_run_123 rfl (lv_at hl 0 rfl) ?_
    refine lv_iconst (v := (1 : Int32)) hx hb dX2_run_124 (by decide) ?_
    refine lv_iload_n hx hb dX2_run_125 rfl (lv_at hl 3 rfl) ?_
    refine lv_iload hx hb dX2_run_126 (lv_at hl 4 rfl) ?_
    obtain ⟨r_5, S_3, hc_4, hZ⟩ := jx_b2_some hZ
    refine call_Vi SX_ok sameX ⟨hx, hb, hml, hown, hts⟩ (c_X2_own l D q k rc fr lo hrc (1 : Int32) x3 x4 S _ (r_5, S_3)  hc_4) (cwV 3 hts gX2_run_X2_own rfl rfl rfl hd_X2_own ⟨by dsimp only; omega, by dsimp only; omega⟩) hK hP hD hS hA hsp (va_recv hK hP (ci := 2) (q0 := 34) rfl wX_34) (As := [.int (1 : Int32), .int x3, .int x4]) rfl hl.1 rfl (Nat.le_of_ble_eq_true rfl) dX2_run_128 ⟨Nat.zero_le _, Nat.zero_le _⟩ (fun H locs hP hD hS => ?_)
    refine lv_aload_n hx hb dX2_run_131 rfl (lv_at hl 0 rfl) ?_
    refine lv_iconst (v := (2 : Int32)) hx hb dX2_run_132 (by decide) ?_
    refine lv_iconst (v := (1 : Int32)) hx hb dX2_run_133 (by decide) ?_
    refine lv_iload hx hb dX2_run_134 (lv_at hl 4 rfl) ?_
    obtain ⟨r_8, S_6, hc_7, hZ⟩ := jx_b2_some hZ
    refine call_Vi SX_ok sameX ⟨hx, hb, hml, hown, hts⟩ (c_X2_own l D q k rc fr lo hrc (2 : Int32) (1 : Int32) x4 S_3 _ (r_8, S_6)  hc_7) (cwV 3 hts gX2_run_X2_own rfl rfl rfl hd_X2_own ⟨by dsimp only; omega, by dsimp only; omega⟩) hK hP hD hS hA hsp (va_recv hK hP (ci := 2) (q0 := 34) rfl wX_34) (As := [.int (2 : Int32), .int (1 : Int32), .int x4]) rfl hl.1 rfl (Nat.le_of_ble_eq_true rfl) dX2_run_136 ⟨Nat.zero_le _, Nat.zero_le _⟩ (fun H locs hP hD hS => ?_)
    refine lv_isub hx hb dX2_run_139 ?_
    exact leave_i hx hb hr hlocks hP hS hZ dX2_run_140
  have hZ := jx_i_neg c_2 hZ
  by_cases c_9 : x1 = (10 : Int32)
  · have hZ := jx_i_pos c_9 hZ
    refine lv_lookup (off := 140) (tgt := 141) hx hb dX2_run_1 (by decide) (by rw [c_9]; rfl) (by decide) ?_
    refine lv_aload_n hx hb dX2_run_141 rfl (lv_at hl 0 rfl) ?_
    refine lv_iconst (v := (0 : Int32)) hx hb dX2_run_142 (by decide) ?_
    refine lv_iload_n hx hb dX2_run_143 rfl (lv_at hl 3 rfl) ?_
    refine lv_iload hx hb dX2_run_144 (lv_at hl 4 rfl) ?_
    obtain ⟨r_12, S_10, hc_11, hZ⟩ := jx_b2_some hZ
    refine call_Vi SX_ok sameX ⟨hx, hb, hml, hown, hts⟩ (c_X2_own l D q k rc fr lo hrc (0 : Int32) x3 x4 S _ (r_12, S_10)  hc_11) (cwV 3 hts gX2_run_X2_own rfl rfl rfl hd_X2_own ⟨by dsimp only; omega, by dsimp only; omega⟩) hK hP hD hS hA hsp (va_recv hK hP (ci := 2) (q0 := 34) rfl wX_34) (As := [.int (0 : Int32), .int x3, .int x4]) rfl hl.1 rfl (Nat.le_of_ble_eq_true rfl) dX2_run_146 ⟨Nat.zero_le _, Nat.zero_le _⟩ (fun H locs hP hD hS => ?_)
    refine lv_iconst (v := (2 : Int32)) hx hb dX2_run_149 (by decide) ?_
    refine lv_imul hx hb dX2_run_150 ?_
    exact leave_i hx hb hr hlocks hP hS hZ dX2_run_151
  have hZ := jx_i_neg c_9 hZ
  by_cases c_13 : x1 = (11 : Int32)
  · have hZ := jx_i_pos c_13 hZ
    refine lv_lookup (off := 151) (tgt := 152) hx hb dX2_run_1 (by decide) (by rw [c_13]; rfl) (by decide) ?_
    refine lv_iload_n hx hb dX2_run_152 rfl (lv_at hl 3 rfl) ?_
    refine lv_aload_n hx hb dX2_run_153 rfl (lv_at hl 0 rfl) ?_
    refine gf_2_actor hx hb hts in2 hown hK hP (hts (.fieldLink RX2 36 "CoinsOfLast$Deeds" "actor" "I") (List.mem_of_getElem? (i := 1) rfl)) dX2_run_154 ?_
    refine lv_ixor hx hb dX2_run_157 ?_
    exact leave_i hx hb hr hlocks hP hS hZ dX2_run_158
  have hZ := jx_i_neg c_13 hZ
  by_cases c_14 : x1 = (20 : Int32)
  · have hZ := jx_i_pos c_14 hZ
    refine lv_lookup (off := 158) (tgt := 159) hx hb dX2_run_1 (by decide) (by rw [c_14]; rfl) (by decide) ?_
    refine lv_aload_n hx hb dX2_run_159 rfl (lv_at hl 0 rfl) ?_
    refine lv_iload_n hx hb dX2_run_160 rfl (lv_at hl 2 rfl) ?_
    refine lv_iconst (v := (0 : Int32)) hx hb dX2_run_161 (by decide) ?_
    refine lv_iload_n hx hb dX2_run_162 rfl (lv_at hl 3 rfl) ?_
    refine lv_iload hx hb dX2_run_163 (lv_at hl 4 rfl) ?_
    obtain ⟨r_17, S_15, hc_16, hZ⟩ := jx_b2_some hZ
    refine call_Vi SX_ok sameX ⟨hx, hb, hml, hown, hts⟩ (hrc x2 (0 : Int32) x3 x4 S _ (r_17, S_15)  hc_16) (cwV 4 hts gX2_run_X2_from rfl rfl rfl hd_X2_from ⟨by dsimp only; omega, by dsimp only; omega⟩) hK hP hD hS hA hsp (va_recv hK hP (ci := 2) (q0 := 34) rfl wX_34) (As := [.int x2, .int (0 : Int32), .int x3, .int x4]) rfl hl.1 rfl (Nat.le_of_ble_eq_true rfl) dX2_run_165 ⟨Nat.zero_le _, Nat.zero_le _⟩ (fun H locs hP hD hS => ?_)
    refine lv_iconst (v := (3 : Int32)) hx hb dX2_run_168 (by decide) ?_
    refine lv_iadd hx hb dX2_run_169 ?_
    exact leave_i hx hb hr hlocks hP hS hZ dX2_run_170
  have hZ := jx_i_neg c_14 hZ
  by_cases c_18 : x1 = (30 : Int32)
  · have hZ := jx_i_pos c_18 hZ
    refine lv_lookup (off := 170) (tgt := 171) hx hb dX2_run_1 (by decide) (by rw [c_18]; rfl) (by decide) ?_
    refine lv_aload_n hx hb dX2_run_171 rfl (lv_at hl 0 rfl) ?_
    refine lv_iload_n hx hb dX2_run_172 rfl (lv_at hl 2 rfl) ?_
    refine lv_iconst (v := (1 : Int32)) hx hb dX2_run_173 (by decide) ?_
    refine lv_iload_n hx hb dX2_run_174 rfl (lv_at hl 3 rfl) ?_
    refine lv_iload hx hb dX2_run_175 (lv_at hl 4 rfl) ?_
    obtain ⟨r_21, S_19, hc_20, hZ⟩ := jx_b2_some hZ
    refine call_Vi SX_ok sameX ⟨hx, hb, hml, hown, hts⟩ (hrc x2 (1 : Int32) x3 x4 S _ (r_21, S_19)  hc_20) (cwV 4 hts gX2_run_X2_from rfl rfl rfl hd_X2_from ⟨by dsimp only; omega, by dsimp only; omega⟩) hK hP hD hS hA hsp (va_recv hK hP (ci := 2) (q0 := 34) rfl wX_34) (As := [.int x2, .int (1 : Int32), .int x3, .int x4]) rfl hl.1 rfl (Nat.le_of_ble_eq_true rfl) dX2_run_177 ⟨Nat.zero_le _, Nat.zero_le _⟩ (fun H locs hP hD hS => ?_)
    refine lv_ineg hx hb dX2_run_180 ?_
    exact leave_i hx hb hr hlocks hP hS hZ dX2_run_181
  have hZ := jx_i_neg c_18 hZ
  by_cases c_22 : x1 = (40 : Int32)
  · have hZ := jx_i_pos c_22 hZ
    refine lv_lookup (off := 181) (tgt := 182) hx hb dX2_run_1 (by decide) (by rw [c_22]; rfl) (by decide) ?_
    refine lv_aload_n hx hb dX2_run_182 rfl (lv_at hl 0 rfl) ?_
    refine lv_iload_n hx hb dX2_run_183 rfl (lv_at hl 2 rfl) ?_
    refine lv_iconst (v := (2 : Int32)) hx hb dX2_run_184 (by decide) ?_
    refine lv_iload_n hx hb dX2_run_185 rfl (lv_at hl 3 rfl) ?_
    refine lv_iload hx hb dX2_run_186 (lv_at hl 4 rfl) ?_
    obtain ⟨r_25, S_23, hc_24, hZ⟩ := jx_b2_some hZ
    refine call_Vi SX_ok sameX ⟨hx, hb, hml, hown, hts⟩ (hrc x2 (2 : Int32) x3 x4 S _ (r_25, S_23)  hc_24) (cwV 4 hts gX2_run_X2_from rfl rfl rfl hd_X2_from ⟨by dsimp only; omega, by dsimp only; omega⟩) hK hP hD hS hA hsp (va_recv hK hP (ci := 2) (q0 := 34) rfl wX_34) (As := [.int x2, .int (2 : Int32), .int x3, .int x4]) rfl hl.1 rfl (Nat.le_of_ble_eq_true rfl) dX2_run_188 ⟨Nat.zero_le _, Nat.zero_le _⟩ (fun H locs hP hD hS => ?_)
    refine lv_iconst (v := (3 : Int32)) hx hb dX2_run_191 (by decide) ?_
    refine lv_imul hx hb dX2_run_192 ?_
    exact leave_i hx hb hr hlocks hP hS hZ dX2_run_193
  have hZ := jx_i_neg c_22 hZ
  by_cases c_26 : x1 = (41 : Int32)
  · have hZ := jx_i_pos c_26 hZ
    refine lv_lookup (off := 193) (tgt := 194) hx hb dX2_run_1 (by decide) (by rw [c_26]; rfl) (by decide) ?_
    refine lv_aload_n hx hb dX2_run_194 rfl (lv_at hl 0 rfl) ?_
    refine lv_iload_n hx hb dX2_run_195 rfl (lv_at hl 2 rfl) ?_
    refine lv_iconst (v := (1 : Int32)) hx hb dX2_run_196 (by decide) ?_
    refine lv_iload_n hx hb dX2_run_197 rfl (lv_at hl 3 rfl) ?_
    refine lv_iconst (v := (1 : Int32)) hx hb dX2_run_198 (by decide) ?_
    refine lv_iadd hx hb dX2_run_199 ?_
    refine lv_iload hx hb dX2_run_200 (lv_at hl 4 rfl) ?_
    obtain ⟨r_29, S_27, hc_28, hZ⟩ := jx_b2_some hZ
    refine call_Vi SX_ok sameX ⟨hx, hb, hml, hown, hts⟩ (hrc x2 (1 : Int32) (x3 + (1 : Int32)) x4 S _ (r_29, S_27)  hc_28) (cwV 4 hts gX2_run_X2_from rfl rfl rfl hd_X2_from ⟨by dsimp only; omega, by dsimp only; omega⟩) hK hP hD hS hA hsp (va_recv hK hP (ci := 2) (q0 := 34) rfl wX_34) (As := [.int x2, .int (1 : Int32), .int (x3 + (1 : Int32)), .int x4]) rfl hl.1 rfl (Nat.le_of_ble_eq_true rfl) dX2_run_202 ⟨Nat.zero_le _, Nat.zero_le _⟩ (fun H locs hP hD hS => ?_)
    exact leave_i hx hb hr hlocks hP hS hZ dX2_run_205
  have hZ := jx_i_neg c_26 hZ
  by_cases c_30 : x1 = (50 : Int32)
  · have hZ := jx_i_pos c_30 hZ
    refine lv_lookup (off := 205) (tgt := 206) hx hb dX2_run_1 (by decide) (by rw [c_30]; rfl) (by decide) ?_
    refine lv_aload_n hx hb dX2_run_206 rfl (lv_at hl 0 rfl) ?_
    refine lv_iload_n hx hb dX2_run_207 rfl (lv_at hl 2 rfl) ?_
    refine lv_iconst (v := (2 : Int32)) hx hb dX2_run_208 (by decide) ?_
    refine lv_iload_n hx hb dX2_run_209 rfl (lv_at hl 3 rfl) ?_
    refine lv_iload hx hb dX2_run_210 (lv_at hl 4 rfl) ?_
    obtain ⟨r_33, S_31, hc_32, hZ⟩ := jx_b2_some hZ
    refine call_Vi SX_ok sameX ⟨hx, hb, hml, hown, hts⟩ (hrc x2 (2 : Int32) x3 x4 S _ (r_33, S_31)  hc_32) (cwV 4 hts gX2_run_X2_from rfl rfl rfl hd_X2_from ⟨by dsimp only; omega, by dsimp only; omega⟩) hK hP hD hS hA hsp (va_recv hK hP (ci := 2) (q0 := 34) rfl wX_34) (As := [.int x2, .int (2 : Int32), .int x3, .int x4]) rfl hl.1 rfl (Nat.le_of_ble_eq_true rfl) dX2_run_212 ⟨Nat.zero_le _, Nat.zero_le _⟩ (fun H locs hP hD hS => ?_)
    refine lv_aload_n hx hb dX2_run_215 rfl (lv_at hl 0 rfl) ?_
    refine lv_iconst (v := (0 : Int32)) hx hb dX2_run_216 (by decide) ?_
    refine lv_iconst (v := (2 : Int32)) hx hb dX2_run_217 (by decide) ?_
    refine lv_iload hx hb dX2_run_218 (lv_at hl 4 rfl) ?_
    obtain ⟨r_36, S_34, hc_35, hZ⟩ := jx_b2_some hZ
    refine call_Vi SX_ok sameX ⟨hx, hb, hml, hown, hts⟩ (c_X2_own l D q k rc fr lo hrc (0 : Int32) (2 : Int32) x4 S_31 _ (r_36, S_34)  hc_35) (cwV 3 hts gX2_run_X2_own rfl rfl rfl hd_X2_own ⟨by dsimp only; omega, by dsimp only; omega⟩) hK hP hD hS hA hsp (va_recv hK hP (ci := 2) (q0 := 34) rfl wX_34) (As := [.int (0 : Int32), .int (2 : Int32), .int x4]) rfl hl.1 rfl (Nat.le_of_ble_eq_true rfl) dX2_run_220 ⟨Nat.zero_le _, Nat.zero_le _⟩ (fun H locs hP hD hS => ?_)
    refine lv_isub hx hb dX2_run_223 ?_
    exact leave_i hx hb hr hlocks hP hS hZ dX2_run_224
  have hZ := jx_i_neg c_30 hZ
  by_cases c_37 : x1 = (60 : Int32)
  · have hZ := jx_i_pos c_37 hZ
    refine lv_lookup (off := 224) (tgt := 225) hx hb dX2_run_1 (by decide) (by rw [c_37]; rfl) (by decide) ?_
    refine lv_aload_n hx hb dX2_run_225 rfl (lv_at hl 0 rfl) ?_
    refine lv_iload_n hx hb dX2_run_226 rfl (lv_at hl 2 rfl) ?_
    refine lv_iconst (v := (3 : Int32)) hx hb dX2_run_227 (by decide) ?_
    refine lv_iload_n hx hb dX2_run_228 rfl (lv_at hl 3 rfl) ?_
    refine lv_iload hx hb dX2_run_229 (lv_at hl 4 rfl) ?_
    obtain ⟨r_40, S_38, hc_39, hZ⟩ := jx_b2_some hZ
    refine call_Vi SX_ok sameX ⟨hx, hb, hml, hown, hts⟩ (hrc x2 (3 : Int32) x3 x4 S _ (r_40, S_38)  hc_39) (cwV 4 hts gX2_run_X2_from rfl rfl rfl hd_X2_from ⟨by dsimp only; omega, by dsimp only; omega⟩) hK hP hD hS hA hsp (va_recv hK hP (ci := 2) (q0 := 34) rfl wX_34) (As := [.int x2, .int (3 : Int32), .int x3, .int x4]) rfl hl.1 rfl (Nat.le_of_ble_eq_true rfl) dX2_run_231 ⟨Nat.zero_le _, Nat.zero_le _⟩ (fun H locs hP hD hS => ?_)
    refine lv_iconst (v := (5 : Int32)) hx hb dX2_run_234 (by decide) ?_
    refine lv_ixor hx hb dX2_run_235 ?_
    exact leave_i hx hb hr hlocks hP hS hZ dX2_run_236
  have hZ := jx_i_neg c_37 hZ
  by_cases c_41 : x1 = (70 : Int32)
  · have hZ := jx_i_pos c_41 hZ
    refine lv_lookup (off := 236) (tgt := 237) hx hb dX2_run_1 (by decide) (by rw [c_41]; rfl) (by decide) ?_
    refine lv_aload_n hx hb dX2_run_237 rfl (lv_at hl 0 rfl) ?_
    refine lv_iload_n hx hb dX2_run_238 rfl (lv_at hl 2 rfl) ?_
    refine lv_iconst (v := (0 : Int32)) hx hb dX2_run_239 (by decide) ?_
    refine lv_iload_n hx hb dX2_run_240 rfl (lv_at hl 3 rfl) ?_
    refine lv_iload hx hb dX2_run_241 (lv_at hl 4 rfl) ?_
    obtain ⟨r_44, S_42, hc_43, hZ⟩ := jx_b2_some hZ
    refine call_Vi SX_ok sameX ⟨hx, hb, hml, hown, hts⟩ (hrc x2 (0 : Int32) x3 x4 S _ (r_44, S_42)  hc_43) (cwV 4 hts gX2_run_X2_from rfl rfl rfl hd_X2_from ⟨by dsimp only; omega, by dsimp only; omega⟩) hK hP hD hS hA hsp (va_recv hK hP (ci := 2) (q0 := 34) rfl wX_34) (As := [.int x2, .int (0 : Int32), .int x3, .int x4]) rfl hl.1 rfl (Nat.le_of_ble_eq_true rfl) dX2_run_243 ⟨Nat.zero_le _, Nat.zero_le _⟩ (fun H locs hP hD hS => ?_)
    refine lv_iconst (v := (2 : Int32)) hx hb dX2_run_246 (by decide) ?_
    refine lv_imul hx hb dX2_run_247 ?_
    exact leave_i hx hb hr hlocks hP hS hZ dX2_run_248
  have hZ := jx_i_neg c_41 hZ
  by_cases c_45 : x1 = (80 : Int32)
  · have hZ := jx_i_pos c_45 hZ
    refine lv_lookup (off := 248) (tgt := 249) hx hb dX2_run_1 (by decide) (by rw [c_45]; rfl) (by decide) ?_
    refine lv_aload_n hx hb dX2_run_249 rfl (lv_at hl 0 rfl) ?_
    refine lv_iload_n hx hb dX2_run_250 rfl (lv_at hl 2 rfl) ?_
    refine lv_iconst (v := (1 : Int32)) hx hb dX2_run_251 (by decide) ?_
    refine lv_iload_n hx hb dX2_run_252 rfl (lv_at hl 3 rfl) ?_
    refine lv_iload hx hb dX2_run_253 (lv_at hl 4 rfl) ?_
    obtain ⟨r_48, S_46, hc_47, hZ⟩ := jx_b2_some hZ
    refine call_Vi SX_ok sameX ⟨hx, hb, hml, hown, hts⟩ (hrc x2 (1 : Int32) x3 x4 S _ (r_48, S_46)  hc_47) (cwV 4 hts gX2_run_X2_from rfl rfl rfl hd_X2_from ⟨by dsimp only; omega, by dsimp only; omega⟩) hK hP hD hS hA hsp (va_recv hK hP (ci := 2) (q0 := 34) rfl wX_34) (As := [.int x2, .int (1 : Int32), .int x3, .int x4]) rfl hl.1 rfl (Nat.le_of_ble_eq_true rfl) dX2_run_255 ⟨Nat.zero_le _, Nat.zero_le _⟩ (fun H locs hP hD hS => ?_)
    refine lv_aload_n hx hb dX2_run_258 rfl (lv_at hl 0 rfl) ?_
    refine lv_iconst (v := (2 : Int32)) hx hb dX2_run_259 (by decide) ?_
    refine lv_iconst (v := (2 : Int32)) hx hb dX2_run_260 (by decide) ?_
    refine lv_iload hx hb dX2_run_261 (lv_at hl 4 rfl) ?_
    obtain ⟨r_51, S_49, hc_50, hZ⟩ := jx_b2_some hZ
    refine call_Vi SX_ok sameX ⟨hx, hb, hml, hown, hts⟩ (c_X2_own l D q k rc fr lo hrc (2 : Int32) (2 : Int32) x4 S_46 _ (r_51, S_49)  hc_50) (cwV 3 hts gX2_run_X2_own rfl rfl rfl hd_X2_own ⟨by dsimp only; omega, by dsimp only; omega⟩) hK hP hD hS hA hsp (va_recv hK hP (ci := 2) (q0 := 34) rfl wX_34) (As := [.int (2 : Int32), .int (2 : Int32), .int x4]) rfl hl.1 rfl (Nat.le_of_ble_eq_true rfl) dX2_run_263 ⟨Nat.zero_le _, Nat.zero_le _⟩ (fun H locs hP hD hS => ?_)
    refine lv_iadd hx hb dX2_run_266 ?_
    exact leave_i hx hb hr hlocks hP hS hZ dX2_run_267
  have hZ := jx_i_neg c_45 hZ
  by_cases c_52 : x1 = (81 : Int32)
  · have hZ := jx_i_pos c_52 hZ
    refine lv_lookup (off := 267) (tgt := 268) hx hb dX2_run_1 (by decide) (by rw [c_52]; rfl) (by decide) ?_
    refine lv_aload_n hx hb dX2_run_268 rfl (lv_at hl 0 rfl) ?_
    refine lv_iload_n hx hb dX2_run_269 rfl (lv_at hl 2 rfl) ?_
    refine lv_iconst (v := (3 : Int32)) hx hb dX2_run_270 (by decide) ?_
    refine lv_iload_n hx hb dX2_run_271 rfl (lv_at hl 3 rfl) ?_
    refine lv_iload hx hb dX2_run_272 (lv_at hl 4 rfl) ?_
    obtain ⟨r_55, S_53, hc_54, hZ⟩ := jx_b2_some hZ
    refine call_Vi SX_ok sameX ⟨hx, hb, hml, hown, hts⟩ (hrc x2 (3 : Int32) x3 x4 S _ (r_55, S_53)  hc_54) (cwV 4 hts gX2_run_X2_from rfl rfl rfl hd_X2_from ⟨by dsimp only; omega, by dsimp only; omega⟩) hK hP hD hS hA hsp (va_recv hK hP (ci := 2) (q0 := 34) rfl wX_34) (As := [.int x2, .int (3 : Int32), .int x3, .int x4]) rfl hl.1 rfl (Nat.le_of_ble_eq_true rfl) dX2_run_274 ⟨Nat.zero_le _, Nat.zero_le _⟩ (fun H locs hP hD hS => ?_)
    refine lv_iconst (v := (1 : Int32)) hx hb dX2_run_277 (by decide) ?_
    refine lv_isub hx hb dX2_run_278 ?_
    exact leave_i hx hb hr hlocks hP hS hZ dX2_run_279
  have hZ := jx_i_neg c_52 hZ
  refine lv_lookup (off := 279) (tgt := 280) hx hb dX2_run_1 (by decide) ?_ (by decide) ?_
  · show Op.lookupswitch.offset [(1, 115), (2, 122), (10, 140), (11, 151), (20, 158), (30, 170), (40, 181), (41, 193), (50, 205), (60, 224), (70, 236), (80, 248), (81, 267)] 279 _ = 279
    rw [lv_osw c_1 (show (1 : Int32).toInt = 1 from rfl), lv_osw c_2 (show (2 : Int32).toInt = 2 from rfl), lv_osw c_9 (show (10 : Int32).toInt = 10 from rfl), lv_osw c_13 (show (11 : Int32).toInt = 11 from rfl), lv_osw c_14 (show (20 : Int32).toInt = 20 from rfl), lv_osw c_18 (show (30 : Int32).toInt = 30 from rfl), lv_osw c_22 (show (40 : Int32).toInt = 40 from rfl), lv_osw c_26 (show (41 : Int32).toInt = 41 from rfl), lv_osw c_30 (show (50 : Int32).toInt = 50 from rfl), lv_osw c_37 (show (60 : Int32).toInt = 60 from rfl), lv_osw c_41 (show (70 : Int32).toInt = 70 from rfl), lv_osw c_45 (show (80 : Int32).toInt = 80 from rfl), lv_osw c_52 (show (81 : Int32).toInt = 81 from rfl)]; rfl
  · refine lv_iconst (v := (0 : Int32)) hx hb dX2_run_280 (by decide) ?_
    exact leave_i hx hb hr hlocks hP hS hZ dX2_run_281
theorem hd_X2_note : yX2_note.cls = RX2 ∧ yX2_note.cls ≠ "java/lang/invoke/MethodHandle" ∧ yX2_note.cls ≠ "java/lang/invoke/VarHandle" ∧ (parseMethodDescriptor yX2_note.desc).map (fun d => d.parameters.length) = some 1 := by decide +kernel
theorem hd_X2_run : yX2_run.cls = RX2 ∧ yX2_run.cls ≠ "java/lang/invoke/MethodHandle" ∧ yX2_run.cls ≠ "java/lang/invoke/VarHandle" ∧ (parseMethodDescriptor yX2_run.desc).map (fun d => d.parameters.length) = some 4 := by decide +kernel
-- X2_from
def f_X2_from_87 (rc : Int32 → Int32 → Int32 → Int32 → St → Option (Int32 × St)) (S_4 : St) : Option (Int32 × St) :=
  some ((0 : Int32), S_4)
def f_X2_from_49 (rc : Int32 → Int32 → Int32 → Int32 → St → Option (Int32 × St)) (x3_6 : Int32) (x4_6 : Int32) (x5_6 : Int32) (x7_6 : Int32) (S_6 : St) : Option (Int32 × St) :=
  jx_b (f_X2_note x7_6 S_6) (fun S_7 => jx_a x5_6 8 (jx_b2 (f_X2_run rc x7_6 (st_ABOVE (Int32.toNatClampNeg x5_6)) x3_6 (x4_6 + (1 : Int32)) S_7) (fun r_12 S_10 => some (r_12, S_10))))
def b_X2_from_6 (rc : Int32 → Int32 → Int32 → Int32 → St → Option (Int32 × St)) (x2 : Int32) (x3 : Int32) (x4 : Int32) (x5 : Int32) (x6 : Int32) (S : St) : Option ((Int32 × Int32) ⊕ ((Unit) ⊕ ((Int32 × Int32)))) :=
  (if (8 : Int32) ≤ x6 then some (.inr (.inl ())) else (if x5 < 0 then some (.inr (.inl ())) else (if (8 : Int32) ≤ x5 then some (.inr (.inl ())) else (if (40 : Int32) ≤ x4 then some (.inr (.inl ())) else jx_a ((x5 * (4 : Int32)) + x2) 32 (jx_l (st_BODY_OF (Int32.toNatClampNeg ((x5 * (4 : Int32)) + x2))) (fun x7_23 => (if x7_23 = 0 then jx_a x5 8 (jx_l (st_ABOVE (Int32.toNatClampNeg x5)) (fun x5_26 => jx_l (x6 + 1) (fun x6_27 => some (.inl (x5_26, x6_27))))) else some (.inr (.inr (x5, x7_23))))))))))
def g_X2_from_6 (rc : Int32 → Int32 → Int32 → Int32 → St → Option (Int32 × St)) (x2 : Int32) (x3 : Int32) (x4 : Int32) (S : St) : (Int32 × Int32) → Option ((Int32 × Int32) ⊕ ((Unit) ⊕ ((Int32 × Int32)))) := fun z => b_X2_from_6 rc x2 x3 x4 z.1 z.2 S
def fb_X2_from (rc : Int32 → Int32 → Int32 → Int32 → St → Option (Int32 × St)) (x1 : Int32) (x2 : Int32) (x3 : Int32) (x4 : Int32) (S : St) : Option (Int32 × St) :=
  jx_b (jx_w (g_X2_from_6 rc x2 x3 x4 S) FU (x1, (0 : Int32))) (fun z => Sum.elim (fun z => f_X2_from_87 rc S) (fun z => f_X2_from_49 rc x3 x4 z.1 z.2 S) z)
def f_X2_from : Nat → Int32 → Int32 → Int32 → Int32 → St → Option (Int32 × St)
  | 0, _, _, _, _, _ => none
  | n + 1, x1, x2, x3, x4, S => fb_X2_from (f_X2_from n) x1 x2 x3 x4 S
set_option maxHeartbeats 4000000 in
set_option maxRecDepth 100000 in
theorem cb_X2_from (l : Launch) (D : va_G) (q : Nat → Nat) (k : CI) (rc : Int32 → Int32 → Int32 → Int32 → St → Option (Int32 × St)) (fr lo : Nat) (hrc : ∀ (x1 : Int32) (x2 : Int32) (x3 : Int32) (x4 : Int32) (S : St) (sz : Nat) (Z : Int32 × St), rc x1 x2 x3 x4 S = some Z → MetI W_X SX l yX2_from wsX2_from { frames := fr, cells := 0, slots := 0, locals := lo } [.ref (q 34), .int x1, .int x2, .int x3, .int x4] D q k S sz Z) (x1 : Int32) (x2 : Int32) (x3 : Int32) (x4 : Int32) (S : St) (sz : Nat) (Z : Int32 × St) (hZ : fb_X2_from rc x1 x2 x3 x4 S = some Z) : MetI W_X SX l yX2_from wsX2_from { frames := fr + 4, cells := 0, slots := 0, locals := lo + 89 } [.ref (q 34), .int x1, .int x2, .int x3, .int x4] D q k S sz Z := by
  refine enter (cc := cX2_from) (maxL := 8) (ret := some .int) (by decide) rfl (Nat.le_of_ble_eq_true rfl) ?_
  intro p e s m below meth c A ls hx hb hr hts hown hlocks hml hP hK hD hA hS hsp hAe hl
  have hown : s.vm.findClass RX2 = some m.cls := hown
  have hl : lv_has ls 8 [(0, .ref (q 34)), (1, .int x1), (2, .int x2), (3, .int x3), (4, .int x4)] := hl
  have j87 : ∀ (S_4 : St)  (H : Heap) (locs : List Loc) (hZ : f_X2_from_87 rc S_4 = some Z) (hP : va_P D vwCl (W_X q k S_4) H) (hD : va_D A (W_X q k S_4)) (hS : va_S A s.heap H locs) (ls : Array Slot) (hl : lv_has ls 8 []), W p l e ({ frames := fr + 4, cells := 0, slots := 0, locals := lo + 89 } : Room) s m ([.ref (q 34), .int x1, .int x2, .int x3, .int x4] : List Value).toArray below meth c H locs 0 0 (MQ below (va_Qi (fun r u => (r, u) = Z) (fun u t => va_P D vwCl (W_X q k u) t.heap) A) ([.ref (q 34), .int x1, .int x2, .int x3, .int x4] : List Value).toArray s 0 0 A) (F0 m 87 ls []) := by
    intro S_4   H locs hZ hP hD hS ls hl
    unfold f_X2_from_87 at hZ
    refine lv_iconst (v := (0 : Int32)) hx hb dX2_from_87 (by decide) ?_
    exact leave_i hx hb hr hlocks hP hS hZ dX2_from_88
  have j49 : ∀ (x3_6 : Int32) (x4_6 : Int32) (x5_6 : Int32) (x7_6 : Int32) (S_6 : St)  (H : Heap) (locs : List Loc) (hZ : f_X2_from_49 rc x3_6 x4_6 x5_6 x7_6 S_6 = some Z) (hP : va_P D vwCl (W_X q k S_6) H) (hD : va_D A (W_X q k S_6)) (hS : va_S A s.heap H locs) (ls : Array Slot) (hl : lv_has ls 8 [(0, .ref (q 34)), (3, .int x3_6), (4, .int x4_6), (5, .int x5_6), (7, .int x7_6)]), W p l e ({ frames := fr + 4, cells := 0, slots := 0, locals := lo + 89 } : Room) s m ([.ref (q 34), .int x1, .int x2, .int x3, .int x4] : List Value).toArray below meth c H locs 0 0 (MQ below (va_Qi (fun r u => (r, u) = Z) (fun u t => va_P D vwCl (W_X q k u) t.heap) A) ([.ref (q 34), .int x1, .int x2, .int x3, .int x4] : List Value).toArray s 0 0 A) (F0 m 49 ls []) := by
    intro x3_6 x4_6 x5_6 x7_6 S_6   H locs hZ hP hD hS ls hl
    unfold f_X2_from_49 at hZ
    refine lv_aload_n hx hb dX2_from_49 rfl (lv_at hl 0 rfl) ?_
    refine lv_iload hx hb dX2_from_50 (lv_at hl 4 rfl) ?_
    obtain ⟨S_7, hc_8, hZ⟩ := jx_b_some hZ
    refine call_Vv SX_ok sameX ⟨hx, hb, hml, hown, hts⟩ (c_X2_note l D q k x7_6 S_6 _ S_7  hc_8) (cwV 1 hts gX2_from_X2_note rfl rfl rfl hd_X2_note ⟨by dsimp only; omega, by dsimp only; omega⟩) hK hP hD hS hA hsp (va_recv hK hP (ci := 2) (q0 := 34) rfl wX_34) (As := [.int x7_6]) rfl hl.1 rfl (Nat.le_of_ble_eq_true rfl) dX2_from_52 ⟨Nat.zero_le _, Nat.zero_le _⟩ (fun H locs hP hD hS => ?_)
    refine lv_aload_n hx hb dX2_from_55 rfl (lv_at hl 0 rfl) ?_
    refine lv_iload hx hb dX2_from_56 (lv_at hl 4 rfl) ?_
    refine va_gets hx hb hsp.2.2.2.2.2.1 hS hown (hts (.fieldLink RX2 26 "CoinsOfLast$Deeds" "ABOVE" "[I") (List.mem_of_getElem? (i := 2) rfl)) (fun _ h9 => h9) dX2_from_58 ?_
    refine lv_iload hx hb dX2_from_61 (lv_at hl 3 rfl) ?_
    obtain ⟨c_9, hZ⟩ := jx_a_some hZ
    refine va_ti (v := .int (st_ABOVE (Int32.toNatClampNeg x5_6))) hx hb hsp.2.2.2.2.2.2.1 hS c_9 rfl dX2_from_63 ?_
    refine lv_iload_n hx hb dX2_from_64 rfl (lv_at hl 1 rfl) ?_
    refine lv_iload hx hb dX2_from_65 (lv_at hl 2 rfl) ?_
    refine lv_iconst (v := (1 : Int32)) hx hb dX2_from_67 (by decide) ?_
    refine lv_iadd hx hb dX2_from_68 ?_
    obtain ⟨r_12, S_10, hc_11, hZ⟩ := jx_b2_some hZ
    refine call_Vi SX_ok sameX ⟨hx, hb, hml, hown, hts⟩ (c_X2_run l D q k rc fr lo hrc x7_6 (st_ABOVE (Int32.toNatClampNeg x5_6)) x3_6 (x4_6 + (1 : Int32)) S_7 _ (r_12, S_10)  hc_11) (cwV 4 hts gX2_from_X2_run rfl rfl rfl hd_X2_run ⟨by dsimp only; omega, by dsimp only; omega⟩) hK hP hD hS hA hsp (va_recv hK hP (ci := 2) (q0 := 34) rfl wX_34) (As := [.int x7_6, .int (st_ABOVE (Int32.toNatClampNeg x5_6)), .int x3_6, .int (x4_6 + (1 : Int32))]) rfl hl.1 rfl (Nat.le_of_ble_eq_true rfl) dX2_from_69 ⟨Nat.zero_le _, Nat.zero_le _⟩ (fun H locs hP hD hS => ?_)
    exact leave_i hx hb hr hlocks hP hS hZ dX2_from_72
  unfold fb_X2_from at hZ
  refine lv_iload_n hx hb dX2_from_0 rfl (lv_at hl 1 rfl) ?_
  refine lv_istore (lv' := [(5, .int x1), (0, .ref (q 34)), (1, .int x1), (2, .int x2), (3, .int x3), (4, .int x4)]) hx hb dX2_from_1 hl (by decide) rfl (fun ls hl => ?_)
  refine lv_iconst (v := (0 : Int32)) hx hb dX2_from_3 (by decide) ?_
  refine lv_istore (lv' := [(6, .int (0 : Int32)), (5, .int x1), (0, .ref (q 34)), (1, .int x1), (2, .int x2), (3, .int x3), (4, .int x4)]) hx hb dX2_from_4 hl (by decide) rfl (fun ls hl => ?_)
  obtain ⟨r_3, hw, hza_3⟩ := jx_b_some hZ
  have l_3 : ∀ (nn : Nat) (x5_1 : Int32) (x6_2 : Int32) (H : Heap) (locs : List Loc) (hw : jx_w (g_X2_from_6 rc x2 x3 x4 S) nn (x5_1, x6_2) = some r_3) (hP : va_P D vwCl (W_X q k S) H) (hD : va_D A (W_X q k S)) (hS : va_S A s.heap H locs) (ls : Array Slot) (hl : lv_has ls 8 [(0, .ref (q 34)), (2, .int x2), (3, .int x3), (4, .int x4), (5, .int x5_1), (6, .int x6_2)]), W p l e ({ frames := fr + 4, cells := 0, slots := 0, locals := lo + 89 } : Room) s m ([.ref (q 34), .int x1, .int x2, .int x3, .int x4] : List Value).toArray below meth c H locs 0 0 (MQ below (va_Qi (fun r u => (r, u) = Z) (fun u t => va_P D vwCl (W_X q k u) t.heap) A) ([.ref (q 34), .int x1, .int x2, .int x3, .int x4] : List Value).toArray s 0 0 A) (F0 m 6 ls []) := by
    intro nn
    induction nn with
    | zero =>
      intro x5_1 x6_2 H locs hw hP hD hS ls hl
      exact jx_w_zero hw
    | succ n_3 ih_3 =>
      intro x5_1 x6_2 H locs hw hP hD hS ls hl
      obtain ⟨o_3, hZ, hk_3⟩ := jx_w_succ hw
      have hZ : b_X2_from_6 rc x2 x3 x4 x5_1 x6_2 S = some o_3 := hZ
      unfold b_X2_from_6 at hZ
      refine lv_iload hx hb dX2_from_6 (lv_at hl 5 rfl) ?_
      refine lv_bipush (v := (8 : Int32)) hx hb dX2_from_8 (by decide) ?_
      refine lv_icmp_ge (tgt := 87) hx hb dX2_from_10 (by decide) (fun c_29 => ?_) (fun c_29 => ?_)
      · have hZ := jx_i_pos c_29 hZ
        have ho := Option.some.inj hZ
        subst ho
        have hE := hza_3
        rw [← (show .inl () = r_3 from hk_3)] at hE
        have hZ : f_X2_from_87 rc S = some Z := hE
        exact j87 S _ _ hZ hP hD hS _ (lv_sub hl [] rfl)
      · have hZ := jx_i_neg c_29 hZ
        refine lv_iload hx hb dX2_from_13 (lv_at hl 4 rfl) ?_
        refine lv_if_lt (tgt := 87) hx hb dX2_from_15 (by decide) (fun c_31 => ?_) (fun c_31 => ?_)
        · have hZ := jx_i_pos c_31 hZ
          have ho := Option.some.inj hZ
          subst ho
          have hE := hza_3
          rw [← (show .inl () = r_3 from hk_3)] at hE
          have hZ : f_X2_from_87 rc S = some Z := hE
          exact j87 S _ _ hZ hP hD hS _ (lv_sub hl [] rfl)
        · have hZ := jx_i_neg c_31 hZ
          refine lv_iload hx hb dX2_from_18 (lv_at hl 4 rfl) ?_
          refine lv_bipush (v := (8 : Int32)) hx hb dX2_from_20 (by decide) ?_
          refine lv_icmp_ge (tgt := 87) hx hb dX2_from_22 (by decide) (fun c_33 => ?_) (fun c_33 => ?_)
          · have hZ := jx_i_pos c_33 hZ
            have ho := Option.some.inj hZ
            subst ho
            have hE := hza_3
            rw [← (show .inl () = r_3 from hk_3)] at hE
            have hZ : f_X2_from_87 rc S = some Z := hE
            exact j87 S _ _ hZ hP hD hS _ (lv_sub hl [] rfl)
          · have hZ := jx_i_neg c_33 hZ
            refine lv_iload hx hb dX2_from_25 (lv_at hl 3 rfl) ?_
            refine lv_bipush (v := (40 : Int32)) hx hb dX2_from_27 (by decide) ?_
            refine lv_icmp_ge (tgt := 87) hx hb dX2_from_29 (by decide) (fun c_35 => ?_) (fun c_35 => ?_)
            · have hZ := jx_i_pos c_35 hZ
              have ho := Option.some.inj hZ
              subst ho
              have hE := hza_3
              rw [← (show .inl () = r_3 from hk_3)] at hE
              have hZ : f_X2_from_87 rc S = some Z := hE
              exact j87 S _ _ hZ hP hD hS _ (lv_sub hl [] rfl)
            · have hZ := jx_i_neg c_35 hZ
              refine va_gets hx hb hsp.2.2.2.2.2.2.2.1 hS hown (hts (.fieldLink RX2 51 "CoinsOfLast$Deeds" "BODY_OF" "[I") (List.mem_of_getElem? (i := 1) rfl)) (fun _ h9 => h9) dX2_from_32 ?_
              refine lv_iload hx hb dX2_from_35 (lv_at hl 4 rfl) ?_
              refine lv_iconst (v := (4 : Int32)) hx hb dX2_from_37 (by decide) ?_
              refine lv_imul hx hb dX2_from_38 ?_
              refine lv_iload_n hx hb dX2_from_39 rfl (lv_at hl 1 rfl) ?_
              refine lv_iadd hx hb dX2_from_40 ?_
              obtain ⟨c_37, hZ⟩ := jx_a_some hZ
              refine va_ti (v := .int (st_BODY_OF (Int32.toNatClampNeg ((x5_1 * (4 : Int32)) + x2)))) hx hb hsp.2.2.2.2.2.2.2.2 hS c_37 rfl dX2_from_41 ?_
              obtain ⟨x7_38, e_x7_38, hZ⟩ := jx_l_some hZ
              refine tx_i e_x7_38 ?_
              refine lv_istore (lv' := [(7, .int x7_38), (0, .ref (q 34)), (2, .int x2), (3, .int x3), (4, .int x4), (5, .int x5_1), (6, .int x6_2)]) hx hb dX2_from_42 hl (by decide) rfl (fun ls hl => ?_)
              refine lv_iload hx hb dX2_from_44 (lv_at hl 0 rfl) ?_
              refine lv_if_eq (tgt := 73) hx hb dX2_from_46 (by decide) (fun c_39 => ?_) (fun c_39 => ?_)
              · have hZ := jx_i_pos c_39 hZ
                refine va_gets hx hb hsp.2.2.2.2.2.1 hS hown (hts (.fieldLink RX2 26 "CoinsOfLast$Deeds" "ABOVE" "[I") (List.mem_of_getElem? (i := 2) rfl)) (fun _ h9 => h9) dX2_from_73 ?_
                refine lv_iload hx hb dX2_from_76 (lv_at hl 5 rfl) ?_
                obtain ⟨c_40, hZ⟩ := jx_a_some hZ
                refine va_ti (v := .int (st_ABOVE (Int32.toNatClampNeg x5_1))) hx hb hsp.2.2.2.2.2.2.1 hS c_40 rfl dX2_from_78 ?_
                obtain ⟨x5_41, e_x5_41, hZ⟩ := jx_l_some hZ
                refine tx_i e_x5_41 ?_
                refine lv_istore (lv' := [(5, .int x5_41), (7, .int x7_38), (0, .ref (q 34)), (2, .int x2), (3, .int x3), (4, .int x4), (6, .int x6_2)]) hx hb dX2_from_79 hl (by decide) rfl (fun ls hl => ?_)
                obtain ⟨x6_42, e_x6_42, hZ⟩ := jx_l_some hZ
                refine lv_iinc (v := x6_42) (lv' := [(6, .int x6_42), (5, .int x5_41), (7, .int x7_38), (0, .ref (q 34)), (2, .int x2), (3, .int x3), (4, .int x4)]) hx hb dX2_from_81 hl (k := 6) rfl (by rw [e_x6_42]; rfl) (by decide) rfl (fun ls hl => ?_)
                refine lv_goto (tgt := 6) hx hb dX2_from_84 (by decide) ?_
                have ho := Option.some.inj hZ
                subst ho
                exact ih_3 x5_41 x6_42 _ _ hk_3 hP hD hS _ (lv_sub hl [3, 4, 5, 6, 1, 0] rfl)
              · have hZ := jx_i_neg c_39 hZ
                have ho := Option.some.inj hZ
                subst ho
                have hE := hza_3
                rw [← (show .inr (x5_1, x7_38) = r_3 from hk_3)] at hE
                have hZ : f_X2_from_49 rc x3 x4 x5_1 x7_38 S = some Z := hE
                exact j49 x3 x4 x5_1 x7_38 S _ _ hZ hP hD hS _ (lv_sub hl [1, 3, 4, 5, 0] rfl)
  exact l_3 FU x1 (0 : Int32) _ _ hw hP hD hS _ (lv_sub hl [2, 4, 5, 6, 1, 0] rfl)
theorem c_X2_from (l : Launch) (D : va_G) (q : Nat → Nat) (k : CI) : ∀ (n : Nat) (x1 : Int32) (x2 : Int32) (x3 : Int32) (x4 : Int32) (S : St) (sz : Nat) (Z : Int32 × St) (hZ : f_X2_from n x1 x2 x3 x4 S = some Z), MetI W_X SX l yX2_from wsX2_from { frames := 4 * n, cells := 0, slots := 0, locals := 89 * n } [.ref (q 34), .int x1, .int x2, .int x3, .int x4] D q k S sz Z := by
  intro n
  induction n with
  | zero =>
    intro x1 x2 x3 x4 S sz Z  hZ
    unfold f_X2_from at hZ
    cases hZ
  | succ n ih =>
    intro x1 x2 x3 x4 S sz Z  hZ
    unfold f_X2_from at hZ
    exact cb_X2_from l D q k (f_X2_from n) (4 * n) (89 * n) ih x1 x2 x3 x4 S sz Z  hZ
-- X2_begin
def f_X2_begin (x1 : Int32) (x2 : Int32) (x3 : Int32) (S : St) : Option (Int32 × St) :=
  jx_l (u1 S 34 3 (0 : Int32)) (fun S_1 => jx_b2 (f_X2_knows x1 S_1) (fun r_4 S_2 => (if r_4 = 0 then some ((0 : Int32), S_2) else jx_b2 (f_X11_within x2 (0 : Int32) (3 : Int32) S_2) (fun r_8 S_6 => (if r_8 = 0 then some ((0 : Int32), S_6) else jx_l (u1 S_6 34 4 x1) (fun S_10 => jx_b2 (f_X2_own (f_X2_from 45) x2 x3 (0 : Int32) S_10) (fun r_13 S_11 => some (r_13, S_11))))))))
theorem gX2_begin_X11_within : GoodIn wsX2_begin wsX11_within := goodIn_r _ [11] rfl (by decide +kernel)
set_option maxHeartbeats 4000000 in
set_option maxRecDepth 100000 in
theorem c_X2_begin (l : Launch) (D : va_G) (q : Nat → Nat) (k : CI) (x1 : Int32) (x2 : Int32) (x3 : Int32) (S : St) (sz : Nat) (Z : Int32 × St) (hZ : f_X2_begin x1 x2 x3 S = some Z) : MetI W_X SX l yX2_begin wsX2_begin { frames := 183, cells := 0, slots := 0, locals := 4070 } [.ref (q 34), .int x1, .int x2, .int x3] D q k S sz Z := by
  refine enter (cc := cX2_begin) (maxL := 4) (ret := some .int) (by decide) rfl (Nat.le_of_ble_eq_true rfl) ?_
  intro p e s m below meth c A ls hx hb hr hts hown hlocks hml hP hK hD hA hS hsp hAe hl
  have hown : s.vm.findClass RX2 = some m.cls := hown
  have hl : lv_has ls 4 [(0, .ref (q 34)), (1, .int x1), (2, .int x2), (3, .int x3)] := hl
  have in2 : ∀ w ∈ wsX20, w ∈ wsX2_begin := fun _ h => (List.mem_cons_of_mem _ (List.mem_append_right _ h))
  unfold f_X2_begin at hZ
  refine lv_aload_n hx hb dX2_begin_0 rfl (lv_at hl 0 rfl) ?_
  refine lv_iconst (v := (0 : Int32)) hx hb dX2_begin_1 (by decide) ?_
  obtain ⟨S_1, e_S_1, hZ⟩ := jx_l_some hZ
  refine pf_2_ran hx hb hts in2 hown hK hP hD hS (hts (.fieldLink RX2 29 "CoinsOfLast$Deeds" "ran" "I") (List.mem_of_getElem? (i := 1) rfl)) e_S_1 dX2_begin_2 (fun H locs hP hD hS => ?_)
  refine lv_aload_n hx hb dX2_begin_5 rfl (lv_at hl 0 rfl) ?_
  refine lv_iload_n hx hb dX2_begin_6 rfl (lv_at hl 1 rfl) ?_
  obtain ⟨r_4, S_2, hc_3, hZ⟩ := jx_b2_some hZ
  refine call_Vi SX_ok sameX ⟨hx, hb, hml, hown, hts⟩ (c_X2_knows l D q k x1 S_1 _ (r_4, S_2)  hc_3) (cwV 1 hts gX2_begin_X2_knows rfl rfl rfl hd_X2_knows ⟨Nat.le_of_ble_eq_true rfl, Nat.le_of_ble_eq_true rfl⟩) hK hP hD hS hA hsp (va_recv hK hP (ci := 2) (q0 := 34) rfl wX_34) (As := [.int x1]) rfl hl.1 rfl (Nat.le_of_ble_eq_true rfl) dX2_begin_7 ⟨Nat.zero_le _, Nat.zero_le _⟩ (fun H locs hP hD hS => ?_)
  refine lv_if_eq (tgt := 22) hx hb dX2_begin_10 (by decide) (fun c_5 => ?_) (fun c_5 => ?_)
  · have hZ := jx_i_pos c_5 hZ
    refine lv_iconst (v := (0 : Int32)) hx hb dX2_begin_22 (by decide) ?_
    exact leave_i hx hb hr hlocks hP hS hZ dX2_begin_23
  · have hZ := jx_i_neg c_5 hZ
    refine lv_iload_n hx hb dX2_begin_13 rfl (lv_at hl 2 rfl) ?_
    refine lv_iconst (v := (0 : Int32)) hx hb dX2_begin_14 (by decide) ?_
    refine lv_iconst (v := (3 : Int32)) hx hb dX2_begin_15 (by decide) ?_
    obtain ⟨r_8, S_6, hc_7, hZ⟩ := jx_b2_some hZ
    refine call_Ni SX_ok sameX ⟨hx, hb, hml, hown, hts⟩ (c_X11_within l D q k x2 (0 : Int32) (3 : Int32) S_2 _ (r_8, S_6)  hc_7) (va_cnB 3 hts gX2_begin_X11_within rfl rfl rfl (hsp.1 _ (List.mem_of_getElem? (i := 75) rfl)) (hts _ (List.mem_of_getElem? (i := 10) rfl)) hd_X11_within ⟨Nat.le_of_ble_eq_true rfl, Nat.le_of_ble_eq_true rfl⟩) (hts _ (List.mem_of_getElem? (i := 9) rfl)) hK hP hD hS hA hsp (As := [.int x2, .int (0 : Int32), .int (3 : Int32)]) rfl hl.1 rfl (Nat.le_of_ble_eq_true rfl) dX2_begin_16 ⟨Nat.zero_le _, Nat.zero_le _⟩ (fun H locs hP hD hS => ?_)
    refine lv_if_ne (tgt := 24) hx hb dX2_begin_19 (by decide) (fun c_9 => ?_) (fun c_9 => ?_)
    · have hZ := jx_i_neg c_9 hZ
      refine lv_aload_n hx hb dX2_begin_24 rfl (lv_at hl 0 rfl) ?_
      refine lv_iload_n hx hb dX2_begin_25 rfl (lv_at hl 1 rfl) ?_
      obtain ⟨S_10, e_S_10, hZ⟩ := jx_l_some hZ
      refine pf_2_actor hx hb hts in2 hown hK hP hD hS (hts (.fieldLink RX2 36 "CoinsOfLast$Deeds" "actor" "I") (List.mem_of_getElem? (i := 2) rfl)) e_S_10 dX2_begin_26 (fun H locs hP hD hS => ?_)
      refine lv_aload_n hx hb dX2_begin_29 rfl (lv_at hl 0 rfl) ?_
      refine lv_iload_n hx hb dX2_begin_30 rfl (lv_at hl 2 rfl) ?_
      refine lv_iload_n hx hb dX2_begin_31 rfl (lv_at hl 3 rfl) ?_
      refine lv_iconst (v := (0 : Int32)) hx hb dX2_begin_32 (by decide) ?_
      obtain ⟨r_13, S_11, hc_12, hZ⟩ := jx_b2_some hZ
      refine call_Vi SX_ok sameX ⟨hx, hb, hml, hown, hts⟩ (c_X2_own l D q k (f_X2_from 45) 180 4005 (c_X2_from l D q k 45) x2 x3 (0 : Int32) S_10 _ (r_13, S_11)  hc_12) (cwV 3 hts gX2_begin_X2_own rfl rfl rfl hd_X2_own ⟨Nat.le_of_ble_eq_true rfl, Nat.le_of_ble_eq_true rfl⟩) hK hP hD hS hA hsp (va_recv hK hP (ci := 2) (q0 := 34) rfl wX_34) (As := [.int x2, .int x3, .int (0 : Int32)]) rfl hl.1 rfl (Nat.le_of_ble_eq_true rfl) dX2_begin_33 ⟨Nat.zero_le _, Nat.zero_le _⟩ (fun H locs hP hD hS => ?_)
      exact leave_i hx hb hr hlocks hP hS hZ dX2_begin_36
    · have hZ := jx_i_pos c_9 hZ
      refine lv_iconst (v := (0 : Int32)) hx hb dX2_begin_22 (by decide) ?_
      exact leave_i hx hb hr hlocks hP hS hZ dX2_begin_23
-- X3_waysOfTwo
def f_X3_waysOfTwo_109 (x2_15 : Int32) (x5_15 : Int32) (x6_15 : Int32) (x7_15 : Int32) (x8_15 : Int32) (s0_15 : Int32) (S_15 : St) : Option (Int32 × St) :=
  jx_b2 (f_X11_within s0_15 (0 : Int32) x2_15 S_15) (fun r_18 S_16 => (if r_18 = 0 then some ((0 : Int32), S_16) else (if (s0_15 * x5_15) = x7_15 then (if (s0_15 * x6_15) = x8_15 then some ((1 : Int32), S_16) else some ((0 : Int32), S_16)) else some ((0 : Int32), S_16))))
def f_X3_waysOfTwo_91 (x2_12 : Int32) (x5_12 : Int32) (x6_12 : Int32) (x7_12 : Int32) (x8_12 : Int32) (S_12 : St) : Option (Int32 × St) :=
  (if x5_12 = 0 then jx_d x6_12 (f_X3_waysOfTwo_109 x2_12 x5_12 x6_12 x7_12 x8_12 (x8_12 / x6_12) S_12) else jx_d x5_12 (f_X3_waysOfTwo_109 x2_12 x5_12 x6_12 x7_12 x8_12 (x7_12 / x5_12) S_12))
def f_X3_waysOfTwo (x1 : Int32) (x2 : Int32) (x3 : Int32) (x4 : Int32) (S : St) : Option (Int32 × St) :=
  jx_a x1 8 (jx_a (x1 + (1 : Int32)) 8 (jx_l ((S.1 23 (Int32.toNatClampNeg x1)) - (S.1 23 (Int32.toNatClampNeg (x1 + (1 : Int32))))) (fun x5_3 => jx_a x1 8 (jx_a (x1 + (1 : Int32)) 8 (jx_l ((S.1 24 (Int32.toNatClampNeg x1)) - (S.1 24 (Int32.toNatClampNeg (x1 + (1 : Int32))))) (fun x6_6 => jx_a (x1 + (1 : Int32)) 8 (jx_l (x3 - (x2 * (S.1 23 (Int32.toNatClampNeg (x1 + (1 : Int32)))))) (fun x7_8 => jx_a (x1 + (1 : Int32)) 8 (jx_l (x4 - (x2 * (S.1 24 (Int32.toNatClampNeg (x1 + (1 : Int32)))))) (fun x8_10 => (if x5_3 = 0 then (if x6_6 = 0 then (if x7_8 = 0 then (if x8_10 = 0 then some ((x2 + (1 : Int32)), S) else some ((0 : Int32), S)) else some ((0 : Int32), S)) else f_X3_waysOfTwo_91 x2 x5_3 x6_6 x7_8 x8_10 S) else f_X3_waysOfTwo_91 x2 x5_3 x6_6 x7_8 x8_10 S)))))))))))
theorem gX3_waysOfTwo_X11_within : GoodIn wsX3_waysOfTwo wsX11_within := goodIn_r _ [5] rfl (by decide +kernel)
set_option maxHeartbeats 4000000 in
set_option maxRecDepth 100000 in
theorem c_X3_waysOfTwo (l : Launch) (D : va_G) (q : Nat → Nat) (k : CI) (x1 : Int32) (x2 : Int32) (x3 : Int32) (x4 : Int32) (S : St) (sz : Nat) (Z : Int32 × St) (hZ : f_X3_waysOfTwo x1 x2 x3 x4 S = some Z) : MetI W_X SX l yX3_waysOfTwo wsX3_waysOfTwo { frames := 1, cells := 0, slots := 0, locals := 22 } [.ref (q 22), .int x1, .int x2, .int x3, .int x4] D q k S sz Z := by
  refine enter (cc := cX3_waysOfTwo) (maxL := 10) (ret := some .int) (by decide) rfl (Nat.le_of_ble_eq_true rfl) ?_
  intro p e s m below meth c A ls hx hb hr hts hown hlocks hml hP hK hD hA hS hsp hAe hl
  have hown : s.vm.findClass RX3 = some m.cls := hown
  have hl : lv_has ls 10 [(0, .ref (q 22)), (1, .int x1), (2, .int x2), (3, .int x3), (4, .int x4)] := hl
  have in3 : ∀ w ∈ wsX30, w ∈ wsX3_waysOfTwo := fun _ h => (List.mem_cons_of_mem _ (List.mem_append_right _ h))
  have j109 : ∀ (x2_15 : Int32) (x5_15 : Int32) (x6_15 : Int32) (x7_15 : Int32) (x8_15 : Int32) (s0_15 : Int32) (S_15 : St)  (H : Heap) (locs : List Loc) (hZ : f_X3_waysOfTwo_109 x2_15 x5_15 x6_15 x7_15 x8_15 s0_15 S_15 = some Z) (hP : va_P D vwCl (W_X q k S_15) H) (hD : va_D A (W_X q k S_15)) (hS : va_S A s.heap H locs) (ls : Array Slot) (hl : lv_has ls 10 [(2, .int x2_15), (5, .int x5_15), (6, .int x6_15), (7, .int x7_15), (8, .int x8_15)]), W p l e ({ frames := 1, cells := 0, slots := 0, locals := 22 } : Room) s m ([.ref (q 22), .int x1, .int x2, .int x3, .int x4] : List Value).toArray below meth c H locs 0 0 (MQ below (va_Qi (fun r u => (r, u) = Z) (fun u t => va_P D vwCl (W_X q k u) t.heap) A) ([.ref (q 22), .int x1, .int x2, .int x3, .int x4] : List Value).toArray s 0 0 A) (F0 m 109 ls [.int s0_15]) := by
    intro x2_15 x5_15 x6_15 x7_15 x8_15 s0_15 S_15   H locs hZ hP hD hS ls hl
    unfold f_X3_waysOfTwo_109 at hZ
    refine lv_istore (lv' := [(9, .int s0_15), (2, .int x2_15), (5, .int x5_15), (6, .int x6_15), (7, .int x7_15), (8, .int x8_15)]) hx hb dX3_waysOfTwo_109 hl (by decide) rfl (fun ls hl => ?_)
    refine lv_iload hx hb dX3_waysOfTwo_111 (lv_at hl 0 rfl) ?_
    refine lv_iconst (v := (0 : Int32)) hx hb dX3_waysOfTwo_113 (by decide) ?_
    refine lv_iload_n hx hb dX3_waysOfTwo_114 rfl (lv_at hl 1 rfl) ?_
    obtain ⟨r_18, S_16, hc_17, hZ⟩ := jx_b2_some hZ
    refine call_Ni SX_ok sameX ⟨hx, hb, hml, hown, hts⟩ (c_X11_within l D q k s0_15 (0 : Int32) x2_15 S_15 _ (r_18, S_16)  hc_17) (va_cnB 3 hts gX3_waysOfTwo_X11_within rfl rfl rfl (hsp.1 _ (List.mem_of_getElem? (i := 74) rfl)) (hts _ (List.mem_of_getElem? (i := 4) rfl)) hd_X11_within ⟨Nat.le_of_ble_eq_true rfl, Nat.le_of_ble_eq_true rfl⟩) (hts _ (List.mem_of_getElem? (i := 3) rfl)) hK hP hD hS hA hsp (As := [.int s0_15, .int (0 : Int32), .int x2_15]) rfl hl.1 rfl (Nat.le_of_ble_eq_true rfl) dX3_waysOfTwo_115 ⟨Nat.zero_le _, Nat.zero_le _⟩ (fun H locs hP hD hS => ?_)
    refine lv_if_eq (tgt := 145) hx hb dX3_waysOfTwo_118 (by decide) (fun c_19 => ?_) (fun c_19 => ?_)
    · have hZ := jx_i_pos c_19 hZ
      refine lv_iconst (v := (0 : Int32)) hx hb dX3_waysOfTwo_145 (by decide) ?_
      exact leave_i hx hb hr hlocks hP hS hZ dX3_waysOfTwo_146
    · have hZ := jx_i_neg c_19 hZ
      refine lv_iload hx hb dX3_waysOfTwo_121 (lv_at hl 0 rfl) ?_
      refine lv_iload hx hb dX3_waysOfTwo_123 (lv_at hl 2 rfl) ?_
      refine lv_imul hx hb dX3_waysOfTwo_125 ?_
      refine lv_iload hx hb dX3_waysOfTwo_126 (lv_at hl 4 rfl) ?_
      refine lv_icmp_ne (tgt := 145) hx hb dX3_waysOfTwo_128 (by decide) (fun c_20 => ?_) (fun c_20 => ?_)
      · have hZ := jx_i_neg c_20 hZ
        refine lv_iconst (v := (0 : Int32)) hx hb dX3_waysOfTwo_145 (by decide) ?_
        exact leave_i hx hb hr hlocks hP hS hZ dX3_waysOfTwo_146
      · have hZ := jx_i_pos c_20 hZ
        refine lv_iload hx hb dX3_waysOfTwo_131 (lv_at hl 0 rfl) ?_
        refine lv_iload hx hb dX3_waysOfTwo_133 (lv_at hl 3 rfl) ?_
        refine lv_imul hx hb dX3_waysOfTwo_135 ?_
        refine lv_iload hx hb dX3_waysOfTwo_136 (lv_at hl 5 rfl) ?_
        refine lv_icmp_ne (tgt := 145) hx hb dX3_waysOfTwo_138 (by decide) (fun c_21 => ?_) (fun c_21 => ?_)
        · have hZ := jx_i_neg c_21 hZ
          refine lv_iconst (v := (0 : Int32)) hx hb dX3_waysOfTwo_145 (by decide) ?_
          exact leave_i hx hb hr hlocks hP hS hZ dX3_waysOfTwo_146
        · have hZ := jx_i_pos c_21 hZ
          refine lv_iconst (v := (1 : Int32)) hx hb dX3_waysOfTwo_141 (by decide) ?_
          refine lv_goto (tgt := 146) hx hb dX3_waysOfTwo_142 (by decide) ?_
          exact leave_i hx hb hr hlocks hP hS hZ dX3_waysOfTwo_146
  have j91 : ∀ (x2_12 : Int32) (x5_12 : Int32) (x6_12 : Int32) (x7_12 : Int32) (x8_12 : Int32) (S_12 : St)  (H : Heap) (locs : List Loc) (hZ : f_X3_waysOfTwo_91 x2_12 x5_12 x6_12 x7_12 x8_12 S_12 = some Z) (hP : va_P D vwCl (W_X q k S_12) H) (hD : va_D A (W_X q k S_12)) (hS : va_S A s.heap H locs) (ls : Array Slot) (hl : lv_has ls 10 [(2, .int x2_12), (5, .int x5_12), (6, .int x6_12), (7, .int x7_12), (8, .int x8_12)]), W p l e ({ frames := 1, cells := 0, slots := 0, locals := 22 } : Room) s m ([.ref (q 22), .int x1, .int x2, .int x3, .int x4] : List Value).toArray below meth c H locs 0 0 (MQ below (va_Qi (fun r u => (r, u) = Z) (fun u t => va_P D vwCl (W_X q k u) t.heap) A) ([.ref (q 22), .int x1, .int x2, .int x3, .int x4] : List Value).toArray s 0 0 A) (F0 m 91 ls []) := by
    intro x2_12 x5_12 x6_12 x7_12 x8_12 S_12   H locs hZ hP hD hS ls hl
    unfold f_X3_waysOfTwo_91 at hZ
    refine lv_iload hx hb dX3_waysOfTwo_91 (lv_at hl 1 rfl) ?_
    refine lv_if_eq (tgt := 104) hx hb dX3_waysOfTwo_93 (by decide) (fun c_13 => ?_) (fun c_13 => ?_)
    · have hZ := jx_i_pos c_13 hZ
      refine lv_iload hx hb dX3_waysOfTwo_104 (lv_at hl 4 rfl) ?_
      refine lv_iload hx hb dX3_waysOfTwo_106 (lv_at hl 2 rfl) ?_
      obtain ⟨c_14, hZ⟩ := jx_d_some hZ
      refine lv_idiv hx hb dX3_waysOfTwo_108 c_14 ?_
      exact j109 x2_12 x5_12 x6_12 x7_12 x8_12 (x8_12 / x6_12) S_12 _ _ hZ hP hD hS _ (lv_sub hl [0, 1, 2, 3, 4] rfl)
    · have hZ := jx_i_neg c_13 hZ
      refine lv_iload hx hb dX3_waysOfTwo_96 (lv_at hl 3 rfl) ?_
      refine lv_iload hx hb dX3_waysOfTwo_98 (lv_at hl 1 rfl) ?_
      obtain ⟨c_23, hZ⟩ := jx_d_some hZ
      refine lv_idiv hx hb dX3_waysOfTwo_100 c_23 ?_
      refine lv_goto (tgt := 109) hx hb dX3_waysOfTwo_101 (by decide) ?_
      exact j109 x2_12 x5_12 x6_12 x7_12 x8_12 (x7_12 / x5_12) S_12 _ _ hZ hP hD hS _ (lv_sub hl [0, 1, 2, 3, 4] rfl)
  unfold f_X3_waysOfTwo at hZ
  refine lv_aload_n hx hb dX3_waysOfTwo_0 rfl (lv_at hl 0 rfl) ?_
  refine gf_3_worth hx hb hts in3 hown hK hP (hts (.fieldLink RX3 9 "CoinsOfLast$Heap" "worth" "[I") (List.mem_of_getElem? (i := 1) rfl)) dX3_waysOfTwo_1 ?_
  refine lv_iload_n hx hb dX3_waysOfTwo_4 rfl (lv_at hl 1 rfl) ?_
  obtain ⟨c_1, hZ⟩ := jx_a_some hZ
  refine X_iald hx hb hK hP wX_23 c_1 dX3_waysOfTwo_5 ?_
  refine lv_aload_n hx hb dX3_waysOfTwo_6 rfl (lv_at hl 0 rfl) ?_
  refine gf_3_worth hx hb hts in3 hown hK hP (hts (.fieldLink RX3 9 "CoinsOfLast$Heap" "worth" "[I") (List.mem_of_getElem? (i := 1) rfl)) dX3_waysOfTwo_7 ?_
  refine lv_iload_n hx hb dX3_waysOfTwo_10 rfl (lv_at hl 1 rfl) ?_
  refine lv_iconst (v := (1 : Int32)) hx hb dX3_waysOfTwo_11 (by decide) ?_
  refine lv_iadd hx hb dX3_waysOfTwo_12 ?_
  obtain ⟨c_2, hZ⟩ := jx_a_some hZ
  refine X_iald hx hb hK hP wX_23 c_2 dX3_waysOfTwo_13 ?_
  refine lv_isub hx hb dX3_waysOfTwo_14 ?_
  obtain ⟨x5_3, e_x5_3, hZ⟩ := jx_l_some hZ
  refine tx_i e_x5_3 ?_
  refine lv_istore (lv' := [(5, .int x5_3), (0, .ref (q 22)), (1, .int x1), (2, .int x2), (3, .int x3), (4, .int x4)]) hx hb dX3_waysOfTwo_15 hl (by decide) rfl (fun ls hl => ?_)
  refine lv_aload_n hx hb dX3_waysOfTwo_17 rfl (lv_at hl 1 rfl) ?_
  refine gf_3_weight hx hb hts in3 hown hK hP (hts (.fieldLink RX3 15 "CoinsOfLast$Heap" "weight" "[I") (List.mem_of_getElem? (i := 2) rfl)) dX3_waysOfTwo_18 ?_
  refine lv_iload_n hx hb dX3_waysOfTwo_21 rfl (lv_at hl 2 rfl) ?_
  obtain ⟨c_4, hZ⟩ := jx_a_some hZ
  refine X_iald hx hb hK hP wX_24 c_4 dX3_waysOfTwo_22 ?_
  refine lv_aload_n hx hb dX3_waysOfTwo_23 rfl (lv_at hl 1 rfl) ?_
  refine gf_3_weight hx hb hts in3 hown hK hP (hts (.fieldLink RX3 15 "CoinsOfLast$Heap" "weight" "[I") (List.mem_of_getElem? (i := 2) rfl)) dX3_waysOfTwo_24 ?_
  refine lv_iload_n hx hb dX3_waysOfTwo_27 rfl (lv_at hl 2 rfl) ?_
  refine lv_iconst (v := (1 : Int32)) hx hb dX3_waysOfTwo_28 (by decide) ?_
  refine lv_iadd hx hb dX3_waysOfTwo_29 ?_
  obtain ⟨c_5, hZ⟩ := jx_a_some hZ
  refine X_iald hx hb hK hP wX_24 c_5 dX3_waysOfTwo_30 ?_
  refine lv_isub hx hb dX3_waysOfTwo_31 ?_
  obtain ⟨x6_6, e_x6_6, hZ⟩ := jx_l_some hZ
  refine tx_i e_x6_6 ?_
  refine lv_istore (lv' := [(6, .int x6_6), (5, .int x5_3), (0, .ref (q 22)), (1, .int x1), (2, .int x2), (3, .int x3), (4, .int x4)]) hx hb dX3_waysOfTwo_32 hl (by decide) rfl (fun ls hl => ?_)
  refine lv_iload_n hx hb dX3_waysOfTwo_34 rfl (lv_at hl 5 rfl) ?_
  refine lv_iload_n hx hb dX3_waysOfTwo_35 rfl (lv_at hl 4 rfl) ?_
  refine lv_aload_n hx hb dX3_waysOfTwo_36 rfl (lv_at hl 2 rfl) ?_
  refine gf_3_worth hx hb hts in3 hown hK hP (hts (.fieldLink RX3 9 "CoinsOfLast$Heap" "worth" "[I") (List.mem_of_getElem? (i := 1) rfl)) dX3_waysOfTwo_37 ?_
  refine lv_iload_n hx hb dX3_waysOfTwo_40 rfl (lv_at hl 3 rfl) ?_
  refine lv_iconst (v := (1 : Int32)) hx hb dX3_waysOfTwo_41 (by decide) ?_
  refine lv_iadd hx hb dX3_waysOfTwo_42 ?_
  obtain ⟨c_7, hZ⟩ := jx_a_some hZ
  refine X_iald hx hb hK hP wX_23 c_7 dX3_waysOfTwo_43 ?_
  refine lv_imul hx hb dX3_waysOfTwo_44 ?_
  refine lv_isub hx hb dX3_waysOfTwo_45 ?_
  obtain ⟨x7_8, e_x7_8, hZ⟩ := jx_l_some hZ
  refine tx_i e_x7_8 ?_
  refine lv_istore (lv' := [(7, .int x7_8), (6, .int x6_6), (5, .int x5_3), (0, .ref (q 22)), (1, .int x1), (2, .int x2), (3, .int x3), (4, .int x4)]) hx hb dX3_waysOfTwo_46 hl (by decide) rfl (fun ls hl => ?_)
  refine lv_iload hx hb dX3_waysOfTwo_48 (lv_at hl 7 rfl) ?_
  refine lv_iload_n hx hb dX3_waysOfTwo_50 rfl (lv_at hl 5 rfl) ?_
  refine lv_aload_n hx hb dX3_waysOfTwo_51 rfl (lv_at hl 3 rfl) ?_
  refine gf_3_weight hx hb hts in3 hown hK hP (hts (.fieldLink RX3 15 "CoinsOfLast$Heap" "weight" "[I") (List.mem_of_getElem? (i := 2) rfl)) dX3_waysOfTwo_52 ?_
  refine lv_iload_n hx hb dX3_waysOfTwo_55 rfl (lv_at hl 4 rfl) ?_
  refine lv_iconst (v := (1 : Int32)) hx hb dX3_waysOfTwo_56 (by decide) ?_
  refine lv_iadd hx hb dX3_waysOfTwo_57 ?_
  obtain ⟨c_9, hZ⟩ := jx_a_some hZ
  refine X_iald hx hb hK hP wX_24 c_9 dX3_waysOfTwo_58 ?_
  refine lv_imul hx hb dX3_waysOfTwo_59 ?_
  refine lv_isub hx hb dX3_waysOfTwo_60 ?_
  obtain ⟨x8_10, e_x8_10, hZ⟩ := jx_l_some hZ
  refine tx_i e_x8_10 ?_
  refine lv_istore (lv' := [(8, .int x8_10), (7, .int x7_8), (6, .int x6_6), (5, .int x5_3), (0, .ref (q 22)), (1, .int x1), (2, .int x2), (3, .int x3), (4, .int x4)]) hx hb dX3_waysOfTwo_61 hl (by decide) rfl (fun ls hl => ?_)
  refine lv_iload hx hb dX3_waysOfTwo_63 (lv_at hl 3 rfl) ?_
  refine lv_if_ne (tgt := 91) hx hb dX3_waysOfTwo_65 (by decide) (fun c_11 => ?_) (fun c_11 => ?_)
  · have hZ := jx_i_neg c_11 hZ
    exact j91 x2 x5_3 x6_6 x7_8 x8_10 S _ _ hZ hP hD hS _ (lv_sub hl [6, 3, 2, 1, 0] rfl)
  · have hZ := jx_i_pos c_11 hZ
    refine lv_iload hx hb dX3_waysOfTwo_68 (lv_at hl 2 rfl) ?_
    refine lv_if_ne (tgt := 91) hx hb dX3_waysOfTwo_70 (by decide) (fun c_26 => ?_) (fun c_26 => ?_)
    · have hZ := jx_i_neg c_26 hZ
      exact j91 x2 x5_3 x6_6 x7_8 x8_10 S _ _ hZ hP hD hS _ (lv_sub hl [6, 3, 2, 1, 0] rfl)
    · have hZ := jx_i_pos c_26 hZ
      refine lv_iload hx hb dX3_waysOfTwo_73 (lv_at hl 1 rfl) ?_
      refine lv_if_ne (tgt := 89) hx hb dX3_waysOfTwo_75 (by decide) (fun c_28 => ?_) (fun c_28 => ?_)
      · have hZ := jx_i_neg c_28 hZ
        refine lv_iconst (v := (0 : Int32)) hx hb dX3_waysOfTwo_89 (by decide) ?_
        exact leave_i hx hb hr hlocks hP hS hZ dX3_waysOfTwo_90
      · have hZ := jx_i_pos c_28 hZ
        refine lv_iload hx hb dX3_waysOfTwo_78 (lv_at hl 0 rfl) ?_
        refine lv_if_ne (tgt := 89) hx hb dX3_waysOfTwo_80 (by decide) (fun c_29 => ?_) (fun c_29 => ?_)
        · have hZ := jx_i_neg c_29 hZ
          refine lv_iconst (v := (0 : Int32)) hx hb dX3_waysOfTwo_89 (by decide) ?_
          exact leave_i hx hb hr hlocks hP hS hZ dX3_waysOfTwo_90
        · have hZ := jx_i_pos c_29 hZ
          refine lv_iload_n hx hb dX3_waysOfTwo_83 rfl (lv_at hl 6 rfl) ?_
          refine lv_iconst (v := (1 : Int32)) hx hb dX3_waysOfTwo_84 (by decide) ?_
          refine lv_iadd hx hb dX3_waysOfTwo_85 ?_
          refine lv_goto (tgt := 90) hx hb dX3_waysOfTwo_86 (by decide) ?_
          exact leave_i hx hb hr hlocks hP hS hZ dX3_waysOfTwo_90
theorem hd_X3_waysFrom : yX3_waysFrom.cls = RX3 ∧ yX3_waysFrom.cls ≠ "java/lang/invoke/MethodHandle" ∧ yX3_waysFrom.cls ≠ "java/lang/invoke/VarHandle" ∧ (parseMethodDescriptor yX3_waysFrom.desc).map (fun d => d.parameters.length) = some 4 := by decide +kernel
-- X3_waysBehind
def f_X3_waysBehind (rc : Int32 → Int32 → Int32 → Int32 → St → Option (Int32 × St)) (x1 : Int32) (x2 : Int32) (x3 : Int32) (x4 : Int32) (x5 : Int32) (S : St) : Option (Int32 × St) :=
  jx_a x1 8 (jx_a x1 8 (jx_b2 (rc (x1 + (1 : Int32)) (x3 - x2) (x4 - (x2 * (S.1 23 (Int32.toNatClampNeg x1)))) (x5 - (x2 * (S.1 24 (Int32.toNatClampNeg x1)))) S) (fun r_5 S_3 => some (r_5, S_3))))
set_option maxHeartbeats 4000000 in
set_option maxRecDepth 100000 in
theorem c_X3_waysBehind (l : Launch) (D : va_G) (q : Nat → Nat) (k : CI) (rc : Int32 → Int32 → Int32 → Int32 → St → Option (Int32 × St)) (fr lo : Nat) (hrc : ∀ (x1 : Int32) (x2 : Int32) (x3 : Int32) (x4 : Int32) (S : St) (sz : Nat) (Z : Int32 × St), rc x1 x2 x3 x4 S = some Z → MetI W_X SX l yX3_waysFrom wsX3_waysFrom { frames := fr, cells := 0, slots := 0, locals := lo } [.ref (q 22), .int x1, .int x2, .int x3, .int x4] D q k S sz Z) (x1 : Int32) (x2 : Int32) (x3 : Int32) (x4 : Int32) (x5 : Int32) (S : St) (sz : Nat) (Z : Int32 × St) (hZ : f_X3_waysBehind rc x1 x2 x3 x4 x5 S = some Z) : MetI W_X SX l yX3_waysBehind wsX3_waysBehind { frames := fr + 1, cells := 0, slots := 0, locals := lo + 26 } [.ref (q 22), .int x1, .int x2, .int x3, .int x4, .int x5] D q k S sz Z := by
  refine enter (cc := cX3_waysBehind) (maxL := 6) (ret := some .int) (by decide) rfl (Nat.le_of_ble_eq_true rfl) ?_
  intro p e s m below meth c A ls hx hb hr hts hown hlocks hml hP hK hD hA hS hsp hAe hl
  have hown : s.vm.findClass RX3 = some m.cls := hown
  have hl : lv_has ls 6 [(0, .ref (q 22)), (1, .int x1), (2, .int x2), (3, .int x3), (4, .int x4), (5, .int x5)] := hl
  have in3 : ∀ w ∈ wsX30, w ∈ wsX3_waysBehind := fun _ h => (List.mem_cons_of_mem _ (List.mem_append_right _ h))
  unfold f_X3_waysBehind at hZ
  refine lv_aload_n hx hb dX3_waysBehind_0 rfl (lv_at hl 0 rfl) ?_
  refine lv_iload_n hx hb dX3_waysBehind_1 rfl (lv_at hl 1 rfl) ?_
  refine lv_iconst (v := (1 : Int32)) hx hb dX3_waysBehind_2 (by decide) ?_
  refine lv_iadd hx hb dX3_waysBehind_3 ?_
  refine lv_iload_n hx hb dX3_waysBehind_4 rfl (lv_at hl 3 rfl) ?_
  refine lv_iload_n hx hb dX3_waysBehind_5 rfl (lv_at hl 2 rfl) ?_
  refine lv_isub hx hb dX3_waysBehind_6 ?_
  refine lv_iload hx hb dX3_waysBehind_7 (lv_at hl 4 rfl) ?_
  refine lv_iload_n hx hb dX3_waysBehind_9 rfl (lv_at hl 2 rfl) ?_
  refine lv_aload_n hx hb dX3_waysBehind_10 rfl (lv_at hl 0 rfl) ?_
  refine gf_3_worth hx hb hts in3 hown hK hP (hts (.fieldLink RX3 9 "CoinsOfLast$Heap" "worth" "[I") (List.mem_of_getElem? (i := 1) rfl)) dX3_waysBehind_11 ?_
  refine lv_iload_n hx hb dX3_waysBehind_14 rfl (lv_at hl 1 rfl) ?_
  obtain ⟨c_1, hZ⟩ := jx_a_some hZ
  refine X_iald hx hb hK hP wX_23 c_1 dX3_waysBehind_15 ?_
  refine lv_imul hx hb dX3_waysBehind_16 ?_
  refine lv_isub hx hb dX3_waysBehind_17 ?_
  refine lv_iload hx hb dX3_waysBehind_18 (lv_at hl 5 rfl) ?_
  refine lv_iload_n hx hb dX3_waysBehind_20 rfl (lv_at hl 2 rfl) ?_
  refine lv_aload_n hx hb dX3_waysBehind_21 rfl (lv_at hl 0 rfl) ?_
  refine gf_3_weight hx hb hts in3 hown hK hP (hts (.fieldLink RX3 15 "CoinsOfLast$Heap" "weight" "[I") (List.mem_of_getElem? (i := 2) rfl)) dX3_waysBehind_22 ?_
  refine lv_iload_n hx hb dX3_waysBehind_25 rfl (lv_at hl 1 rfl) ?_
  obtain ⟨c_2, hZ⟩ := jx_a_some hZ
  refine X_iald hx hb hK hP wX_24 c_2 dX3_waysBehind_26 ?_
  refine lv_imul hx hb dX3_waysBehind_27 ?_
  refine lv_isub hx hb dX3_waysBehind_28 ?_
  obtain ⟨r_5, S_3, hc_4, hZ⟩ := jx_b2_some hZ
  refine call_Vi SX_ok sameX ⟨hx, hb, hml, hown, hts⟩ (hrc (x1 + (1 : Int32)) (x3 - x2) (x4 - (x2 * (S.1 23 (Int32.toNatClampNeg x1)))) (x5 - (x2 * (S.1 24 (Int32.toNatClampNeg x1)))) S _ (r_5, S_3)  hc_4) (cwV 4 hts gX3_waysBehind_X3_waysFrom rfl rfl rfl hd_X3_waysFrom ⟨by dsimp only; omega, by dsimp only; omega⟩) hK hP hD hS hA hsp (va_recv hK hP (ci := 3) (q0 := 22) rfl wX_22) (As := [.int (x1 + (1 : Int32)), .int (x3 - x2), .int (x4 - (x2 * (S.1 23 (Int32.toNatClampNeg x1)))), .int (x5 - (x2 * (S.1 24 (Int32.toNatClampNeg x1))))]) rfl hl.1 rfl (Nat.le_of_ble_eq_true rfl) dX3_waysBehind_29 ⟨Nat.zero_le _, Nat.zero_le _⟩ (fun H locs hP hD hS => ?_)
  exact leave_i hx hb hr hlocks hP hS hZ dX3_waysBehind_32
theorem hd_X3_waysBehind : yX3_waysBehind.cls = RX3 ∧ yX3_waysBehind.cls ≠ "java/lang/invoke/MethodHandle" ∧ yX3_waysBehind.cls ≠ "java/lang/invoke/VarHandle" ∧ (parseMethodDescriptor yX3_waysBehind.desc).map (fun d => d.parameters.length) = some 5 := by decide +kernel
theorem hd_X3_waysOfTwo : yX3_waysOfTwo.cls = RX3 ∧ yX3_waysOfTwo.cls ≠ "java/lang/invoke/MethodHandle" ∧ yX3_waysOfTwo.cls ≠ "java/lang/invoke/VarHandle" ∧ (parseMethodDescriptor yX3_waysOfTwo.desc).map (fun d => d.parameters.length) = some 4 := by decide +kernel
-- X3_waysFrom
def f_X3_waysFrom_133 (rc : Int32 → Int32 → Int32 → Int32 → St → Option (Int32 × St)) (x5_10 : Int32) (S_10 : St) : Option (Int32 × St) :=
  some (x5_10, S_10)
def b_X3_waysFrom_105 (rc : Int32 → Int32 → Int32 → Int32 → St → Option (Int32 × St)) (x1 : Int32) (x2 : Int32) (x3 : Int32) (x4 : Int32) (x5 : Int32) (x6 : Int32) (S : St) : Option ((Int32 × Int32 × St) ⊕ ((Int32 × St))) :=
  (if x2 < x6 then some (.inr (x5, S)) else jx_b2 (f_X3_waysBehind rc x1 x6 x2 x3 x4 S) (fun r_16 S_14 => jx_l (x5 + r_16) (fun x5_17 => jx_l (x6 + 1) (fun x6_18 => some (.inl (x5_17, x6_18, S_14))))))
def g_X3_waysFrom_105 (rc : Int32 → Int32 → Int32 → Int32 → St → Option (Int32 × St)) (x1 : Int32) (x2 : Int32) (x3 : Int32) (x4 : Int32) : (Int32 × Int32 × St) → Option ((Int32 × Int32 × St) ⊕ ((Int32 × St))) := fun z => b_X3_waysFrom_105 rc x1 x2 x3 x4 z.1 z.2.1 z.2.2
def fb_X3_waysFrom (rc : Int32 → Int32 → Int32 → Int32 → St → Option (Int32 × St)) (x1 : Int32) (x2 : Int32) (x3 : Int32) (x4 : Int32) (S : St) : Option (Int32 × St) :=
  (if x3 < 0 then some ((0 : Int32), S) else (if 0 ≤ x4 then (if x1 < (S.1 22 2) then (if x1 = ((S.1 22 2) - (1 : Int32)) then jx_a x1 8 ((if (x2 * (S.1 23 (Int32.toNatClampNeg x1))) = x3 then jx_a x1 8 ((if (x2 * (S.1 24 (Int32.toNatClampNeg x1))) = x4 then some ((1 : Int32), S) else some ((0 : Int32), S))) else some ((0 : Int32), S))) else (if x1 = ((S.1 22 2) - (2 : Int32)) then jx_b2 (f_X3_waysOfTwo x1 x2 x3 x4 S) (fun r_28 S_26 => some (r_28, S_26)) else jx_b (jx_w (g_X3_waysFrom_105 rc x1 x2 x3 x4) FU ((0 : Int32), (0 : Int32), S)) (fun z => f_X3_waysFrom_133 rc z.1 z.2))) else (if x2 = 0 then (if x3 = 0 then (if x4 = 0 then some ((1 : Int32), S) else some ((0 : Int32), S)) else some ((0 : Int32), S)) else some ((0 : Int32), S))) else some ((0 : Int32), S)))
def f_X3_waysFrom : Nat → Int32 → Int32 → Int32 → Int32 → St → Option (Int32 × St)
  | 0, _, _, _, _, _ => none
  | n + 1, x1, x2, x3, x4, S => fb_X3_waysFrom (f_X3_waysFrom n) x1 x2 x3 x4 S
set_option maxHeartbeats 4000000 in
set_option maxRecDepth 100000 in
theorem cb_X3_waysFrom (l : Launch) (D : va_G) (q : Nat → Nat) (k : CI) (rc : Int32 → Int32 → Int32 → Int32 → St → Option (Int32 × St)) (fr lo : Nat) (hrc : ∀ (x1 : Int32) (x2 : Int32) (x3 : Int32) (x4 : Int32) (S : St) (sz : Nat) (Z : Int32 × St), rc x1 x2 x3 x4 S = some Z → MetI W_X SX l yX3_waysFrom wsX3_waysFrom { frames := fr, cells := 0, slots := 0, locals := lo } [.ref (q 22), .int x1, .int x2, .int x3, .int x4] D q k S sz Z) (x1 : Int32) (x2 : Int32) (x3 : Int32) (x4 : Int32) (S : St) (sz : Nat) (Z : Int32 × St) (hZ : fb_X3_waysFrom rc x1 x2 x3 x4 S = some Z) : MetI W_X SX l yX3_waysFrom wsX3_waysFrom { frames := fr + 2, cells := 0, slots := 0, locals := lo + 51 } [.ref (q 22), .int x1, .int x2, .int x3, .int x4] D q k S sz Z := by
  refine enter (cc := cX3_waysFrom) (maxL := 7) (ret := some .int) (by decide) rfl (Nat.le_of_ble_eq_true rfl) ?_
  intro p e s m below meth c A ls hx hb hr hts hown hlocks hml hP hK hD hA hS hsp hAe hl
  have hown : s.vm.findClass RX3 = some m.cls := hown
  have hl : lv_has ls 7 [(0, .ref (q 22)), (1, .int x1), (2, .int x2), (3, .int x3), (4, .int x4)] := hl
  have in3 : ∀ w ∈ wsX30, w ∈ wsX3_waysFrom := fun _ h => (List.mem_cons_of_mem _ (List.mem_append_right _ h))
  have j133 : ∀ (x5_10 : Int32) (S_10 : St)  (H : Heap) (locs : List Loc) (hZ : f_X3_waysFrom_133 rc x5_10 S_10 = some Z) (hP : va_P D vwCl (W_X q k S_10) H) (hD : va_D A (W_X q k S_10)) (hS : va_S A s.heap H locs) (ls : Array Slot) (hl : lv_has ls 7 [(5, .int x5_10)]), W p l e ({ frames := fr + 2, cells := 0, slots := 0, locals := lo + 51 } : Room) s m ([.ref (q 22), .int x1, .int x2, .int x3, .int x4] : List Value).toArray below meth c H locs 0 0 (MQ below (va_Qi (fun r u => (r, u) = Z) (fun u t => va_P D vwCl (W_X q k u) t.heap) A) ([.ref (q 22), .int x1, .int x2, .int x3, .int x4] : List Value).toArray s 0 0 A) (F0 m 133 ls []) := by
    intro x5_10 S_10   H locs hZ hP hD hS ls hl
    unfold f_X3_waysFrom_133 at hZ
    refine lv_iload hx hb dX3_waysFrom_133 (lv_at hl 0 rfl) ?_
    exact leave_i hx hb hr hlocks hP hS hZ dX3_waysFrom_135
  unfold fb_X3_waysFrom at hZ
  refine lv_iload_n hx hb dX3_waysFrom_0 rfl (lv_at hl 3 rfl) ?_
  refine lv_if_lt (tgt := 9) hx hb dX3_waysFrom_1 (by decide) (fun c_1 => ?_) (fun c_1 => ?_)
  · have hZ := jx_i_pos c_1 hZ
    refine lv_iconst (v := (0 : Int32)) hx hb dX3_waysFrom_9 (by decide) ?_
    exact leave_i hx hb hr hlocks hP hS hZ dX3_waysFrom_10
  · have hZ := jx_i_neg c_1 hZ
    refine lv_iload hx hb dX3_waysFrom_4 (lv_at hl 4 rfl) ?_
    refine lv_if_ge (tgt := 11) hx hb dX3_waysFrom_6 (by decide) (fun c_2 => ?_) (fun c_2 => ?_)
    · have hZ := jx_i_pos c_2 hZ
      refine lv_iload_n hx hb dX3_waysFrom_11 rfl (lv_at hl 1 rfl) ?_
      refine lv_aload_n hx hb dX3_waysFrom_12 rfl (lv_at hl 0 rfl) ?_
      refine gf_3_number hx hb hts in3 hown hK hP (hts (.fieldLink RX3 18 "CoinsOfLast$Heap" "number" "I") (List.mem_of_getElem? (i := 1) rfl)) dX3_waysFrom_13 ?_
      refine lv_icmp_lt (tgt := 38) hx hb dX3_waysFrom_16 (by decide) (fun c_3 => ?_) (fun c_3 => ?_)
      · have hZ := jx_i_pos c_3 hZ
        refine lv_iload_n hx hb dX3_waysFrom_38 rfl (lv_at hl 1 rfl) ?_
        refine lv_aload_n hx hb dX3_waysFrom_39 rfl (lv_at hl 0 rfl) ?_
        refine gf_3_number hx hb hts in3 hown hK hP (hts (.fieldLink RX3 18 "CoinsOfLast$Heap" "number" "I") (List.mem_of_getElem? (i := 1) rfl)) dX3_waysFrom_40 ?_
        refine lv_iconst (v := (1 : Int32)) hx hb dX3_waysFrom_43 (by decide) ?_
        refine lv_isub hx hb dX3_waysFrom_44 ?_
        refine lv_icmp_ne (tgt := 79) hx hb dX3_waysFrom_45 (by decide) (fun c_4 => ?_) (fun c_4 => ?_)
        · have hZ := jx_i_neg c_4 hZ
          refine lv_iload_n hx hb dX3_waysFrom_79 rfl (lv_at hl 1 rfl) ?_
          refine lv_aload_n hx hb dX3_waysFrom_80 rfl (lv_at hl 0 rfl) ?_
          refine gf_3_number hx hb hts in3 hown hK hP (hts (.fieldLink RX3 18 "CoinsOfLast$Heap" "number" "I") (List.mem_of_getElem? (i := 1) rfl)) dX3_waysFrom_81 ?_
          refine lv_iconst (v := (2 : Int32)) hx hb dX3_waysFrom_84 (by decide) ?_
          refine lv_isub hx hb dX3_waysFrom_85 ?_
          refine lv_icmp_ne (tgt := 99) hx hb dX3_waysFrom_86 (by decide) (fun c_5 => ?_) (fun c_5 => ?_)
          · have hZ := jx_i_neg c_5 hZ
            refine lv_iconst (v := (0 : Int32)) hx hb dX3_waysFrom_99 (by decide) ?_
            refine lv_istore (lv' := [(5, .int (0 : Int32)), (0, .ref (q 22)), (1, .int x1), (2, .int x2), (3, .int x3), (4, .int x4)]) hx hb dX3_waysFrom_100 hl (by decide) rfl (fun ls hl => ?_)
            refine lv_iconst (v := (0 : Int32)) hx hb dX3_waysFrom_102 (by decide) ?_
            refine lv_istore (lv' := [(6, .int (0 : Int32)), (5, .int (0 : Int32)), (0, .ref (q 22)), (1, .int x1), (2, .int x2), (3, .int x3), (4, .int x4)]) hx hb dX3_waysFrom_103 hl (by decide) rfl (fun ls hl => ?_)
            obtain ⟨r_9, hw, hza_9⟩ := jx_b_some hZ
            have l_9 : ∀ (nn : Nat) (x5_6 : Int32) (x6_7 : Int32) (S_8 : St) (H : Heap) (locs : List Loc) (hw : jx_w (g_X3_waysFrom_105 rc x1 x2 x3 x4) nn (x5_6, x6_7, S_8) = some r_9) (hP : va_P D vwCl (W_X q k S_8) H) (hD : va_D A (W_X q k S_8)) (hS : va_S A s.heap H locs) (ls : Array Slot) (hl : lv_has ls 7 [(0, .ref (q 22)), (1, .int x1), (2, .int x2), (3, .int x3), (4, .int x4), (5, .int x5_6), (6, .int x6_7)]), W p l e ({ frames := fr + 2, cells := 0, slots := 0, locals := lo + 51 } : Room) s m ([.ref (q 22), .int x1, .int x2, .int x3, .int x4] : List Value).toArray below meth c H locs 0 0 (MQ below (va_Qi (fun r u => (r, u) = Z) (fun u t => va_P D vwCl (W_X q k u) t.heap) A) ([.ref (q 22), .int x1, .int x2, .int x3, .int x4] : List Value).toArray s 0 0 A) (F0 m 105 ls []) := by
              intro nn
              induction nn with
              | zero =>
                intro x5_6 x6_7 S_8 H locs hw hP hD hS ls hl
                exact jx_w_zero hw
              | succ n_9 ih_9 =>
                intro x5_6 x6_7 S_8 H locs hw hP hD hS ls hl
                obtain ⟨o_9, hZ, hk_9⟩ := jx_w_succ hw
                have hZ : b_X3_waysFrom_105 rc x1 x2 x3 x4 x5_6 x6_7 S_8 = some o_9 := hZ
                unfold b_X3_waysFrom_105 at hZ
                refine lv_iload hx hb dX3_waysFrom_105 (lv_at hl 6 rfl) ?_
                refine lv_iload_n hx hb dX3_waysFrom_107 rfl (lv_at hl 2 rfl) ?_
                refine lv_icmp_gt (tgt := 133) hx hb dX3_waysFrom_108 (by decide) (fun c_19 => ?_) (fun c_19 => ?_)
                · have hZ := jx_i_pos c_19 hZ
                  have ho := Option.some.inj hZ
                  subst ho
                  have hE := hza_9
                  rw [← (show (x5_6, S_8) = r_9 from hk_9)] at hE
                  have hZ : f_X3_waysFrom_133 rc x5_6 S_8 = some Z := hE
                  exact j133 x5_6 S_8 _ _ hZ hP hD hS _ (lv_sub hl [5] rfl)
                · have hZ := jx_i_neg c_19 hZ
                  refine lv_iload hx hb dX3_waysFrom_111 (lv_at hl 5 rfl) ?_
                  refine lv_aload_n hx hb dX3_waysFrom_113 rfl (lv_at hl 0 rfl) ?_
                  refine lv_iload_n hx hb dX3_waysFrom_114 rfl (lv_at hl 1 rfl) ?_
                  refine lv_iload hx hb dX3_waysFrom_115 (lv_at hl 6 rfl) ?_
                  refine lv_iload_n hx hb dX3_waysFrom_117 rfl (lv_at hl 2 rfl) ?_
                  refine lv_iload_n hx hb dX3_waysFrom_118 rfl (lv_at hl 3 rfl) ?_
                  refine lv_iload hx hb dX3_waysFrom_119 (lv_at hl 4 rfl) ?_
                  obtain ⟨r_23, S_21, hc_22, hZ⟩ := jx_b2_some hZ
                  refine call_Vi SX_ok sameX ⟨hx, hb, hml, hown, hts⟩ (c_X3_waysBehind l D q k rc fr lo hrc x1 x6_7 x2 x3 x4 S_8 _ (r_23, S_21)  hc_22) (cwV 5 hts gX3_waysFrom_X3_waysBehind rfl rfl rfl hd_X3_waysBehind ⟨by dsimp only; omega, by dsimp only; omega⟩) hK hP hD hS hA hsp (va_recv hK hP (ci := 3) (q0 := 22) rfl wX_22) (As := [.int x1, .int x6_7, .int x2, .int x3, .int x4]) rfl hl.1 rfl (Nat.le_of_ble_eq_true rfl) dX3_waysFrom_121 ⟨Nat.zero_le _, Nat.zero_le _⟩ (fun H locs hP hD hS => ?_)
                  refine lv_iadd hx hb dX3_waysFrom_124 ?_
                  obtain ⟨x5_24, e_x5_24, hZ⟩ := jx_l_some hZ
                  refine tx_i e_x5_24 ?_
                  refine lv_istore (lv' := [(5, .int x5_24), (0, .ref (q 22)), (1, .int x1), (2, .int x2), (3, .int x3), (4, .int x4), (6, .int x6_7)]) hx hb dX3_waysFrom_125 hl (by decide) rfl (fun ls hl => ?_)
                  obtain ⟨x6_25, e_x6_25, hZ⟩ := jx_l_some hZ
                  refine lv_iinc (v := x6_25) (lv' := [(6, .int x6_25), (5, .int x5_24), (0, .ref (q 22)), (1, .int x1), (2, .int x2), (3, .int x3), (4, .int x4)]) hx hb dX3_waysFrom_127 hl (k := 6) rfl (by rw [e_x6_25]; rfl) (by decide) rfl (fun ls hl => ?_)
                  refine lv_goto (tgt := 105) hx hb dX3_waysFrom_130 (by decide) ?_
                  have ho := Option.some.inj hZ
                  subst ho
                  exact ih_9 x5_24 x6_25 S_21 _ _ hk_9 hP hD hS _ (lv_sub hl [2, 3, 4, 5, 6, 1, 0] rfl)
            exact l_9 FU (0 : Int32) (0 : Int32) S _ _ hw hP hD hS _ (lv_sub hl [2, 3, 4, 5, 6, 1, 0] rfl)
          · have hZ := jx_i_pos c_5 hZ
            refine lv_aload_n hx hb dX3_waysFrom_89 rfl (lv_at hl 0 rfl) ?_
            refine lv_iload_n hx hb dX3_waysFrom_90 rfl (lv_at hl 1 rfl) ?_
            refine lv_iload_n hx hb dX3_waysFrom_91 rfl (lv_at hl 2 rfl) ?_
            refine lv_iload_n hx hb dX3_waysFrom_92 rfl (lv_at hl 3 rfl) ?_
            refine lv_iload hx hb dX3_waysFrom_93 (lv_at hl 4 rfl) ?_
            obtain ⟨r_28, S_26, hc_27, hZ⟩ := jx_b2_some hZ
            refine call_Vi SX_ok sameX ⟨hx, hb, hml, hown, hts⟩ (c_X3_waysOfTwo l D q k x1 x2 x3 x4 S _ (r_28, S_26)  hc_27) (cwV 4 hts gX3_waysFrom_X3_waysOfTwo rfl rfl rfl hd_X3_waysOfTwo ⟨by dsimp only; omega, by dsimp only; omega⟩) hK hP hD hS hA hsp (va_recv hK hP (ci := 3) (q0 := 22) rfl wX_22) (As := [.int x1, .int x2, .int x3, .int x4]) rfl hl.1 rfl (Nat.le_of_ble_eq_true rfl) dX3_waysFrom_95 ⟨Nat.zero_le _, Nat.zero_le _⟩ (fun H locs hP hD hS => ?_)
            exact leave_i hx hb hr hlocks hP hS hZ dX3_waysFrom_98
        · have hZ := jx_i_pos c_4 hZ
          refine lv_iload_n hx hb dX3_waysFrom_48 rfl (lv_at hl 2 rfl) ?_
          refine lv_aload_n hx hb dX3_waysFrom_49 rfl (lv_at hl 0 rfl) ?_
          refine gf_3_worth hx hb hts in3 hown hK hP (hts (.fieldLink RX3 9 "CoinsOfLast$Heap" "worth" "[I") (List.mem_of_getElem? (i := 2) rfl)) dX3_waysFrom_50 ?_
          refine lv_iload_n hx hb dX3_waysFrom_53 rfl (lv_at hl 1 rfl) ?_
          obtain ⟨c_29, hZ⟩ := jx_a_some hZ
          refine X_iald hx hb hK hP wX_23 c_29 dX3_waysFrom_54 ?_
          refine lv_imul hx hb dX3_waysFrom_55 ?_
          refine lv_iload_n hx hb dX3_waysFrom_56 rfl (lv_at hl 3 rfl) ?_
          refine lv_icmp_ne (tgt := 77) hx hb dX3_waysFrom_57 (by decide) (fun c_30 => ?_) (fun c_30 => ?_)
          · have hZ := jx_i_neg c_30 hZ
            refine lv_iconst (v := (0 : Int32)) hx hb dX3_waysFrom_77 (by decide) ?_
            exact leave_i hx hb hr hlocks hP hS hZ dX3_waysFrom_78
          · have hZ := jx_i_pos c_30 hZ
            refine lv_iload_n hx hb dX3_waysFrom_60 rfl (lv_at hl 2 rfl) ?_
            refine lv_aload_n hx hb dX3_waysFrom_61 rfl (lv_at hl 0 rfl) ?_
            refine gf_3_weight hx hb hts in3 hown hK hP (hts (.fieldLink RX3 15 "CoinsOfLast$Heap" "weight" "[I") (List.mem_of_getElem? (i := 3) rfl)) dX3_waysFrom_62 ?_
            refine lv_iload_n hx hb dX3_waysFrom_65 rfl (lv_at hl 1 rfl) ?_
            obtain ⟨c_31, hZ⟩ := jx_a_some hZ
            refine X_iald hx hb hK hP wX_24 c_31 dX3_waysFrom_66 ?_
            refine lv_imul hx hb dX3_waysFrom_67 ?_
            refine lv_iload hx hb dX3_waysFrom_68 (lv_at hl 4 rfl) ?_
            refine lv_icmp_ne (tgt := 77) hx hb dX3_waysFrom_70 (by decide) (fun c_32 => ?_) (fun c_32 => ?_)
            · have hZ := jx_i_neg c_32 hZ
              refine lv_iconst (v := (0 : Int32)) hx hb dX3_waysFrom_77 (by decide) ?_
              exact leave_i hx hb hr hlocks hP hS hZ dX3_waysFrom_78
            · have hZ := jx_i_pos c_32 hZ
              refine lv_iconst (v := (1 : Int32)) hx hb dX3_waysFrom_73 (by decide) ?_
              refine lv_goto (tgt := 78) hx hb dX3_waysFrom_74 (by decide) ?_
              exact leave_i hx hb hr hlocks hP hS hZ dX3_waysFrom_78
      · have hZ := jx_i_neg c_3 hZ
        refine lv_iload_n hx hb dX3_waysFrom_19 rfl (lv_at hl 2 rfl) ?_
        refine lv_if_ne (tgt := 36) hx hb dX3_waysFrom_20 (by decide) (fun c_33 => ?_) (fun c_33 => ?_)
        · have hZ := jx_i_neg c_33 hZ
          refine lv_iconst (v := (0 : Int32)) hx hb dX3_waysFrom_36 (by decide) ?_
          exact leave_i hx hb hr hlocks hP hS hZ dX3_waysFrom_37
        · have hZ := jx_i_pos c_33 hZ
          refine lv_iload_n hx hb dX3_waysFrom_23 rfl (lv_at hl 3 rfl) ?_
          refine lv_if_ne (tgt := 36) hx hb dX3_waysFrom_24 (by decide) (fun c_34 => ?_) (fun c_34 => ?_)
          · have hZ := jx_i_neg c_34 hZ
            refine lv_iconst (v := (0 : Int32)) hx hb dX3_waysFrom_36 (by decide) ?_
            exact leave_i hx hb hr hlocks hP hS hZ dX3_waysFrom_37
          · have hZ := jx_i_pos c_34 hZ
            refine lv_iload hx hb dX3_waysFrom_27 (lv_at hl 4 rfl) ?_
            refine lv_if_ne (tgt := 36) hx hb dX3_waysFrom_29 (by decide) (fun c_35 => ?_) (fun c_35 => ?_)
            · have hZ := jx_i_neg c_35 hZ
              refine lv_iconst (v := (0 : Int32)) hx hb dX3_waysFrom_36 (by decide) ?_
              exact leave_i hx hb hr hlocks hP hS hZ dX3_waysFrom_37
            · have hZ := jx_i_pos c_35 hZ
              refine lv_iconst (v := (1 : Int32)) hx hb dX3_waysFrom_32 (by decide) ?_
              refine lv_goto (tgt := 37) hx hb dX3_waysFrom_33 (by decide) ?_
              exact leave_i hx hb hr hlocks hP hS hZ dX3_waysFrom_37
    · have hZ := jx_i_neg c_2 hZ
      refine lv_iconst (v := (0 : Int32)) hx hb dX3_waysFrom_9 (by decide) ?_
      exact leave_i hx hb hr hlocks hP hS hZ dX3_waysFrom_10
theorem c_X3_waysFrom (l : Launch) (D : va_G) (q : Nat → Nat) (k : CI) : ∀ (n : Nat) (x1 : Int32) (x2 : Int32) (x3 : Int32) (x4 : Int32) (S : St) (sz : Nat) (Z : Int32 × St) (hZ : f_X3_waysFrom n x1 x2 x3 x4 S = some Z), MetI W_X SX l yX3_waysFrom wsX3_waysFrom { frames := 2 * n, cells := 0, slots := 0, locals := 51 * n } [.ref (q 22), .int x1, .int x2, .int x3, .int x4] D q k S sz Z := by
  intro n
  induction n with
  | zero =>
    intro x1 x2 x3 x4 S sz Z  hZ
    unfold f_X3_waysFrom at hZ
    cases hZ
  | succ n ih =>
    intro x1 x2 x3 x4 S sz Z  hZ
    unfold f_X3_waysFrom at hZ
    exact cb_X3_waysFrom l D q k (f_X3_waysFrom n) (2 * n) (51 * n) ih x1 x2 x3 x4 S sz Z  hZ
-- X3_ways
def f_X3_ways_76 (x3_5 : Int32) (x4_5 : Int32) (x5_5 : Int32) (S_5 : St) : Option (Int32 × St) :=
  jx_b2 (f_X3_waysFrom 12 (0 : Int32) x3_5 x4_5 x5_5 S_5) (fun r_8 S_6 => some (r_8, S_6))
def f_X3_ways_70i8 (x2 : Int32) (x3 : Int32) (x4 : Int32) (x5 : Int32) (x6_14 : Int32) (S_14 : St) : Option ((Int32 × St) ⊕ (St)) :=
  jx_l (x6_14 + 1) (fun x6_15 => some (.inl (x6_15, S_14)))
def b_X3_ways_8 (x2 : Int32) (x3 : Int32) (x4 : Int32) (x5 : Int32) (x6 : Int32) (S : St) : Option ((Int32 × St) ⊕ (St)) :=
  (if (S.1 1 5) ≤ x6 then some (.inr S) else jx_a x6 8 ((if (S.1 2 (Int32.toNatClampNeg x6)) = x2 then jx_a x6 8 (jx_a (S.1 22 2) 8 (jx_l (u1 S 23 (Int32.toNatClampNeg (S.1 22 2)) (S.1 3 (Int32.toNatClampNeg x6))) (fun S_19 => jx_a x6 8 (jx_a (S_19.1 22 2) 8 (jx_l (u1 S_19 24 (Int32.toNatClampNeg (S_19.1 22 2)) (S_19.1 5 (Int32.toNatClampNeg x6))) (fun S_22 => jx_l (u1 S_22 22 2 ((S_22.1 22 2) + (1 : Int32))) (fun S_23 => f_X3_ways_70i8 x2 x3 x4 x5 x6 S_23))))))) else f_X3_ways_70i8 x2 x3 x4 x5 x6 S)))
def g_X3_ways_8 (x2 : Int32) (x3 : Int32) (x4 : Int32) (x5 : Int32) : (Int32 × St) → Option ((Int32 × St) ⊕ (St)) := fun z => b_X3_ways_8 x2 x3 x4 x5 z.1 z.2
def f_X3_ways (x2 : Int32) (x3 : Int32) (x4 : Int32) (x5 : Int32) (S : St) : Option (Int32 × St) :=
  jx_l (u1 S 22 2 (0 : Int32)) (fun S_1 => jx_b (jx_w (g_X3_ways_8 x2 x3 x4 x5) FU ((0 : Int32), S_1)) (fun z => f_X3_ways_76 x3 x4 x5 z))
set_option maxHeartbeats 4000000 in
set_option maxRecDepth 100000 in
theorem c_X3_ways (l : Launch) (D : va_G) (q : Nat → Nat) (k : CI) (x2 : Int32) (x3 : Int32) (x4 : Int32) (x5 : Int32) (S : St) (sz : Nat) (Z : Int32 × St) (hZ : f_X3_ways x2 x3 x4 x5 S = some Z) : MetI W_X SX l yX3_ways wsX3_ways { frames := 25, cells := 0, slots := 0, locals := 638 } [.ref (q 22), .ref (q 1), .int x2, .int x3, .int x4, .int x5] D q k S sz Z := by
  refine enter (cc := cX3_ways) (maxL := 7) (ret := some .int) (by decide) rfl (Nat.le_of_ble_eq_true rfl) ?_
  intro p e s m below meth c A ls hx hb hr hts hown hlocks hml hP hK hD hA hS hsp hAe hl
  have hown : s.vm.findClass RX3 = some m.cls := hown
  have hl : lv_has ls 7 [(0, .ref (q 22)), (1, .ref (q 1)), (2, .int x2), (3, .int x3), (4, .int x4), (5, .int x5)] := hl
  have in1 : ∀ w ∈ wsX10, w ∈ wsX3_ways := fun _ h => (List.mem_cons_of_mem _ (List.mem_append_right _ h))
  have in3 : ∀ w ∈ wsX30, w ∈ wsX3_ways := fun _ h => (List.mem_cons_of_mem _ (List.mem_append_left _ (List.mem_append_right _ h)))
  have j76 : ∀ (x3_5 : Int32) (x4_5 : Int32) (x5_5 : Int32) (S_5 : St)  (H : Heap) (locs : List Loc) (hZ : f_X3_ways_76 x3_5 x4_5 x5_5 S_5 = some Z) (hP : va_P D vwCl (W_X q k S_5) H) (hD : va_D A (W_X q k S_5)) (hS : va_S A s.heap H locs) (ls : Array Slot) (hl : lv_has ls 7 [(0, .ref (q 22)), (3, .int x3_5), (4, .int x4_5), (5, .int x5_5)]), W p l e ({ frames := 25, cells := 0, slots := 0, locals := 638 } : Room) s m ([.ref (q 22), .ref (q 1), .int x2, .int x3, .int x4, .int x5] : List Value).toArray below meth c H locs 0 0 (MQ below (va_Qi (fun r u => (r, u) = Z) (fun u t => va_P D vwCl (W_X q k u) t.heap) A) ([.ref (q 22), .ref (q 1), .int x2, .int x3, .int x4, .int x5] : List Value).toArray s 0 0 A) (F0 m 76 ls []) := by
    intro x3_5 x4_5 x5_5 S_5   H locs hZ hP hD hS ls hl
    unfold f_X3_ways_76 at hZ
    refine lv_aload_n hx hb dX3_ways_76 rfl (lv_at hl 0 rfl) ?_
    refine lv_iconst (v := (0 : Int32)) hx hb dX3_ways_77 (by decide) ?_
    refine lv_iload_n hx hb dX3_ways_78 rfl (lv_at hl 1 rfl) ?_
    refine lv_iload hx hb dX3_ways_79 (lv_at hl 2 rfl) ?_
    refine lv_iload hx hb dX3_ways_81 (lv_at hl 3 rfl) ?_
    obtain ⟨r_8, S_6, hc_7, hZ⟩ := jx_b2_some hZ
    refine call_Vi SX_ok sameX ⟨hx, hb, hml, hown, hts⟩ (c_X3_waysFrom l D q k 12 (0 : Int32) x3_5 x4_5 x5_5 S_5 _ (r_8, S_6)  hc_7) (cwV 4 hts gX3_ways_X3_waysFrom rfl rfl rfl hd_X3_waysFrom ⟨Nat.le_of_ble_eq_true rfl, Nat.le_of_ble_eq_true rfl⟩) hK hP hD hS hA hsp (va_recv hK hP (ci := 3) (q0 := 22) rfl wX_22) (As := [.int (0 : Int32), .int x3_5, .int x4_5, .int x5_5]) rfl hl.1 rfl (Nat.le_of_ble_eq_true rfl) dX3_ways_83 ⟨Nat.zero_le _, Nat.zero_le _⟩ (fun H locs hP hD hS => ?_)
    exact leave_i hx hb hr hlocks hP hS hZ dX3_ways_86
  unfold f_X3_ways at hZ
  refine lv_aload_n hx hb dX3_ways_0 rfl (lv_at hl 0 rfl) ?_
  refine lv_iconst (v := (0 : Int32)) hx hb dX3_ways_1 (by decide) ?_
  obtain ⟨S_1, e_S_1, hZ⟩ := jx_l_some hZ
  refine pf_3_number hx hb hts in3 hown hK hP hD hS (hts (.fieldLink RX3 18 "CoinsOfLast$Heap" "number" "I") (List.mem_of_getElem? (i := 1) rfl)) e_S_1 dX3_ways_2 (fun H locs hP hD hS => ?_)
  refine lv_iconst (v := (0 : Int32)) hx hb dX3_ways_5 (by decide) ?_
  refine lv_istore (lv' := [(6, .int (0 : Int32)), (0, .ref (q 22)), (1, .ref (q 1)), (2, .int x2), (3, .int x3), (4, .int x4), (5, .int x5)]) hx hb dX3_ways_6 hl (by decide) rfl (fun ls hl => ?_)
  obtain ⟨r_4, hw, hza_4⟩ := jx_b_some hZ
  have l_4 : ∀ (nn : Nat) (x6_2 : Int32) (S_3 : St) (H : Heap) (locs : List Loc) (hw : jx_w (g_X3_ways_8 x2 x3 x4 x5) nn (x6_2, S_3) = some r_4) (hP : va_P D vwCl (W_X q k S_3) H) (hD : va_D A (W_X q k S_3)) (hS : va_S A s.heap H locs) (ls : Array Slot) (hl : lv_has ls 7 [(0, .ref (q 22)), (1, .ref (q 1)), (2, .int x2), (3, .int x3), (4, .int x4), (5, .int x5), (6, .int x6_2)]), W p l e ({ frames := 25, cells := 0, slots := 0, locals := 638 } : Room) s m ([.ref (q 22), .ref (q 1), .int x2, .int x3, .int x4, .int x5] : List Value).toArray below meth c H locs 0 0 (MQ below (va_Qi (fun r u => (r, u) = Z) (fun u t => va_P D vwCl (W_X q k u) t.heap) A) ([.ref (q 22), .ref (q 1), .int x2, .int x3, .int x4, .int x5] : List Value).toArray s 0 0 A) (F0 m 8 ls []) := by
    intro nn
    induction nn with
    | zero =>
      intro x6_2 S_3 H locs hw hP hD hS ls hl
      exact jx_w_zero hw
    | succ n_4 ih_4 =>
      intro x6_2 S_3 H locs hw hP hD hS ls hl
      obtain ⟨o_4, hZ, hk_4⟩ := jx_w_succ hw
      have hZ : b_X3_ways_8 x2 x3 x4 x5 x6_2 S_3 = some o_4 := hZ
      have j70i8 : ∀ (x6_29 : Int32) (S_29 : St)  (o_4 : (Int32 × St) ⊕ (St)) (hk_4 : jx_k (g_X3_ways_8 x2 x3 x4 x5) n_4 r_4 o_4) (H : Heap) (locs : List Loc) (hZ : f_X3_ways_70i8 x2 x3 x4 x5 x6_29 S_29 = some o_4) (hP : va_P D vwCl (W_X q k S_29) H) (hD : va_D A (W_X q k S_29)) (hS : va_S A s.heap H locs) (ls : Array Slot) (hl : lv_has ls 7 [(0, .ref (q 22)), (1, .ref (q 1)), (2, .int x2), (3, .int x3), (4, .int x4), (5, .int x5), (6, .int x6_29)]), W p l e ({ frames := 25, cells := 0, slots := 0, locals := 638 } : Room) s m ([.ref (q 22), .ref (q 1), .int x2, .int x3, .int x4, .int x5] : List Value).toArray below meth c H locs 0 0 (MQ below (va_Qi (fun r u => (r, u) = Z) (fun u t => va_P D vwCl (W_X q k u) t.heap) A) ([.ref (q 22), .ref (q 1), .int x2, .int x3, .int x4, .int x5] : List Value).toArray s 0 0 A) (F0 m 70 ls []) := by
        intro x6_29 S_29  o_4 hk_4 H locs hZ hP hD hS ls hl
        unfold f_X3_ways_70i8 at hZ
        obtain ⟨x6_30, e_x6_30, hZ⟩ := jx_l_some hZ
        refine lv_iinc (v := x6_30) (lv' := [(6, .int x6_30), (0, .ref (q 22)), (1, .ref (q 1)), (2, .int x2), (3, .int x3), (4, .int x4), (5, .int x5)]) hx hb dX3_ways_70 hl (k := 6) rfl (by rw [e_x6_30]; rfl) (by decide) rfl (fun ls hl => ?_)
        refine lv_goto (tgt := 8) hx hb dX3_ways_73 (by decide) ?_
        have ho := Option.some.inj hZ
        subst ho
        exact ih_4 x6_30 S_29 _ _ hk_4 hP hD hS _ (lv_sub hl [1, 2, 3, 4, 5, 6, 0] rfl)
      unfold b_X3_ways_8 at hZ
      refine lv_iload hx hb dX3_ways_8 (lv_at hl 6 rfl) ?_
      refine lv_aload_n hx hb dX3_ways_10 rfl (lv_at hl 1 rfl) ?_
      refine gn_1_known hx hb hts in1 hown hK hP (hsp.1 _ (List.mem_of_getElem? (i := 12) rfl)) dX3_ways_11 ?_
      refine lv_icmp_ge (tgt := 76) hx hb dX3_ways_14 (by decide) (fun c_25 => ?_) (fun c_25 => ?_)
      · have hZ := jx_i_pos c_25 hZ
        have ho := Option.some.inj hZ
        subst ho
        have hE := hza_4
        rw [← (show S_3 = r_4 from hk_4)] at hE
        have hZ : f_X3_ways_76 x3 x4 x5 S_3 = some Z := hE
        exact j76 x3 x4 x5 S_3 _ _ hZ hP hD hS _ (lv_sub hl [0, 3, 4, 5] rfl)
      · have hZ := jx_i_neg c_25 hZ
        refine lv_aload_n hx hb dX3_ways_17 rfl (lv_at hl 1 rfl) ?_
        refine gn_1_land hx hb hts in1 hown hK hP (hsp.1 _ (List.mem_of_getElem? (i := 0) rfl)) dX3_ways_18 ?_
        refine lv_iload hx hb dX3_ways_21 (lv_at hl 6 rfl) ?_
        obtain ⟨c_27, hZ⟩ := jx_a_some hZ
        refine X_iald hx hb hK hP wX_2 c_27 dX3_ways_23 ?_
        refine lv_iload_n hx hb dX3_ways_24 rfl (lv_at hl 2 rfl) ?_
        refine lv_icmp_ne (tgt := 70) hx hb dX3_ways_25 (by decide) (fun c_28 => ?_) (fun c_28 => ?_)
        · have hZ := jx_i_neg c_28 hZ
          exact j70i8 x6_2 S_3 _ hk_4 _ _ hZ hP hD hS _ (lv_sub hl [0, 1, 2, 3, 4, 5, 6] rfl)
        · have hZ := jx_i_pos c_28 hZ
          refine lv_aload_n hx hb dX3_ways_28 rfl (lv_at hl 0 rfl) ?_
          refine gf_3_worth hx hb hts in3 hown hK hP (hts (.fieldLink RX3 9 "CoinsOfLast$Heap" "worth" "[I") (List.mem_of_getElem? (i := 2) rfl)) dX3_ways_29 ?_
          refine lv_aload_n hx hb dX3_ways_32 rfl (lv_at hl 0 rfl) ?_
          refine gf_3_number hx hb hts in3 hown hK hP (hts (.fieldLink RX3 18 "CoinsOfLast$Heap" "number" "I") (List.mem_of_getElem? (i := 1) rfl)) dX3_ways_33 ?_
          refine lv_aload_n hx hb dX3_ways_36 rfl (lv_at hl 1 rfl) ?_
          refine gn_1_worth hx hb hts in1 hown hK hP (hsp.1 _ (List.mem_of_getElem? (i := 3) rfl)) dX3_ways_37 ?_
          refine lv_iload hx hb dX3_ways_40 (lv_at hl 6 rfl) ?_
          obtain ⟨c_32, hZ⟩ := jx_a_some hZ
          refine X_iald hx hb hK hP wX_3 c_32 dX3_ways_42 ?_
          obtain ⟨c_33, hZ⟩ := jx_a_some hZ
          obtain ⟨S_34, e_S_34, hZ⟩ := jx_l_some hZ
          refine X_iast hx hb hK hP hD hS wX_23 (fun _ => wXs_23) c_33 e_S_34 dX3_ways_43 (fun H locs hP hD hS => ?_)
          refine lv_aload_n hx hb dX3_ways_44 rfl (lv_at hl 0 rfl) ?_
          refine gf_3_weight hx hb hts in3 hown hK hP (hts (.fieldLink RX3 15 "CoinsOfLast$Heap" "weight" "[I") (List.mem_of_getElem? (i := 3) rfl)) dX3_ways_45 ?_
          refine lv_aload_n hx hb dX3_ways_48 rfl (lv_at hl 0 rfl) ?_
          refine gf_3_number hx hb hts in3 hown hK hP (hts (.fieldLink RX3 18 "CoinsOfLast$Heap" "number" "I") (List.mem_of_getElem? (i := 1) rfl)) dX3_ways_49 ?_
          refine lv_aload_n hx hb dX3_ways_52 rfl (lv_at hl 1 rfl) ?_
          refine gn_1_weight hx hb hts in1 hown hK hP (hsp.1 _ (List.mem_of_getElem? (i := 7) rfl)) dX3_ways_53 ?_
          refine lv_iload hx hb dX3_ways_56 (lv_at hl 6 rfl) ?_
          obtain ⟨c_35, hZ⟩ := jx_a_some hZ
          refine X_iald hx hb hK hP wX_5 c_35 dX3_ways_58 ?_
          obtain ⟨c_36, hZ⟩ := jx_a_some hZ
          obtain ⟨S_37, e_S_37, hZ⟩ := jx_l_some hZ
          refine X_iast hx hb hK hP hD hS wX_24 (fun _ => wXs_24) c_36 e_S_37 dX3_ways_59 (fun H locs hP hD hS => ?_)
          refine lv_aload_n hx hb dX3_ways_60 rfl (lv_at hl 0 rfl) ?_
          refine lv_dup hx hb dX3_ways_61 rfl ?_
          refine gf_3_number hx hb hts in3 hown hK hP (hts (.fieldLink RX3 18 "CoinsOfLast$Heap" "number" "I") (List.mem_of_getElem? (i := 1) rfl)) dX3_ways_62 ?_
          refine lv_iconst (v := (1 : Int32)) hx hb dX3_ways_65 (by decide) ?_
          refine lv_iadd hx hb dX3_ways_66 ?_
          obtain ⟨S_38, e_S_38, hZ⟩ := jx_l_some hZ
          refine pf_3_number hx hb hts in3 hown hK hP hD hS (hts (.fieldLink RX3 18 "CoinsOfLast$Heap" "number" "I") (List.mem_of_getElem? (i := 1) rfl)) e_S_38 dX3_ways_67 (fun H locs hP hD hS => ?_)
          exact j70i8 x6_2 S_38 _ hk_4 _ _ hZ hP hD hS _ (lv_sub hl [0, 1, 2, 3, 4, 5, 6] rfl)
  exact l_4 FU (0 : Int32) S_1 _ _ hw hP hD hS _ (lv_sub hl [1, 2, 3, 4, 5, 6, 0] rfl)
-- X4_take
def f_X4_take (S : St) : Option (St) :=
  jx_c (0 : Int32) (0 : Int32) (8 : Int32) 8 8 (jx_l (s1 S 31 (va_cpy (S.1 6) (S.1 31) (Int32.toNatClampNeg (0 : Int32)) (Int32.toNatClampNeg (0 : Int32)) (Int32.toNatClampNeg (8 : Int32)))) (fun S_2 => jx_c (0 : Int32) (0 : Int32) (10 : Int32) 10 10 (jx_l (s1 S_2 32 (va_cpy (S_2.1 11) (S_2.1 32) (Int32.toNatClampNeg (0 : Int32)) (Int32.toNatClampNeg (0 : Int32)) (Int32.toNatClampNeg (10 : Int32)))) (fun S_4 => jx_c (0 : Int32) (0 : Int32) (3 : Int32) 3 3 (jx_l (s1 S_4 33 (va_cpy (S_4.1 39) (S_4.1 33) (Int32.toNatClampNeg (0 : Int32)) (Int32.toNatClampNeg (0 : Int32)) (Int32.toNatClampNeg (3 : Int32)))) (fun S_6 => jx_l (u1 S_6 30 3 (S_6.1 1 5)) (fun S_7 => jx_l (u1 S_7 30 4 (S_7.1 7 4)) (fun S_8 => jx_l (u1 S_8 30 5 (1 : Int32)) (fun S_9 => some S_9)))))))))
set_option maxHeartbeats 4000000 in
set_option maxRecDepth 100000 in
theorem c_X4_take (l : Launch) (D : va_G) (q : Nat → Nat) (k : CI) (S : St) (sz : Nat) (Z : St) (hZ : f_X4_take S = some Z) : MetV W_X SX l yX4_take wsX4_take { frames := 1, cells := 0, slots := 0, locals := 48 } [.ref (q 30), .ref (q 1), .ref (q 7), .ref (q 39)] D q k S sz Z := by
  refine enter (cc := cX4_take) (maxL := 4) (ret := none) (by decide) rfl (Nat.le_of_ble_eq_true rfl) ?_
  intro p e s m below meth c A ls hx hb hr hts hown hlocks hml hP hK hD hA hS hsp hAe hl
  have hown : s.vm.findClass RX4 = some m.cls := hown
  have hl : lv_has ls 4 [(0, .ref (q 30)), (1, .ref (q 1)), (2, .ref (q 7)), (3, .ref (q 39))] := hl
  have in1 : ∀ w ∈ wsX10, w ∈ wsX4_take := fun _ h => (List.mem_cons_of_mem _ (List.mem_append_left _ (List.mem_append_left _ (List.mem_append_right _ h))))
  have in4 : ∀ w ∈ wsX40, w ∈ wsX4_take := fun _ h => (List.mem_cons_of_mem _ (List.mem_append_left _ (List.mem_append_right _ h)))
  have in9 : ∀ w ∈ wsX90, w ∈ wsX4_take := fun _ h => (List.mem_cons_of_mem _ (List.mem_append_right _ h))
  unfold f_X4_take at hZ
  refine lv_aload_n hx hb dX4_take_0 rfl (lv_at hl 1 rfl) ?_
  refine gn_1_held hx hb hts in1 hown hK hP (hsp.1 _ (List.mem_of_getElem? (i := 9) rfl)) dX4_take_1 ?_
  refine lv_iconst (v := (0 : Int32)) hx hb dX4_take_4 (by decide) ?_
  refine lv_aload_n hx hb dX4_take_5 rfl (lv_at hl 0 rfl) ?_
  refine gf_4_held hx hb hts in4 hown hK hP (hts (.fieldLink RX4 9 "CoinsOfLast$Image" "held" "[I") (List.mem_of_getElem? (i := 1) rfl)) dX4_take_6 ?_
  refine lv_iconst (v := (0 : Int32)) hx hb dX4_take_9 (by decide) ?_
  refine lv_bipush (v := (8 : Int32)) hx hb dX4_take_10 (by decide) ?_
  obtain ⟨c_1, hZ⟩ := jx_c_some hZ
  obtain ⟨S_2, e_S_2, hZ⟩ := jx_l_some hZ
  refine X_copyi hx hb (hml.trans hl.1.symm) hown (hts _ (List.mem_of_getElem? (i := 2) rfl)) (hts _ (List.mem_of_getElem? (i := 3) rfl)) (hts _ (List.mem_of_getElem? (i := 4) rfl)) (hts _ (List.mem_of_getElem? (i := 5) rfl)) hK hP hD hS wX_6 wX_31 (fun _ => wXs_31) c_1 e_S_2 (Nat.le_of_ble_eq_true rfl) (Nat.le_of_ble_eq_true rfl) dX4_take_12 (fun H locs hP hD hS => ?_)
  refine lv_aload_n hx hb dX4_take_15 rfl (lv_at hl 2 rfl) ?_
  refine gn_9_many hx hb hts in9 hown hK hP (hsp.1 _ (List.mem_of_getElem? (i := 22) rfl)) dX4_take_16 ?_
  refine lv_iconst (v := (0 : Int32)) hx hb dX4_take_19 (by decide) ?_
  refine lv_aload_n hx hb dX4_take_20 rfl (lv_at hl 0 rfl) ?_
  refine gf_4_many hx hb hts in4 hown hK hP (hts (.fieldLink RX4 15 "CoinsOfLast$Image" "many" "[I") (List.mem_of_getElem? (i := 6) rfl)) dX4_take_21 ?_
  refine lv_iconst (v := (0 : Int32)) hx hb dX4_take_24 (by decide) ?_
  refine lv_bipush (v := (10 : Int32)) hx hb dX4_take_25 (by decide) ?_
  obtain ⟨c_3, hZ⟩ := jx_c_some hZ
  obtain ⟨S_4, e_S_4, hZ⟩ := jx_l_some hZ
  refine X_copyi hx hb (hml.trans hl.1.symm) hown (hts _ (List.mem_of_getElem? (i := 2) rfl)) (hts _ (List.mem_of_getElem? (i := 3) rfl)) (hts _ (List.mem_of_getElem? (i := 4) rfl)) (hts _ (List.mem_of_getElem? (i := 5) rfl)) hK hP hD hS wX_11 wX_32 (fun _ => wXs_32) c_3 e_S_4 (Nat.le_of_ble_eq_true rfl) (Nat.le_of_ble_eq_true rfl) dX4_take_27 (fun H locs hP hD hS => ?_)
  refine lv_aload_n hx hb dX4_take_30 rfl (lv_at hl 3 rfl) ?_
  refine lv_iconst (v := (0 : Int32)) hx hb dX4_take_31 (by decide) ?_
  refine lv_aload_n hx hb dX4_take_32 rfl (lv_at hl 0 rfl) ?_
  refine gf_4_ledger hx hb hts in4 hown hK hP (hts (.fieldLink RX4 18 "CoinsOfLast$Image" "ledger" "[I") (List.mem_of_getElem? (i := 7) rfl)) dX4_take_33 ?_
  refine lv_iconst (v := (0 : Int32)) hx hb dX4_take_36 (by decide) ?_
  refine lv_iconst (v := (3 : Int32)) hx hb dX4_take_37 (by decide) ?_
  obtain ⟨c_5, hZ⟩ := jx_c_some hZ
  obtain ⟨S_6, e_S_6, hZ⟩ := jx_l_some hZ
  refine X_copyi hx hb (hml.trans hl.1.symm) hown (hts _ (List.mem_of_getElem? (i := 2) rfl)) (hts _ (List.mem_of_getElem? (i := 3) rfl)) (hts _ (List.mem_of_getElem? (i := 4) rfl)) (hts _ (List.mem_of_getElem? (i := 5) rfl)) hK hP hD hS wX_39 wX_33 (fun _ => wXs_33) c_5 e_S_6 (Nat.le_of_ble_eq_true rfl) (Nat.le_of_ble_eq_true rfl) dX4_take_38 (fun H locs hP hD hS => ?_)
  refine lv_aload_n hx hb dX4_take_41 rfl (lv_at hl 0 rfl) ?_
  refine lv_aload_n hx hb dX4_take_42 rfl (lv_at hl 1 rfl) ?_
  refine gn_1_known hx hb hts in1 hown hK hP (hsp.1 _ (List.mem_of_getElem? (i := 14) rfl)) dX4_take_43 ?_
  obtain ⟨S_7, e_S_7, hZ⟩ := jx_l_some hZ
  refine pf_4_sortsThen hx hb hts in4 hown hK hP hD hS (hts (.fieldLink RX4 37 "CoinsOfLast$Image" "sortsThen" "I") (List.mem_of_getElem? (i := 8) rfl)) e_S_7 dX4_take_46 (fun H locs hP hD hS => ?_)
  refine lv_aload_n hx hb dX4_take_49 rfl (lv_at hl 0 rfl) ?_
  refine lv_aload_n hx hb dX4_take_50 rfl (lv_at hl 2 rfl) ?_
  refine gn_9_known hx hb hts in9 hown hK hP (hsp.1 _ (List.mem_of_getElem? (i := 25) rfl)) dX4_take_51 ?_
  obtain ⟨S_8, e_S_8, hZ⟩ := jx_l_some hZ
  refine pf_4_thingsThen hx hb hts in4 hown hK hP hD hS (hts (.fieldLink RX4 41 "CoinsOfLast$Image" "thingsThen" "I") (List.mem_of_getElem? (i := 9) rfl)) e_S_8 dX4_take_54 (fun H locs hP hD hS => ?_)
  refine lv_aload_n hx hb dX4_take_57 rfl (lv_at hl 0 rfl) ?_
  refine lv_iconst (v := (1 : Int32)) hx hb dX4_take_58 (by decide) ?_
  obtain ⟨S_9, e_S_9, hZ⟩ := jx_l_some hZ
  refine pf_4_there hx hb hts in4 hown hK hP hD hS (hts (.fieldLink RX4 44 "CoinsOfLast$Image" "there" "Z") (List.mem_of_getElem? (i := 10) rfl)) rfl rfl e_S_9 dX4_take_59 (fun H locs hP hD hS => ?_)
  exact leave_v hx hb hr hlocks hP hS hZ dX4_take_62
-- X4_restore
def f_X4_restore_86 (S_8 : St) : Option (St) :=
  jx_c (0 : Int32) (0 : Int32) (3 : Int32) 3 3 (jx_l (s1 S_8 39 (va_cpy (S_8.1 33) (S_8.1 39) (Int32.toNatClampNeg (0 : Int32)) (Int32.toNatClampNeg (0 : Int32)) (Int32.toNatClampNeg (3 : Int32)))) (fun S_10 => some S_10))
def b_X4_restore_48 (x4 : Int32) (S : St) : Option ((Int32 × St) ⊕ (St)) :=
  (if (S.1 7 4) ≤ x4 then some (.inr S) else (if (S.1 30 4) ≤ x4 then some (.inr S) else jx_a x4 10 (jx_a x4 10 (jx_l (u1 S 11 (Int32.toNatClampNeg x4) (S.1 32 (Int32.toNatClampNeg x4))) (fun S_18 => jx_l (x4 + 1) (fun x4_19 => some (.inl (x4_19, S_18))))))))
def g_X4_restore_48 : (Int32 × St) → Option ((Int32 × St) ⊕ (St)) := fun z => b_X4_restore_48 z.1 z.2
def f_X4_restore_45 (S_4 : St) : Option (St) :=
  jx_b (jx_w (g_X4_restore_48) FU ((0 : Int32), S_4)) (fun z => f_X4_restore_86 z)
def f_X4_restore_38i3 (x4_32 : Int32) (s1_32 : Int32) (s2_32 : Int32) (S_32 : St) : Option ((Int32 × St) ⊕ (St)) :=
  jx_a s1_32 8 (jx_l (u1 S_32 6 (Int32.toNatClampNeg s1_32) s2_32) (fun S_34 => jx_l (x4_32 + 1) (fun x4_35 => some (.inl (x4_35, S_34)))))
def b_X4_restore_3 (x4 : Int32) (S : St) : Option ((Int32 × St) ⊕ (St)) :=
  (if (S.1 1 5) ≤ x4 then some (.inr S) else (if (S.1 30 3) ≤ x4 then f_X4_restore_38i3 x4 x4 (0 : Int32) S else jx_a x4 8 (f_X4_restore_38i3 x4 x4 (S.1 31 (Int32.toNatClampNeg x4)) S)))
def g_X4_restore_3 : (Int32 × St) → Option ((Int32 × St) ⊕ (St)) := fun z => b_X4_restore_3 z.1 z.2
def f_X4_restore (S : St) : Option (St) :=
  jx_b (jx_w (g_X4_restore_3) FU ((0 : Int32), S)) (fun z => f_X4_restore_45 z)
set_option maxHeartbeats 4000000 in
set_option maxRecDepth 100000 in
theorem c_X4_restore (l : Launch) (D : va_G) (q : Nat → Nat) (k : CI) (S : St) (sz : Nat) (Z : St) (hZ : f_X4_restore S = some Z) : MetV W_X SX l yX4_restore wsX4_restore { frames := 1, cells := 0, slots := 0, locals := 48 } [.ref (q 30), .ref (q 1), .ref (q 7), .ref (q 39)] D q k S sz Z := by
  refine enter (cc := cX4_restore) (maxL := 5) (ret := none) (by decide) rfl (Nat.le_of_ble_eq_true rfl) ?_
  intro p e s m below meth c A ls hx hb hr hts hown hlocks hml hP hK hD hA hS hsp hAe hl
  have hown : s.vm.findClass RX4 = some m.cls := hown
  have hl : lv_has ls 5 [(0, .ref (q 30)), (1, .ref (q 1)), (2, .ref (q 7)), (3, .ref (q 39))] := hl
  have in1 : ∀ w ∈ wsX10, w ∈ wsX4_restore := fun _ h => (List.mem_cons_of_mem _ (List.mem_append_left _ (List.mem_append_left _ (List.mem_append_right _ h))))
  have in4 : ∀ w ∈ wsX40, w ∈ wsX4_restore := fun _ h => (List.mem_cons_of_mem _ (List.mem_append_left _ (List.mem_append_right _ h)))
  have in9 : ∀ w ∈ wsX90, w ∈ wsX4_restore := fun _ h => (List.mem_cons_of_mem _ (List.mem_append_right _ h))
  have j86 : ∀ (S_8 : St)  (H : Heap) (locs : List Loc) (hZ : f_X4_restore_86 S_8 = some Z) (hP : va_P D vwCl (W_X q k S_8) H) (hD : va_D A (W_X q k S_8)) (hS : va_S A s.heap H locs) (ls : Array Slot) (hl : lv_has ls 5 [(0, .ref (q 30)), (3, .ref (q 39))]), W p l e ({ frames := 1, cells := 0, slots := 0, locals := 48 } : Room) s m ([.ref (q 30), .ref (q 1), .ref (q 7), .ref (q 39)] : List Value).toArray below meth c H locs 0 0 (MQ below (va_Qv (fun u => u = Z) (fun u t => va_P D vwCl (W_X q k u) t.heap) A) ([.ref (q 30), .ref (q 1), .ref (q 7), .ref (q 39)] : List Value).toArray s 0 0 A) (F0 m 86 ls []) := by
    intro S_8   H locs hZ hP hD hS ls hl
    unfold f_X4_restore_86 at hZ
    refine lv_aload_n hx hb dX4_restore_86 rfl (lv_at hl 0 rfl) ?_
    refine gf_4_ledger hx hb hts in4 hown hK hP (hts (.fieldLink RX4 18 "CoinsOfLast$Image" "ledger" "[I") (List.mem_of_getElem? (i := 5) rfl)) dX4_restore_87 ?_
    refine lv_iconst (v := (0 : Int32)) hx hb dX4_restore_90 (by decide) ?_
    refine lv_aload_n hx hb dX4_restore_91 rfl (lv_at hl 1 rfl) ?_
    refine lv_iconst (v := (0 : Int32)) hx hb dX4_restore_92 (by decide) ?_
    refine lv_iconst (v := (3 : Int32)) hx hb dX4_restore_93 (by decide) ?_
    obtain ⟨c_9, hZ⟩ := jx_c_some hZ
    obtain ⟨S_10, e_S_10, hZ⟩ := jx_l_some hZ
    refine X_copyi hx hb (hml.trans hl.1.symm) hown (hts _ (List.mem_of_getElem? (i := 6) rfl)) (hts _ (List.mem_of_getElem? (i := 7) rfl)) (hts _ (List.mem_of_getElem? (i := 8) rfl)) (hts _ (List.mem_of_getElem? (i := 9) rfl)) hK hP hD hS wX_33 wX_39 (fun _ => wXs_39) c_9 e_S_10 (Nat.le_of_ble_eq_true rfl) (Nat.le_of_ble_eq_true rfl) dX4_restore_94 (fun H locs hP hD hS => ?_)
    exact leave_v hx hb hr hlocks hP hS hZ dX4_restore_97
  have j45 : ∀ (S_4 : St)  (H : Heap) (locs : List Loc) (hZ : f_X4_restore_45 S_4 = some Z) (hP : va_P D vwCl (W_X q k S_4) H) (hD : va_D A (W_X q k S_4)) (hS : va_S A s.heap H locs) (ls : Array Slot) (hl : lv_has ls 5 [(0, .ref (q 30)), (2, .ref (q 7)), (3, .ref (q 39))]), W p l e ({ frames := 1, cells := 0, slots := 0, locals := 48 } : Room) s m ([.ref (q 30), .ref (q 1), .ref (q 7), .ref (q 39)] : List Value).toArray below meth c H locs 0 0 (MQ below (va_Qv (fun u => u = Z) (fun u t => va_P D vwCl (W_X q k u) t.heap) A) ([.ref (q 30), .ref (q 1), .ref (q 7), .ref (q 39)] : List Value).toArray s 0 0 A) (F0 m 45 ls []) := by
    intro S_4   H locs hZ hP hD hS ls hl
    unfold f_X4_restore_45 at hZ
    refine lv_iconst (v := (0 : Int32)) hx hb dX4_restore_45 (by decide) ?_
    refine lv_istore (lv' := [(4, .int (0 : Int32)), (0, .ref (q 30)), (2, .ref (q 7)), (3, .ref (q 39))]) hx hb dX4_restore_46 hl (by decide) rfl (fun ls hl => ?_)
    obtain ⟨r_7, hw, hza_7⟩ := jx_b_some hZ
    have l_7 : ∀ (nn : Nat) (x4_5 : Int32) (S_6 : St) (H : Heap) (locs : List Loc) (hw : jx_w (g_X4_restore_48) nn (x4_5, S_6) = some r_7) (hP : va_P D vwCl (W_X q k S_6) H) (hD : va_D A (W_X q k S_6)) (hS : va_S A s.heap H locs) (ls : Array Slot) (hl : lv_has ls 5 [(0, .ref (q 30)), (2, .ref (q 7)), (3, .ref (q 39)), (4, .int x4_5)]), W p l e ({ frames := 1, cells := 0, slots := 0, locals := 48 } : Room) s m ([.ref (q 30), .ref (q 1), .ref (q 7), .ref (q 39)] : List Value).toArray below meth c H locs 0 0 (MQ below (va_Qv (fun u => u = Z) (fun u t => va_P D vwCl (W_X q k u) t.heap) A) ([.ref (q 30), .ref (q 1), .ref (q 7), .ref (q 39)] : List Value).toArray s 0 0 A) (F0 m 48 ls []) := by
      intro nn
      induction nn with
      | zero =>
        intro x4_5 S_6 H locs hw hP hD hS ls hl
        exact jx_w_zero hw
      | succ n_7 ih_7 =>
        intro x4_5 S_6 H locs hw hP hD hS ls hl
        obtain ⟨o_7, hZ, hk_7⟩ := jx_w_succ hw
        have hZ : b_X4_restore_48 x4_5 S_6 = some o_7 := hZ
        unfold b_X4_restore_48 at hZ
        refine lv_iload hx hb dX4_restore_48 (lv_at hl 3 rfl) ?_
        refine lv_aload_n hx hb dX4_restore_50 rfl (lv_at hl 1 rfl) ?_
        refine gn_9_known hx hb hts in9 hown hK hP (hsp.1 _ (List.mem_of_getElem? (i := 25) rfl)) dX4_restore_51 ?_
        refine lv_icmp_ge (tgt := 86) hx hb dX4_restore_54 (by decide) (fun c_20 => ?_) (fun c_20 => ?_)
        · have hZ := jx_i_pos c_20 hZ
          have ho := Option.some.inj hZ
          subst ho
          have hE := hza_7
          rw [← (show S_6 = r_7 from hk_7)] at hE
          have hZ : f_X4_restore_86 S_6 = some Z := hE
          exact j86 S_6 _ _ hZ hP hD hS _ (lv_sub hl [0, 2] rfl)
        · have hZ := jx_i_neg c_20 hZ
          refine lv_iload hx hb dX4_restore_57 (lv_at hl 3 rfl) ?_
          refine lv_aload_n hx hb dX4_restore_59 rfl (lv_at hl 0 rfl) ?_
          refine gf_4_thingsThen hx hb hts in4 hown hK hP (hts (.fieldLink RX4 41 "CoinsOfLast$Image" "thingsThen" "I") (List.mem_of_getElem? (i := 3) rfl)) dX4_restore_60 ?_
          refine lv_icmp_ge (tgt := 86) hx hb dX4_restore_63 (by decide) (fun c_22 => ?_) (fun c_22 => ?_)
          · have hZ := jx_i_pos c_22 hZ
            have ho := Option.some.inj hZ
            subst ho
            have hE := hza_7
            rw [← (show S_6 = r_7 from hk_7)] at hE
            have hZ : f_X4_restore_86 S_6 = some Z := hE
            exact j86 S_6 _ _ hZ hP hD hS _ (lv_sub hl [0, 2] rfl)
          · have hZ := jx_i_neg c_22 hZ
            refine lv_aload_n hx hb dX4_restore_66 rfl (lv_at hl 1 rfl) ?_
            refine gn_9_many hx hb hts in9 hown hK hP (hsp.1 _ (List.mem_of_getElem? (i := 22) rfl)) dX4_restore_67 ?_
            refine lv_iload hx hb dX4_restore_70 (lv_at hl 3 rfl) ?_
            refine lv_aload_n hx hb dX4_restore_72 rfl (lv_at hl 0 rfl) ?_
            refine gf_4_many hx hb hts in4 hown hK hP (hts (.fieldLink RX4 15 "CoinsOfLast$Image" "many" "[I") (List.mem_of_getElem? (i := 4) rfl)) dX4_restore_73 ?_
            refine lv_iload hx hb dX4_restore_76 (lv_at hl 3 rfl) ?_
            obtain ⟨c_24, hZ⟩ := jx_a_some hZ
            refine X_iald hx hb hK hP wX_32 c_24 dX4_restore_78 ?_
            obtain ⟨c_25, hZ⟩ := jx_a_some hZ
            obtain ⟨S_26, e_S_26, hZ⟩ := jx_l_some hZ
            refine X_iast hx hb hK hP hD hS wX_11 (fun _ => wXs_11) c_25 e_S_26 dX4_restore_79 (fun H locs hP hD hS => ?_)
            obtain ⟨x4_27, e_x4_27, hZ⟩ := jx_l_some hZ
            refine lv_iinc (v := x4_27) (lv' := [(4, .int x4_27), (0, .ref (q 30)), (2, .ref (q 7)), (3, .ref (q 39))]) hx hb dX4_restore_80 hl (k := 3) rfl (by rw [e_x4_27]; rfl) (by decide) rfl (fun ls hl => ?_)
            refine lv_goto (tgt := 48) hx hb dX4_restore_83 (by decide) ?_
            have ho := Option.some.inj hZ
            subst ho
            exact ih_7 x4_27 S_26 _ _ hk_7 hP hD hS _ (lv_sub hl [1, 2, 3, 0] rfl)
    exact l_7 FU (0 : Int32) S_4 _ _ hw hP hD hS _ (lv_sub hl [1, 2, 3, 0] rfl)
  unfold f_X4_restore at hZ
  refine lv_iconst (v := (0 : Int32)) hx hb dX4_restore_0 (by decide) ?_
  refine lv_istore (lv' := [(4, .int (0 : Int32)), (0, .ref (q 30)), (1, .ref (q 1)), (2, .ref (q 7)), (3, .ref (q 39))]) hx hb dX4_restore_1 hl (by decide) rfl (fun ls hl => ?_)
  obtain ⟨r_3, hw, hza_3⟩ := jx_b_some hZ
  have l_3 : ∀ (nn : Nat) (x4_1 : Int32) (S_2 : St) (H : Heap) (locs : List Loc) (hw : jx_w (g_X4_restore_3) nn (x4_1, S_2) = some r_3) (hP : va_P D vwCl (W_X q k S_2) H) (hD : va_D A (W_X q k S_2)) (hS : va_S A s.heap H locs) (ls : Array Slot) (hl : lv_has ls 5 [(0, .ref (q 30)), (1, .ref (q 1)), (2, .ref (q 7)), (3, .ref (q 39)), (4, .int x4_1)]), W p l e ({ frames := 1, cells := 0, slots := 0, locals := 48 } : Room) s m ([.ref (q 30), .ref (q 1), .ref (q 7), .ref (q 39)] : List Value).toArray below meth c H locs 0 0 (MQ below (va_Qv (fun u => u = Z) (fun u t => va_P D vwCl (W_X q k u) t.heap) A) ([.ref (q 30), .ref (q 1), .ref (q 7), .ref (q 39)] : List Value).toArray s 0 0 A) (F0 m 3 ls []) := by
    intro nn
    induction nn with
    | zero =>
      intro x4_1 S_2 H locs hw hP hD hS ls hl
      exact jx_w_zero hw
    | succ n_3 ih_3 =>
      intro x4_1 S_2 H locs hw hP hD hS ls hl
      obtain ⟨o_3, hZ, hk_3⟩ := jx_w_succ hw
      have hZ : b_X4_restore_3 x4_1 S_2 = some o_3 := hZ
      have j38i3 : ∀ (x4_42 : Int32) (s1_42 : Int32) (s2_42 : Int32) (S_42 : St)  (o_3 : (Int32 × St) ⊕ (St)) (hk_3 : jx_k (g_X4_restore_3) n_3 r_3 o_3) (H : Heap) (locs : List Loc) (hZ : f_X4_restore_38i3 x4_42 s1_42 s2_42 S_42 = some o_3) (hP : va_P D vwCl (W_X q k S_42) H) (hD : va_D A (W_X q k S_42)) (hS : va_S A s.heap H locs) (ls : Array Slot) (hl : lv_has ls 5 [(0, .ref (q 30)), (1, .ref (q 1)), (2, .ref (q 7)), (3, .ref (q 39)), (4, .int x4_42)]), W p l e ({ frames := 1, cells := 0, slots := 0, locals := 48 } : Room) s m ([.ref (q 30), .ref (q 1), .ref (q 7), .ref (q 39)] : List Value).toArray below meth c H locs 0 0 (MQ below (va_Qv (fun u => u = Z) (fun u t => va_P D vwCl (W_X q k u) t.heap) A) ([.ref (q 30), .ref (q 1), .ref (q 7), .ref (q 39)] : List Value).toArray s 0 0 A) (F0 m 38 ls [.int s2_42, .int s1_42, .ref (q 6)]) := by
        intro x4_42 s1_42 s2_42 S_42  o_3 hk_3 H locs hZ hP hD hS ls hl
        unfold f_X4_restore_38i3 at hZ
        obtain ⟨c_43, hZ⟩ := jx_a_some hZ
        obtain ⟨S_44, e_S_44, hZ⟩ := jx_l_some hZ
        refine X_iast hx hb hK hP hD hS wX_6 (fun _ => wXs_6) c_43 e_S_44 dX4_restore_38 (fun H locs hP hD hS => ?_)
        obtain ⟨x4_45, e_x4_45, hZ⟩ := jx_l_some hZ
        refine lv_iinc (v := x4_45) (lv' := [(4, .int x4_45), (0, .ref (q 30)), (1, .ref (q 1)), (2, .ref (q 7)), (3, .ref (q 39))]) hx hb dX4_restore_39 hl (k := 4) rfl (by rw [e_x4_45]; rfl) (by decide) rfl (fun ls hl => ?_)
        refine lv_goto (tgt := 3) hx hb dX4_restore_42 (by decide) ?_
        have ho := Option.some.inj hZ
        subst ho
        exact ih_3 x4_45 S_44 _ _ hk_3 hP hD hS _ (lv_sub hl [1, 2, 3, 4, 0] rfl)
      unfold b_X4_restore_3 at hZ
      refine lv_iload hx hb dX4_restore_3 (lv_at hl 4 rfl) ?_
      refine lv_aload_n hx hb dX4_restore_5 rfl (lv_at hl 1 rfl) ?_
      refine gn_1_known hx hb hts in1 hown hK hP (hsp.1 _ (List.mem_of_getElem? (i := 14) rfl)) dX4_restore_6 ?_
      refine lv_icmp_ge (tgt := 45) hx hb dX4_restore_9 (by decide) (fun c_39 => ?_) (fun c_39 => ?_)
      · have hZ := jx_i_pos c_39 hZ
        have ho := Option.some.inj hZ
        subst ho
        have hE := hza_3
        rw [← (show S_2 = r_3 from hk_3)] at hE
        have hZ : f_X4_restore_45 S_2 = some Z := hE
        exact j45 S_2 _ _ hZ hP hD hS _ (lv_sub hl [0, 2, 3] rfl)
      · have hZ := jx_i_neg c_39 hZ
        refine lv_aload_n hx hb dX4_restore_12 rfl (lv_at hl 1 rfl) ?_
        refine gn_1_held hx hb hts in1 hown hK hP (hsp.1 _ (List.mem_of_getElem? (i := 9) rfl)) dX4_restore_13 ?_
        refine lv_iload hx hb dX4_restore_16 (lv_at hl 4 rfl) ?_
        refine lv_iload hx hb dX4_restore_18 (lv_at hl 4 rfl) ?_
        refine lv_aload_n hx hb dX4_restore_20 rfl (lv_at hl 0 rfl) ?_
        refine gf_4_sortsThen hx hb hts in4 hown hK hP (hts (.fieldLink RX4 37 "CoinsOfLast$Image" "sortsThen" "I") (List.mem_of_getElem? (i := 1) rfl)) dX4_restore_21 ?_
        refine lv_icmp_ge (tgt := 37) hx hb dX4_restore_24 (by decide) (fun c_41 => ?_) (fun c_41 => ?_)
        · have hZ := jx_i_pos c_41 hZ
          refine lv_iconst (v := (0 : Int32)) hx hb dX4_restore_37 (by decide) ?_
          exact j38i3 x4_1 x4_1 (0 : Int32) S_2 _ hk_3 _ _ hZ hP hD hS _ (lv_sub hl [0, 1, 2, 3, 4] rfl)
        · have hZ := jx_i_neg c_41 hZ
          refine lv_aload_n hx hb dX4_restore_27 rfl (lv_at hl 0 rfl) ?_
          refine gf_4_held hx hb hts in4 hown hK hP (hts (.fieldLink RX4 9 "CoinsOfLast$Image" "held" "[I") (List.mem_of_getElem? (i := 2) rfl)) dX4_restore_28 ?_
          refine lv_iload hx hb dX4_restore_31 (lv_at hl 4 rfl) ?_
          obtain ⟨c_47, hZ⟩ := jx_a_some hZ
          refine X_iald hx hb hK hP wX_31 c_47 dX4_restore_33 ?_
          refine lv_goto (tgt := 38) hx hb dX4_restore_34 (by decide) ?_
          exact j38i3 x4_1 x4_1 (S_2.1 31 (Int32.toNatClampNeg x4_1)) S_2 _ hk_3 _ _ hZ hP hD hS _ (lv_sub hl [0, 1, 2, 3, 4] rfl)
  exact l_3 FU (0 : Int32) S _ _ hw hP hD hS _ (lv_sub hl [1, 2, 3, 4, 0] rfl)
-- J7_fill_d0a16
def f_J7_fill_d0a16_22 (S_4 : St) : Option (St) :=
  some S_4
def b_J7_fill_d0a16_6 (x1 : Int64) (x4 : Int32) (x3 : Int32) (S : St) : Option ((Int32 × St) ⊕ (St)) :=
  (if x4 ≤ x3 then some (.inr S) else jx_a x3 31 (jx_l (u2 S 13 (Int32.toNatClampNeg x3) x1) (fun S_9 => jx_l (x3 + 1) (fun x3_10 => some (.inl (x3_10, S_9))))))
def g_J7_fill_d0a16_6 (x1 : Int64) (x4 : Int32) : (Int32 × St) → Option ((Int32 × St) ⊕ (St)) := fun z => b_J7_fill_d0a16_6 x1 x4 z.1 z.2
def f_J7_fill_d0a16 (x1 : Int64) (S : St) : Option (St) :=
  jx_b (jx_w (g_J7_fill_d0a16_6 x1 (31 : Int32)) FU ((0 : Int32), S)) (fun z => f_J7_fill_d0a16_22 z)
set_option maxHeartbeats 4000000 in
set_option maxRecDepth 100000 in
theorem c_J7_fill_d0a16 (l : Launch) (D : va_G) (q : Nat → Nat) (k : CI) (x1 : Int64) (S : St) (sz : Nat) (Z : St) (hZ : f_J7_fill_d0a16 x1 S = some Z) : MetV W_X SX l yJ7_fill_d0a16 wsJ7_fill_d0a16 { frames := 0, cells := 0, slots := 0, locals := 0 } [.ref (q 13), .long x1] D q k S sz Z := by
  refine enter (cc := cJ7_fill_d0a16) (maxL := 5) (ret := none) (by decide) rfl (Nat.le_of_ble_eq_true rfl) ?_
  intro p e s m below meth c A ls hx hb hr hts hown hlocks hml hP hK hD hA hS hsp hAe hl
  have hown : s.vm.findClass RJ7 = some m.cls := hown
  have hl : lv_has ls 5 [(0, .ref (q 13)), (1, .long x1)] := hl
  have j22 : ∀ (S_4 : St)  (H : Heap) (locs : List Loc) (hZ : f_J7_fill_d0a16_22 S_4 = some Z) (hP : va_P D vwCl (W_X q k S_4) H) (hD : va_D A (W_X q k S_4)) (hS : va_S A s.heap H locs) (ls : Array Slot) (hl : lv_has ls 5 []), W p l e ({ frames := 0, cells := 0, slots := 0, locals := 0 } : Room) s m ([.ref (q 13), .long x1] : List Value).toArray below meth c H locs 0 0 (MQ below (va_Qv (fun u => u = Z) (fun u t => va_P D vwCl (W_X q k u) t.heap) A) ([.ref (q 13), .long x1] : List Value).toArray s 0 0 A) (F0 m 22 ls []) := by
    intro S_4   H locs hZ hP hD hS ls hl
    unfold f_J7_fill_d0a16_22 at hZ
    exact leave_v hx hb hr hlocks hP hS hZ dJ7_fill_d0a16_22
  unfold f_J7_fill_d0a16 at hZ
  refine lv_iconst (v := (0 : Int32)) hx hb dJ7_fill_d0a16_0 (by decide) ?_
  refine lv_istore_n (lv' := [(3, .int (0 : Int32)), (0, .ref (q 13)), (1, .long x1)]) hx hb dJ7_fill_d0a16_1 rfl hl (by decide) rfl (fun ls hl => ?_)
  refine lv_aload_n hx hb dJ7_fill_d0a16_2 rfl (lv_at hl 1 rfl) ?_
  refine X_alen (v := (31 : Int32)) (t0 := 1) hx hb hK hP wX_13 rfl rfl dJ7_fill_d0a16_3 ?_
  refine lv_istore (lv' := [(4, .int (31 : Int32)), (3, .int (0 : Int32)), (0, .ref (q 13)), (1, .long x1)]) hx hb dJ7_fill_d0a16_4 hl (by decide) rfl (fun ls hl => ?_)
  obtain ⟨r_3, hw, hza_3⟩ := jx_b_some hZ
  have l_3 : ∀ (nn : Nat) (x3_1 : Int32) (S_2 : St) (H : Heap) (locs : List Loc) (hw : jx_w (g_J7_fill_d0a16_6 x1 (31 : Int32)) nn (x3_1, S_2) = some r_3) (hP : va_P D vwCl (W_X q k S_2) H) (hD : va_D A (W_X q k S_2)) (hS : va_S A s.heap H locs) (ls : Array Slot) (hl : lv_has ls 5 [(0, .ref (q 13)), (1, .long x1), (3, .int x3_1), (4, .int (31 : Int32))]), W p l e ({ frames := 0, cells := 0, slots := 0, locals := 0 } : Room) s m ([.ref (q 13), .long x1] : List Value).toArray below meth c H locs 0 0 (MQ below (va_Qv (fun u => u = Z) (fun u t => va_P D vwCl (W_X q k u) t.heap) A) ([.ref (q 13), .long x1] : List Value).toArray s 0 0 A) (F0 m 6 ls []) := by
    intro nn
    induction nn with
    | zero =>
      intro x3_1 S_2 H locs hw hP hD hS ls hl
      exact jx_w_zero hw
    | succ n_3 ih_3 =>
      intro x3_1 S_2 H locs hw hP hD hS ls hl
      obtain ⟨o_3, hZ, hk_3⟩ := jx_w_succ hw
      have hZ : b_J7_fill_d0a16_6 x1 (31 : Int32) x3_1 S_2 = some o_3 := hZ
      unfold b_J7_fill_d0a16_6 at hZ
      refine lv_iload_n hx hb dJ7_fill_d0a16_6 rfl (lv_at hl 2 rfl) ?_
      refine lv_iload hx hb dJ7_fill_d0a16_7 (lv_at hl 3 rfl) ?_
      refine lv_icmp_ge (tgt := 22) hx hb dJ7_fill_d0a16_9 (by decide) (fun c_11 => ?_) (fun c_11 => ?_)
      · have hZ := jx_i_pos c_11 hZ
        have ho := Option.some.inj hZ
        subst ho
        have hE := hza_3
        rw [← (show S_2 = r_3 from hk_3)] at hE
        have hZ : f_J7_fill_d0a16_22 S_2 = some Z := hE
        exact j22 S_2 _ _ hZ hP hD hS _ (lv_sub hl [] rfl)
      · have hZ := jx_i_neg c_11 hZ
        refine lv_aload_n hx hb dJ7_fill_d0a16_12 rfl (lv_at hl 0 rfl) ?_
        refine lv_iload_n hx hb dJ7_fill_d0a16_13 rfl (lv_at hl 2 rfl) ?_
        refine lv_lload_n hx hb dJ7_fill_d0a16_14 rfl (lv_at hl 1 rfl) ?_
        obtain ⟨c_13, hZ⟩ := jx_a_some hZ
        obtain ⟨S_14, e_S_14, hZ⟩ := jx_l_some hZ
        refine X_last hx hb hK hP hD hS wX_13 (fun _ => wXs_13) c_13 e_S_14 dJ7_fill_d0a16_15 (fun H locs hP hD hS => ?_)
        obtain ⟨x3_15, e_x3_15, hZ⟩ := jx_l_some hZ
        refine lv_iinc (v := x3_15) (lv' := [(3, .int x3_15), (0, .ref (q 13)), (1, .long x1), (4, .int (31 : Int32))]) hx hb dJ7_fill_d0a16_16 hl (k := 2) rfl (by rw [e_x3_15]; rfl) (by decide) rfl (fun ls hl => ?_)
        refine lv_goto (tgt := 6) hx hb dJ7_fill_d0a16_19 (by decide) ?_
        have ho := Option.some.inj hZ
        subst ho
        exact ih_3 x3_15 S_14 _ _ hk_3 hP hD hS _ (lv_sub hl [1, 2, 0, 3] rfl)
  exact l_3 FU (0 : Int32) S _ _ hw hP hD hS _ (lv_sub hl [2, 3, 1, 0] rfl)
-- J7_fill_d0a16s
def f_J7_fill_d0a16s_22 (t : Nat) (S_4 : St) : Option (St) :=
  some S_4
def b_J7_fill_d0a16s_6 (t : Nat) (x1 : Int64) (x4 : Int32) (x3 : Int32) (S : St) : Option ((Int32 × St) ⊕ (St)) :=
  (if x4 ≤ x3 then some (.inr S) else jx_a x3 60 (jx_l (u2 S (48 + 2 * t + 1) (Int32.toNatClampNeg x3) x1) (fun S_9 => jx_l (x3 + 1) (fun x3_10 => some (.inl (x3_10, S_9))))))
def g_J7_fill_d0a16s_6 (t : Nat) (x1 : Int64) (x4 : Int32) : (Int32 × St) → Option ((Int32 × St) ⊕ (St)) := fun z => b_J7_fill_d0a16s_6 t x1 x4 z.1 z.2
def f_J7_fill_d0a16s (t : Nat) (x1 : Int64) (S : St) : Option (St) :=
  jx_b (jx_w (g_J7_fill_d0a16s_6 t x1 (60 : Int32)) FU ((0 : Int32), S)) (fun z => f_J7_fill_d0a16s_22 t z)
set_option maxHeartbeats 4000000 in
set_option maxRecDepth 100000 in
theorem c_J7_fill_d0a16s (l : Launch) (D : va_G) (q : Nat → Nat) (k : CI) (t : Nat) (x1 : Int64) (S : St) (sz : Nat) (Z : St) (ht : t < 6) (hZ : f_J7_fill_d0a16s t x1 S = some Z) : MetV W_X SX l yJ7_fill_d0a16 wsJ7_fill_d0a16 { frames := 0, cells := 0, slots := 0, locals := 0 } [.ref (q (48 + 2 * t + 1)), .long x1] D q k S sz Z := by
  refine enter (cc := cJ7_fill_d0a16) (maxL := 5) (ret := none) (by decide) rfl (Nat.le_of_ble_eq_true rfl) ?_
  intro p e s m below meth c A ls hx hb hr hts hown hlocks hml hP hK hD hA hS hsp hAe hl
  have hown : s.vm.findClass RJ7 = some m.cls := hown
  have hl : lv_has ls 5 [(0, .ref (q (48 + 2 * t + 1))), (1, .long x1)] := hl
  have j22 : ∀ (S_4 : St)  (H : Heap) (locs : List Loc) (hZ : f_J7_fill_d0a16s_22 t S_4 = some Z) (hP : va_P D vwCl (W_X q k S_4) H) (hD : va_D A (W_X q k S_4)) (hS : va_S A s.heap H locs) (ls : Array Slot) (hl : lv_has ls 5 []), W p l e ({ frames := 0, cells := 0, slots := 0, locals := 0 } : Room) s m ([.ref (q (48 + 2 * t + 1)), .long x1] : List Value).toArray below meth c H locs 0 0 (MQ below (va_Qv (fun u => u = Z) (fun u t => va_P D vwCl (W_X q k u) t.heap) A) ([.ref (q (48 + 2 * t + 1)), .long x1] : List Value).toArray s 0 0 A) (F0 m 22 ls []) := by
    intro S_4   H locs hZ hP hD hS ls hl
    unfold f_J7_fill_d0a16s_22 at hZ
    exact leave_v hx hb hr hlocks hP hS hZ dJ7_fill_d0a16_22
  unfold f_J7_fill_d0a16s at hZ
  refine lv_iconst (v := (0 : Int32)) hx hb dJ7_fill_d0a16_0 (by decide) ?_
  refine lv_istore_n (lv' := [(3, .int (0 : Int32)), (0, .ref (q (48 + 2 * t + 1))), (1, .long x1)]) hx hb dJ7_fill_d0a16_1 rfl hl (by decide) rfl (fun ls hl => ?_)
  refine lv_aload_n hx hb dJ7_fill_d0a16_2 rfl (lv_at hl 1 rfl) ?_
  refine X_alen (v := (60 : Int32)) (t0 := 1) hx hb hK hP (wX_a7_cells ht) rfl rfl dJ7_fill_d0a16_3 ?_
  refine lv_istore (lv' := [(4, .int (60 : Int32)), (3, .int (0 : Int32)), (0, .ref (q (48 + 2 * t + 1))), (1, .long x1)]) hx hb dJ7_fill_d0a16_4 hl (by decide) rfl (fun ls hl => ?_)
  obtain ⟨r_3, hw, hza_3⟩ := jx_b_some hZ
  have l_3 : ∀ (nn : Nat) (x3_1 : Int32) (S_2 : St) (H : Heap) (locs : List Loc) (hw : jx_w (g_J7_fill_d0a16s_6 t x1 (60 : Int32)) nn (x3_1, S_2) = some r_3) (hP : va_P D vwCl (W_X q k S_2) H) (hD : va_D A (W_X q k S_2)) (hS : va_S A s.heap H locs) (ls : Array Slot) (hl : lv_has ls 5 [(0, .ref (q (48 + 2 * t + 1))), (1, .long x1), (3, .int x3_1), (4, .int (60 : Int32))]), W p l e ({ frames := 0, cells := 0, slots := 0, locals := 0 } : Room) s m ([.ref (q (48 + 2 * t + 1)), .long x1] : List Value).toArray below meth c H locs 0 0 (MQ below (va_Qv (fun u => u = Z) (fun u t => va_P D vwCl (W_X q k u) t.heap) A) ([.ref (q (48 + 2 * t + 1)), .long x1] : List Value).toArray s 0 0 A) (F0 m 6 ls []) := by
    intro nn
    induction nn with
    | zero =>
      intro x3_1 S_2 H locs hw hP hD hS ls hl
      exact jx_w_zero hw
    | succ n_3 ih_3 =>
      intro x3_1 S_2 H locs hw hP hD hS ls hl
      obtain ⟨o_3, hZ, hk_3⟩ := jx_w_succ hw
      have hZ : b_J7_fill_d0a16s_6 t x1 (60 : Int32) x3_1 S_2 = some o_3 := hZ
      unfold b_J7_fill_d0a16s_6 at hZ
      refine lv_iload_n hx hb dJ7_fill_d0a16_6 rfl (lv_at hl 2 rfl) ?_
      refine lv_iload hx hb dJ7_fill_d0a16_7 (lv_at hl 3 rfl) ?_
      refine lv_icmp_ge (tgt := 22) hx hb dJ7_fill_d0a16_9 (by decide) (fun c_11 => ?_) (fun c_11 => ?_)
      · have hZ := jx_i_pos c_11 hZ
        have ho := Option.some.inj hZ
        subst ho
        have hE := hza_3
        rw [← (show S_2 = r_3 from hk_3)] at hE
        have hZ : f_J7_fill_d0a16s_22 t S_2 = some Z := hE
        exact j22 S_2 _ _ hZ hP hD hS _ (lv_sub hl [] rfl)
      · have hZ := jx_i_neg c_11 hZ
        refine lv_aload_n hx hb dJ7_fill_d0a16_12 rfl (lv_at hl 0 rfl) ?_
        refine lv_iload_n hx hb dJ7_fill_d0a16_13 rfl (lv_at hl 2 rfl) ?_
        refine lv_lload_n hx hb dJ7_fill_d0a16_14 rfl (lv_at hl 1 rfl) ?_
        obtain ⟨c_13, hZ⟩ := jx_a_some hZ
        obtain ⟨S_14, e_S_14, hZ⟩ := jx_l_some hZ
        refine X_last hx hb hK hP hD hS (wX_a7_cells ht) (fun _ => wXs_a7_cells ht) c_13 e_S_14 dJ7_fill_d0a16_15 (fun H locs hP hD hS => ?_)
        obtain ⟨x3_15, e_x3_15, hZ⟩ := jx_l_some hZ
        refine lv_iinc (v := x3_15) (lv' := [(3, .int x3_15), (0, .ref (q (48 + 2 * t + 1))), (1, .long x1), (4, .int (60 : Int32))]) hx hb dJ7_fill_d0a16_16 hl (k := 2) rfl (by rw [e_x3_15]; rfl) (by decide) rfl (fun ls hl => ?_)
        refine lv_goto (tgt := 6) hx hb dJ7_fill_d0a16_19 (by decide) ?_
        have ho := Option.some.inj hZ
        subst ho
        exact ih_3 x3_15 S_14 _ _ hk_3 hP hD hS _ (lv_sub hl [1, 2, 0, 3] rfl)
  exact l_3 FU (0 : Int32) S _ _ hw hP hD hS _ (lv_sub hl [2, 3, 1, 0] rfl)
-- X5_addCoin
def f_X5_addCoin_44 (x1_4 : Int32) (S_4 : St) : Option (St) :=
  jx_a (0 : Int32) 31 (jx_a (0 : Int32) 31 (jx_a (0 : Int32) 31 (jx_l (u2 S_4 13 (Int32.toNatClampNeg (0 : Int32)) ((S_4.2 13 (Int32.toNatClampNeg (0 : Int32))) ||| ((S_4.2 13 (Int32.toNatClampNeg (0 : Int32))) <<< (Int32.toInt64 x1_4 &&& 63)))) (fun S_8 => some S_8))))
def b_X5_addCoin_3 (x1 : Int32) (x2 : Int32) (S : St) : Option ((Int32 × St) ⊕ (St)) :=
  (if x2 ≤ 0 then some (.inr S) else jx_a x2 31 (jx_a x2 31 (jx_a (x2 - (1 : Int32)) 31 (jx_a x2 31 (jx_l (u2 S 13 (Int32.toNatClampNeg x2) ((S.2 13 (Int32.toNatClampNeg x2)) ||| (((S.2 13 (Int32.toNatClampNeg x2)) <<< (Int32.toInt64 x1 &&& 63)) ||| ((Int64.toUInt64 (S.2 13 (Int32.toNatClampNeg (x2 - (1 : Int32)))) >>> ((Int32.toInt64 ((64 : Int32) - x1)).toUInt64 &&& Int64.toUInt64 63)).toInt64)))) (fun S_16 => jx_l (x2 + (-1)) (fun x2_17 => some (.inl (x2_17, S_16)))))))))
def g_X5_addCoin_3 (x1 : Int32) : (Int32 × St) → Option ((Int32 × St) ⊕ (St)) := fun z => b_X5_addCoin_3 x1 z.1 z.2
def f_X5_addCoin (x1 : Int32) (S : St) : Option (St) :=
  jx_b (jx_w (g_X5_addCoin_3 x1) FU ((30 : Int32), S)) (fun z => f_X5_addCoin_44 x1 z)
set_option maxHeartbeats 4000000 in
set_option maxRecDepth 100000 in
theorem c_X5_addCoin (l : Launch) (D : va_G) (q : Nat → Nat) (k : CI) (x1 : Int32) (S : St) (sz : Nat) (Z : St) (hZ : f_X5_addCoin x1 S = some Z) : MetV W_X SX l yX5_addCoin wsX5_addCoin { frames := 0, cells := 0, slots := 0, locals := 0 } [.ref (q 12), .int x1] D q k S sz Z := by
  refine enter (cc := cX5_addCoin) (maxL := 3) (ret := none) (by decide) rfl (Nat.le_of_ble_eq_true rfl) ?_
  intro p e s m below meth c A ls hx hb hr hts hown hlocks hml hP hK hD hA hS hsp hAe hl
  have hown : s.vm.findClass RX5 = some m.cls := hown
  have hl : lv_has ls 3 [(0, .ref (q 12)), (1, .int x1)] := hl
  have in5 : ∀ w ∈ wsX50, w ∈ wsX5_addCoin := fun _ h => (List.mem_cons_of_mem _ (List.mem_append_right _ h))
  have j44 : ∀ (x1_4 : Int32) (S_4 : St)  (H : Heap) (locs : List Loc) (hZ : f_X5_addCoin_44 x1_4 S_4 = some Z) (hP : va_P D vwCl (W_X q k S_4) H) (hD : va_D A (W_X q k S_4)) (hS : va_S A s.heap H locs) (ls : Array Slot) (hl : lv_has ls 3 [(0, .ref (q 12)), (1, .int x1_4)]), W p l e ({ frames := 0, cells := 0, slots := 0, locals := 0 } : Room) s m ([.ref (q 12), .int x1] : List Value).toArray below meth c H locs 0 0 (MQ below (va_Qv (fun u => u = Z) (fun u t => va_P D vwCl (W_X q k u) t.heap) A) ([.ref (q 12), .int x1] : List Value).toArray s 0 0 A) (F0 m 44 ls []) := by
    intro x1_4 S_4   H locs hZ hP hD hS ls hl
    unfold f_X5_addCoin_44 at hZ
    refine lv_aload_n hx hb dX5_addCoin_44 rfl (lv_at hl 0 rfl) ?_
    refine gf_5_sums hx hb hts in5 hown hK hP (hts (.fieldLink RX5 11 "CoinsOfLast$Payer" "sums" "[J") (List.mem_of_getElem? (i := 1) rfl)) dX5_addCoin_45 ?_
    refine lv_iconst (v := (0 : Int32)) hx hb dX5_addCoin_48 (by decide) ?_
    refine lv_dup2_11 hx hb dX5_addCoin_49 rfl rfl ?_
    obtain ⟨c_5, hZ⟩ := jx_a_some hZ
    refine X_lald hx hb hK hP wX_13 c_5 dX5_addCoin_50 ?_
    refine lv_aload_n hx hb dX5_addCoin_51 rfl (lv_at hl 0 rfl) ?_
    refine gf_5_sums hx hb hts in5 hown hK hP (hts (.fieldLink RX5 11 "CoinsOfLast$Payer" "sums" "[J") (List.mem_of_getElem? (i := 1) rfl)) dX5_addCoin_52 ?_
    refine lv_iconst (v := (0 : Int32)) hx hb dX5_addCoin_55 (by decide) ?_
    obtain ⟨c_6, hZ⟩ := jx_a_some hZ
    refine X_lald hx hb hK hP wX_13 c_6 dX5_addCoin_56 ?_
    refine lv_iload_n hx hb dX5_addCoin_57 rfl (lv_at hl 1 rfl) ?_
    refine lv_lshl (v := ((S_4.2 13 (Int32.toNatClampNeg (0 : Int32))) <<< (Int32.toInt64 x1_4 &&& 63))) hx hb dX5_addCoin_58 rfl ?_
    refine lv_lor hx hb dX5_addCoin_59 ?_
    obtain ⟨c_7, hZ⟩ := jx_a_some hZ
    obtain ⟨S_8, e_S_8, hZ⟩ := jx_l_some hZ
    refine X_last hx hb hK hP hD hS wX_13 (fun _ => wXs_13) c_7 e_S_8 dX5_addCoin_60 (fun H locs hP hD hS => ?_)
    exact leave_v hx hb hr hlocks hP hS hZ dX5_addCoin_61
  unfold f_X5_addCoin at hZ
  refine lv_bipush (v := (30 : Int32)) hx hb dX5_addCoin_0 (by decide) ?_
  refine lv_istore_n (lv' := [(2, .int (30 : Int32)), (0, .ref (q 12)), (1, .int x1)]) hx hb dX5_addCoin_2 rfl hl (by decide) rfl (fun ls hl => ?_)
  obtain ⟨r_3, hw, hza_3⟩ := jx_b_some hZ
  have l_3 : ∀ (nn : Nat) (x2_1 : Int32) (S_2 : St) (H : Heap) (locs : List Loc) (hw : jx_w (g_X5_addCoin_3 x1) nn (x2_1, S_2) = some r_3) (hP : va_P D vwCl (W_X q k S_2) H) (hD : va_D A (W_X q k S_2)) (hS : va_S A s.heap H locs) (ls : Array Slot) (hl : lv_has ls 3 [(0, .ref (q 12)), (1, .int x1), (2, .int x2_1)]), W p l e ({ frames := 0, cells := 0, slots := 0, locals := 0 } : Room) s m ([.ref (q 12), .int x1] : List Value).toArray below meth c H locs 0 0 (MQ below (va_Qv (fun u => u = Z) (fun u t => va_P D vwCl (W_X q k u) t.heap) A) ([.ref (q 12), .int x1] : List Value).toArray s 0 0 A) (F0 m 3 ls []) := by
    intro nn
    induction nn with
    | zero =>
      intro x2_1 S_2 H locs hw hP hD hS ls hl
      exact jx_w_zero hw
    | succ n_3 ih_3 =>
      intro x2_1 S_2 H locs hw hP hD hS ls hl
      obtain ⟨o_3, hZ, hk_3⟩ := jx_w_succ hw
      have hZ : b_X5_addCoin_3 x1 x2_1 S_2 = some o_3 := hZ
      unfold b_X5_addCoin_3 at hZ
      refine lv_iload_n hx hb dX5_addCoin_3 rfl (lv_at hl 2 rfl) ?_
      refine lv_if_le (tgt := 44) hx hb dX5_addCoin_4 (by decide) (fun c_18 => ?_) (fun c_18 => ?_)
      · have hZ := jx_i_pos c_18 hZ
        have ho := Option.some.inj hZ
        subst ho
        have hE := hza_3
        rw [← (show S_2 = r_3 from hk_3)] at hE
        have hZ : f_X5_addCoin_44 x1 S_2 = some Z := hE
        exact j44 x1 S_2 _ _ hZ hP hD hS _ (lv_sub hl [0, 1] rfl)
      · have hZ := jx_i_neg c_18 hZ
        refine lv_aload_n hx hb dX5_addCoin_7 rfl (lv_at hl 0 rfl) ?_
        refine gf_5_sums hx hb hts in5 hown hK hP (hts (.fieldLink RX5 11 "CoinsOfLast$Payer" "sums" "[J") (List.mem_of_getElem? (i := 1) rfl)) dX5_addCoin_8 ?_
        refine lv_iload_n hx hb dX5_addCoin_11 rfl (lv_at hl 2 rfl) ?_
        refine lv_dup2_11 hx hb dX5_addCoin_12 rfl rfl ?_
        obtain ⟨c_20, hZ⟩ := jx_a_some hZ
        refine X_lald hx hb hK hP wX_13 c_20 dX5_addCoin_13 ?_
        refine lv_aload_n hx hb dX5_addCoin_14 rfl (lv_at hl 0 rfl) ?_
        refine gf_5_sums hx hb hts in5 hown hK hP (hts (.fieldLink RX5 11 "CoinsOfLast$Payer" "sums" "[J") (List.mem_of_getElem? (i := 1) rfl)) dX5_addCoin_15 ?_
        refine lv_iload_n hx hb dX5_addCoin_18 rfl (lv_at hl 2 rfl) ?_
        obtain ⟨c_21, hZ⟩ := jx_a_some hZ
        refine X_lald hx hb hK hP wX_13 c_21 dX5_addCoin_19 ?_
        refine lv_iload_n hx hb dX5_addCoin_20 rfl (lv_at hl 1 rfl) ?_
        refine lv_lshl (v := ((S_2.2 13 (Int32.toNatClampNeg x2_1)) <<< (Int32.toInt64 x1 &&& 63))) hx hb dX5_addCoin_21 rfl ?_
        refine lv_aload_n hx hb dX5_addCoin_22 rfl (lv_at hl 0 rfl) ?_
        refine gf_5_sums hx hb hts in5 hown hK hP (hts (.fieldLink RX5 11 "CoinsOfLast$Payer" "sums" "[J") (List.mem_of_getElem? (i := 1) rfl)) dX5_addCoin_23 ?_
        refine lv_iload_n hx hb dX5_addCoin_26 rfl (lv_at hl 2 rfl) ?_
        refine lv_iconst (v := (1 : Int32)) hx hb dX5_addCoin_27 (by decide) ?_
        refine lv_isub hx hb dX5_addCoin_28 ?_
        obtain ⟨c_22, hZ⟩ := jx_a_some hZ
        refine X_lald hx hb hK hP wX_13 c_22 dX5_addCoin_29 ?_
        refine lv_bipush (v := (64 : Int32)) hx hb dX5_addCoin_30 (by decide) ?_
        refine lv_iload_n hx hb dX5_addCoin_32 rfl (lv_at hl 1 rfl) ?_
        refine lv_isub hx hb dX5_addCoin_33 ?_
        refine lv_lushr (v := (Int64.toUInt64 (S_2.2 13 (Int32.toNatClampNeg (x2_1 - (1 : Int32)))) >>> ((Int32.toInt64 ((64 : Int32) - x1)).toUInt64 &&& Int64.toUInt64 63)).toInt64) hx hb dX5_addCoin_34 rfl ?_
        refine lv_lor hx hb dX5_addCoin_35 ?_
        refine lv_lor hx hb dX5_addCoin_36 ?_
        obtain ⟨c_23, hZ⟩ := jx_a_some hZ
        obtain ⟨S_24, e_S_24, hZ⟩ := jx_l_some hZ
        refine X_last hx hb hK hP hD hS wX_13 (fun _ => wXs_13) c_23 e_S_24 dX5_addCoin_37 (fun H locs hP hD hS => ?_)
        obtain ⟨x2_25, e_x2_25, hZ⟩ := jx_l_some hZ
        refine lv_iinc (v := x2_25) (lv' := [(2, .int x2_25), (0, .ref (q 12)), (1, .int x1)]) hx hb dX5_addCoin_38 hl (k := 2) rfl (by rw [e_x2_25]; rfl) (by decide) rfl (fun ls hl => ?_)
        refine lv_goto (tgt := 3) hx hb dX5_addCoin_41 (by decide) ?_
        have ho := Option.some.inj hZ
        subst ho
        exact ih_3 x2_25 S_24 _ _ hk_3 hP hD hS _ (lv_sub hl [1, 2, 0] rfl)
  exact l_3 FU (30 : Int32) S _ _ hw hP hD hS _ (lv_sub hl [1, 2, 0] rfl)
theorem hd_J7_fill_d0a16 : yJ7_fill_d0a16.cls ≠ "java/lang/invoke/MethodHandle" ∧ yJ7_fill_d0a16.cls ≠ "java/lang/invoke/VarHandle" ∧ (parseMethodDescriptor yJ7_fill_d0a16.desc).map (fun d => d.parameters.length) = some 2 := by decide +kernel
theorem hd_X5_addCoin : yX5_addCoin.cls = RX5 ∧ yX5_addCoin.cls ≠ "java/lang/invoke/MethodHandle" ∧ yX5_addCoin.cls ≠ "java/lang/invoke/VarHandle" ∧ (parseMethodDescriptor yX5_addCoin.desc).map (fun d => d.parameters.length) = some 1 := by decide +kernel
-- X5_spread
def f_X5_spread_88 (S_8 : St) : Option (St) :=
  some S_8
def f_X5_spread_82i18 (x3 : Int32) (x4_20 : Int32) (S_20 : St) : Option ((Int32 × St) ⊕ (St)) :=
  jx_l (x4_20 + 1) (fun x4_21 => some (.inl (x4_21, S_20)))
def b_X5_spread_58 (x3 : Int32) (x4 : Int32) (x5 : Int32) (x6 : Int32) (S : St) : Option ((Int32 × St) ⊕ (St)) :=
  (if x5 ≤ x6 then some (.inr S) else jx_a x4 8 (jx_b (f_X5_addCoin (S.1 3 (Int32.toNatClampNeg x4)) S) (fun S_26 => jx_l (x6 + 1) (fun x6_28 => some (.inl (x6_28, S_26))))))
def g_X5_spread_58 (x3 : Int32) (x4 : Int32) (x5 : Int32) : (Int32 × St) → Option ((Int32 × St) ⊕ (St)) := fun z => b_X5_spread_58 x3 x4 x5 z.1 z.2
def f_X5_spread_53i18 (x3 : Int32) (x4_16 : Int32) (s0_16 : Int32) (S_16 : St) : Option ((Int32 × St) ⊕ (St)) :=
  jx_b (jx_w (g_X5_spread_58 x3 x4_16 s0_16) FU ((0 : Int32), S_16)) (fun z => f_X5_spread_82i18 x3 x4_16 z)
def b_X5_spread_18 (x3 : Int32) (x4 : Int32) (S : St) : Option ((Int32 × St) ⊕ (St)) :=
  (if (S.1 1 5) ≤ x4 then some (.inr S) else (if (8 : Int32) ≤ x4 then some (.inr S) else jx_a x4 8 ((if (S.1 2 (Int32.toNatClampNeg x4)) = x3 then jx_a x4 8 (f_X5_spread_53i18 x3 x4 (S.1 6 (Int32.toNatClampNeg x4)) S) else f_X5_spread_53i18 x3 x4 (0 : Int32) S))))
def g_X5_spread_18 (x3 : Int32) : (Int32 × St) → Option ((Int32 × St) ⊕ (St)) := fun z => b_X5_spread_18 x3 z.1 z.2
def f_X5_spread (x3 : Int32) (S : St) : Option (St) :=
  jx_b (f_J7_fill_d0a16 (0 : Int64) S) (fun S_1 => jx_a (0 : Int32) 31 (jx_l (u2 S_1 13 (Int32.toNatClampNeg (0 : Int32)) (1 : Int64)) (fun S_4 => jx_b (jx_w (g_X5_spread_18 x3) FU ((0 : Int32), S_4)) (fun z => f_X5_spread_88 z))))
set_option maxHeartbeats 4000000 in
set_option maxRecDepth 100000 in
theorem c_X5_spread (l : Launch) (D : va_G) (q : Nat → Nat) (k : CI) (x3 : Int32) (S : St) (sz : Nat) (Z : St) (hZ : f_X5_spread x3 S = some Z) : MetV W_X SX l yX5_spread wsX5_spread { frames := 1, cells := 0, slots := 0, locals := 24 } [.ref (q 12), .ref (q 1), .ref (q 6), .int x3] D q k S sz Z := by
  refine enter (cc := cX5_spread) (maxL := 7) (ret := none) (by decide) rfl (Nat.le_of_ble_eq_true rfl) ?_
  intro p e s m below meth c A ls hx hb hr hts hown hlocks hml hP hK hD hA hS hsp hAe hl
  have hown : s.vm.findClass RX5 = some m.cls := hown
  have hl : lv_has ls 7 [(0, .ref (q 12)), (1, .ref (q 1)), (2, .ref (q 6)), (3, .int x3)] := hl
  have in1 : ∀ w ∈ wsX10, w ∈ wsX5_spread := fun _ h => (List.mem_cons_of_mem _ (List.mem_append_right _ h))
  have in5 : ∀ w ∈ wsX50, w ∈ wsX5_spread := fun _ h => (List.mem_cons_of_mem _ (List.mem_append_left _ (List.mem_append_right _ h)))
  have j88 : ∀ (S_8 : St)  (H : Heap) (locs : List Loc) (hZ : f_X5_spread_88 S_8 = some Z) (hP : va_P D vwCl (W_X q k S_8) H) (hD : va_D A (W_X q k S_8)) (hS : va_S A s.heap H locs) (ls : Array Slot) (hl : lv_has ls 7 []), W p l e ({ frames := 1, cells := 0, slots := 0, locals := 24 } : Room) s m ([.ref (q 12), .ref (q 1), .ref (q 6), .int x3] : List Value).toArray below meth c H locs 0 0 (MQ below (va_Qv (fun u => u = Z) (fun u t => va_P D vwCl (W_X q k u) t.heap) A) ([.ref (q 12), .ref (q 1), .ref (q 6), .int x3] : List Value).toArray s 0 0 A) (F0 m 88 ls []) := by
    intro S_8   H locs hZ hP hD hS ls hl
    unfold f_X5_spread_88 at hZ
    exact leave_v hx hb hr hlocks hP hS hZ dX5_spread_88
  unfold f_X5_spread at hZ
  refine lv_aload_n hx hb dX5_spread_0 rfl (lv_at hl 0 rfl) ?_
  refine gf_5_sums hx hb hts in5 hown hK hP (hts (.fieldLink RX5 11 "CoinsOfLast$Payer" "sums" "[J") (List.mem_of_getElem? (i := 1) rfl)) dX5_spread_1 ?_
  refine lv_lconst (v := (0 : Int64)) hx hb dX5_spread_4 (by decide) ?_
  obtain ⟨S_1, hc_2, hZ⟩ := jx_b_some hZ
  refine call_Sv SX_ok sameX ⟨hx, hb, hml, hown, hts⟩ (c_J7_fill_d0a16 l D q k (0 : Int64) S _ S_1  hc_2) (va_cwS 2 hts gX5_spread_J7_fill_d0a16 rfl rfl rfl hd_J7_fill_d0a16 ⟨Nat.le_of_ble_eq_true rfl, Nat.le_of_ble_eq_true rfl⟩) hK hP hD hS hA hsp (As := [.ref (q 13), .long (0 : Int64)]) rfl hl.1 rfl (Nat.le_of_ble_eq_true rfl) dX5_spread_5 ⟨Nat.zero_le _, Nat.zero_le _⟩ (fun H locs hP hD hS => ?_)
  refine lv_aload_n hx hb dX5_spread_8 rfl (lv_at hl 0 rfl) ?_
  refine gf_5_sums hx hb hts in5 hown hK hP (hts (.fieldLink RX5 11 "CoinsOfLast$Payer" "sums" "[J") (List.mem_of_getElem? (i := 1) rfl)) dX5_spread_9 ?_
  refine lv_iconst (v := (0 : Int32)) hx hb dX5_spread_12 (by decide) ?_
  refine lv_lconst (v := (1 : Int64)) hx hb dX5_spread_13 (by decide) ?_
  obtain ⟨c_3, hZ⟩ := jx_a_some hZ
  obtain ⟨S_4, e_S_4, hZ⟩ := jx_l_some hZ
  refine X_last hx hb hK hP hD hS wX_13 (fun _ => wXs_13) c_3 e_S_4 dX5_spread_14 (fun H locs hP hD hS => ?_)
  refine lv_iconst (v := (0 : Int32)) hx hb dX5_spread_15 (by decide) ?_
  refine lv_istore (lv' := [(4, .int (0 : Int32)), (0, .ref (q 12)), (1, .ref (q 1)), (2, .ref (q 6)), (3, .int x3)]) hx hb dX5_spread_16 hl (by decide) rfl (fun ls hl => ?_)
  obtain ⟨r_7, hw, hza_7⟩ := jx_b_some hZ
  have l_7 : ∀ (nn : Nat) (x4_5 : Int32) (S_6 : St) (H : Heap) (locs : List Loc) (hw : jx_w (g_X5_spread_18 x3) nn (x4_5, S_6) = some r_7) (hP : va_P D vwCl (W_X q k S_6) H) (hD : va_D A (W_X q k S_6)) (hS : va_S A s.heap H locs) (ls : Array Slot) (hl : lv_has ls 7 [(0, .ref (q 12)), (1, .ref (q 1)), (2, .ref (q 6)), (3, .int x3), (4, .int x4_5)]), W p l e ({ frames := 1, cells := 0, slots := 0, locals := 24 } : Room) s m ([.ref (q 12), .ref (q 1), .ref (q 6), .int x3] : List Value).toArray below meth c H locs 0 0 (MQ below (va_Qv (fun u => u = Z) (fun u t => va_P D vwCl (W_X q k u) t.heap) A) ([.ref (q 12), .ref (q 1), .ref (q 6), .int x3] : List Value).toArray s 0 0 A) (F0 m 18 ls []) := by
    intro nn
    induction nn with
    | zero =>
      intro x4_5 S_6 H locs hw hP hD hS ls hl
      exact jx_w_zero hw
    | succ n_7 ih_7 =>
      intro x4_5 S_6 H locs hw hP hD hS ls hl
      obtain ⟨o_7, hZ, hk_7⟩ := jx_w_succ hw
      have hZ : b_X5_spread_18 x3 x4_5 S_6 = some o_7 := hZ
      have j82i18 : ∀ (x4_48 : Int32) (S_48 : St)  (o_7 : (Int32 × St) ⊕ (St)) (hk_7 : jx_k (g_X5_spread_18 x3) n_7 r_7 o_7) (H : Heap) (locs : List Loc) (hZ : f_X5_spread_82i18 x3 x4_48 S_48 = some o_7) (hP : va_P D vwCl (W_X q k S_48) H) (hD : va_D A (W_X q k S_48)) (hS : va_S A s.heap H locs) (ls : Array Slot) (hl : lv_has ls 7 [(0, .ref (q 12)), (1, .ref (q 1)), (2, .ref (q 6)), (3, .int x3), (4, .int x4_48)]), W p l e ({ frames := 1, cells := 0, slots := 0, locals := 24 } : Room) s m ([.ref (q 12), .ref (q 1), .ref (q 6), .int x3] : List Value).toArray below meth c H locs 0 0 (MQ below (va_Qv (fun u => u = Z) (fun u t => va_P D vwCl (W_X q k u) t.heap) A) ([.ref (q 12), .ref (q 1), .ref (q 6), .int x3] : List Value).toArray s 0 0 A) (F0 m 82 ls []) := by
        intro x4_48 S_48  o_7 hk_7 H locs hZ hP hD hS ls hl
        unfold f_X5_spread_82i18 at hZ
        obtain ⟨x4_49, e_x4_49, hZ⟩ := jx_l_some hZ
        refine lv_iinc (v := x4_49) (lv' := [(4, .int x4_49), (0, .ref (q 12)), (1, .ref (q 1)), (2, .ref (q 6)), (3, .int x3)]) hx hb dX5_spread_82 hl (k := 4) rfl (by rw [e_x4_49]; rfl) (by decide) rfl (fun ls hl => ?_)
        refine lv_goto (tgt := 18) hx hb dX5_spread_85 (by decide) ?_
        have ho := Option.some.inj hZ
        subst ho
        exact ih_7 x4_49 S_48 _ _ hk_7 hP hD hS _ (lv_sub hl [1, 2, 3, 4, 0] rfl)
      have j53i18 : ∀ (x4_44 : Int32) (s0_44 : Int32) (S_44 : St)  (o_7 : (Int32 × St) ⊕ (St)) (hk_7 : jx_k (g_X5_spread_18 x3) n_7 r_7 o_7) (H : Heap) (locs : List Loc) (hZ : f_X5_spread_53i18 x3 x4_44 s0_44 S_44 = some o_7) (hP : va_P D vwCl (W_X q k S_44) H) (hD : va_D A (W_X q k S_44)) (hS : va_S A s.heap H locs) (ls : Array Slot) (hl : lv_has ls 7 [(0, .ref (q 12)), (1, .ref (q 1)), (2, .ref (q 6)), (3, .int x3), (4, .int x4_44)]), W p l e ({ frames := 1, cells := 0, slots := 0, locals := 24 } : Room) s m ([.ref (q 12), .ref (q 1), .ref (q 6), .int x3] : List Value).toArray below meth c H locs 0 0 (MQ below (va_Qv (fun u => u = Z) (fun u t => va_P D vwCl (W_X q k u) t.heap) A) ([.ref (q 12), .ref (q 1), .ref (q 6), .int x3] : List Value).toArray s 0 0 A) (F0 m 53 ls [.int s0_44]) := by
        intro x4_44 s0_44 S_44  o_7 hk_7 H locs hZ hP hD hS ls hl
        unfold f_X5_spread_53i18 at hZ
        refine lv_istore (lv' := [(5, .int s0_44), (0, .ref (q 12)), (1, .ref (q 1)), (2, .ref (q 6)), (3, .int x3), (4, .int x4_44)]) hx hb dX5_spread_53 hl (by decide) rfl (fun ls hl => ?_)
        refine lv_iconst (v := (0 : Int32)) hx hb dX5_spread_55 (by decide) ?_
        refine lv_istore (lv' := [(6, .int (0 : Int32)), (5, .int s0_44), (0, .ref (q 12)), (1, .ref (q 1)), (2, .ref (q 6)), (3, .int x3), (4, .int x4_44)]) hx hb dX5_spread_56 hl (by decide) rfl (fun ls hl => ?_)
        obtain ⟨r_47, hw, hza_47⟩ := jx_b_some hZ
        have l_47 : ∀ (nn : Nat) (x6_45 : Int32) (S_46 : St) (H : Heap) (locs : List Loc) (hw : jx_w (g_X5_spread_58 x3 x4_44 s0_44) nn (x6_45, S_46) = some r_47) (hP : va_P D vwCl (W_X q k S_46) H) (hD : va_D A (W_X q k S_46)) (hS : va_S A s.heap H locs) (ls : Array Slot) (hl : lv_has ls 7 [(0, .ref (q 12)), (1, .ref (q 1)), (2, .ref (q 6)), (3, .int x3), (4, .int x4_44), (5, .int s0_44), (6, .int x6_45)]), W p l e ({ frames := 1, cells := 0, slots := 0, locals := 24 } : Room) s m ([.ref (q 12), .ref (q 1), .ref (q 6), .int x3] : List Value).toArray below meth c H locs 0 0 (MQ below (va_Qv (fun u => u = Z) (fun u t => va_P D vwCl (W_X q k u) t.heap) A) ([.ref (q 12), .ref (q 1), .ref (q 6), .int x3] : List Value).toArray s 0 0 A) (F0 m 58 ls []) := by
          intro nn
          induction nn with
          | zero =>
            intro x6_45 S_46 H locs hw hP hD hS ls hl
            exact jx_w_zero hw
          | succ n_47 ih_47 =>
            intro x6_45 S_46 H locs hw hP hD hS ls hl
            obtain ⟨o_47, hZ, hk_47⟩ := jx_w_succ hw
            have hZ : b_X5_spread_58 x3 x4_44 s0_44 x6_45 S_46 = some o_47 := hZ
            unfold b_X5_spread_58 at hZ
            refine lv_iload hx hb dX5_spread_58 (lv_at hl 6 rfl) ?_
            refine lv_iload hx hb dX5_spread_60 (lv_at hl 5 rfl) ?_
            refine lv_icmp_ge (tgt := 82) hx hb dX5_spread_62 (by decide) (fun c_57 => ?_) (fun c_57 => ?_)
            · have hZ := jx_i_pos c_57 hZ
              have ho := Option.some.inj hZ
              subst ho
              have hE := hza_47
              rw [← (show S_46 = r_47 from hk_47)] at hE
              have hZ : f_X5_spread_82i18 x3 x4_44 S_46 = some o_7 := hE
              exact j82i18 x4_44 S_46 _ hk_7 _ _ hZ hP hD hS _ (lv_sub hl [0, 1, 2, 3, 4] rfl)
            · have hZ := jx_i_neg c_57 hZ
              refine lv_aload_n hx hb dX5_spread_65 rfl (lv_at hl 0 rfl) ?_
              refine lv_aload_n hx hb dX5_spread_66 rfl (lv_at hl 1 rfl) ?_
              refine gn_1_worth hx hb hts in1 hown hK hP (hsp.1 _ (List.mem_of_getElem? (i := 4) rfl)) dX5_spread_67 ?_
              refine lv_iload hx hb dX5_spread_70 (lv_at hl 4 rfl) ?_
              obtain ⟨c_59, hZ⟩ := jx_a_some hZ
              refine X_iald hx hb hK hP wX_3 c_59 dX5_spread_72 ?_
              obtain ⟨S_60, hc_61, hZ⟩ := jx_b_some hZ
              refine call_Vv SX_ok sameX ⟨hx, hb, hml, hown, hts⟩ (c_X5_addCoin l D q k (S_46.1 3 (Int32.toNatClampNeg x4_44)) S_46 _ S_60  hc_61) (cwV 1 hts gX5_spread_X5_addCoin rfl rfl rfl hd_X5_addCoin ⟨Nat.le_of_ble_eq_true rfl, Nat.le_of_ble_eq_true rfl⟩) hK hP hD hS hA hsp (va_recv hK hP (ci := 5) (q0 := 12) rfl wX_12) (As := [.int (S_46.1 3 (Int32.toNatClampNeg x4_44))]) rfl hl.1 rfl (Nat.le_of_ble_eq_true rfl) dX5_spread_73 ⟨Nat.zero_le _, Nat.zero_le _⟩ (fun H locs hP hD hS => ?_)
              obtain ⟨x6_62, e_x6_62, hZ⟩ := jx_l_some hZ
              refine lv_iinc (v := x6_62) (lv' := [(6, .int x6_62), (0, .ref (q 12)), (1, .ref (q 1)), (2, .ref (q 6)), (3, .int x3), (4, .int x4_44), (5, .int s0_44)]) hx hb dX5_spread_76 hl (k := 6) rfl (by rw [e_x6_62]; rfl) (by decide) rfl (fun ls hl => ?_)
              refine lv_goto (tgt := 58) hx hb dX5_spread_79 (by decide) ?_
              have ho := Option.some.inj hZ
              subst ho
              exact ih_47 x6_62 S_60 _ _ hk_47 hP hD hS _ (lv_sub hl [1, 2, 3, 4, 5, 6, 0] rfl)
        exact l_47 FU (0 : Int32) S_44 _ _ hw hP hD hS _ (lv_sub hl [2, 3, 4, 5, 6, 1, 0] rfl)
      unfold b_X5_spread_18 at hZ
      refine lv_iload hx hb dX5_spread_18 (lv_at hl 4 rfl) ?_
      refine lv_aload_n hx hb dX5_spread_20 rfl (lv_at hl 1 rfl) ?_
      refine gn_1_known hx hb hts in1 hown hK hP (hsp.1 _ (List.mem_of_getElem? (i := 13) rfl)) dX5_spread_21 ?_
      refine lv_icmp_ge (tgt := 88) hx hb dX5_spread_24 (by decide) (fun c_38 => ?_) (fun c_38 => ?_)
      · have hZ := jx_i_pos c_38 hZ
        have ho := Option.some.inj hZ
        subst ho
        have hE := hza_7
        rw [← (show S_6 = r_7 from hk_7)] at hE
        have hZ : f_X5_spread_88 S_6 = some Z := hE
        exact j88 S_6 _ _ hZ hP hD hS _ (lv_sub hl [] rfl)
      · have hZ := jx_i_neg c_38 hZ
        refine lv_iload hx hb dX5_spread_27 (lv_at hl 4 rfl) ?_
        refine lv_aload_n hx hb dX5_spread_29 rfl (lv_at hl 2 rfl) ?_
        refine X_alen (v := (8 : Int32)) (t0 := 0) hx hb hK hP wX_6 rfl rfl dX5_spread_30 ?_
        refine lv_icmp_ge (tgt := 88) hx hb dX5_spread_31 (by decide) (fun c_40 => ?_) (fun c_40 => ?_)
        · have hZ := jx_i_pos c_40 hZ
          have ho := Option.some.inj hZ
          subst ho
          have hE := hza_7
          rw [← (show S_6 = r_7 from hk_7)] at hE
          have hZ : f_X5_spread_88 S_6 = some Z := hE
          exact j88 S_6 _ _ hZ hP hD hS _ (lv_sub hl [] rfl)
        · have hZ := jx_i_neg c_40 hZ
          refine lv_aload_n hx hb dX5_spread_34 rfl (lv_at hl 1 rfl) ?_
          refine gn_1_land hx hb hts in1 hown hK hP (hsp.1 _ (List.mem_of_getElem? (i := 1) rfl)) dX5_spread_35 ?_
          refine lv_iload hx hb dX5_spread_38 (lv_at hl 4 rfl) ?_
          obtain ⟨c_42, hZ⟩ := jx_a_some hZ
          refine X_iald hx hb hK hP wX_2 c_42 dX5_spread_40 ?_
          refine lv_iload_n hx hb dX5_spread_41 rfl (lv_at hl 3 rfl) ?_
          refine lv_icmp_ne (tgt := 52) hx hb dX5_spread_42 (by decide) (fun c_43 => ?_) (fun c_43 => ?_)
          · have hZ := jx_i_neg c_43 hZ
            refine lv_iconst (v := (0 : Int32)) hx hb dX5_spread_52 (by decide) ?_
            exact j53i18 x4_5 (0 : Int32) S_6 _ hk_7 _ _ hZ hP hD hS _ (lv_sub hl [0, 1, 2, 3, 4] rfl)
          · have hZ := jx_i_pos c_43 hZ
            refine lv_aload_n hx hb dX5_spread_45 rfl (lv_at hl 2 rfl) ?_
            refine lv_iload hx hb dX5_spread_46 (lv_at hl 4 rfl) ?_
            obtain ⟨c_64, hZ⟩ := jx_a_some hZ
            refine X_iald hx hb hK hP wX_6 c_64 dX5_spread_48 ?_
            refine lv_goto (tgt := 53) hx hb dX5_spread_49 (by decide) ?_
            exact j53i18 x4_5 (S_6.1 6 (Int32.toNatClampNeg x4_5)) S_6 _ hk_7 _ _ hZ hP hD hS _ (lv_sub hl [0, 1, 2, 3, 4] rfl)
  exact l_7 FU (0 : Int32) S_4 _ _ hw hP hD hS _ (lv_sub hl [1, 2, 3, 4, 0] rfl)
-- X5_spreadc
def f_X5_spreadc_88 (S_8 : St) : Option (St) :=
  some S_8
def f_X5_spreadc_82i18 (x3 : Int32) (x4_20 : Int32) (S_20 : St) : Option ((Int32 × St) ⊕ (St)) :=
  jx_l (x4_20 + 1) (fun x4_21 => some (.inl (x4_21, S_20)))
def b_X5_spreadc_58 (x3 : Int32) (x4 : Int32) (x5 : Int32) (x6 : Int32) (S : St) : Option ((Int32 × St) ⊕ (St)) :=
  (if x5 ≤ x6 then some (.inr S) else jx_a x4 8 (jx_b (f_X5_addCoin (S.1 3 (Int32.toNatClampNeg x4)) S) (fun S_26 => jx_l (x6 + 1) (fun x6_28 => some (.inl (x6_28, S_26))))))
def g_X5_spreadc_58 (x3 : Int32) (x4 : Int32) (x5 : Int32) : (Int32 × St) → Option ((Int32 × St) ⊕ (St)) := fun z => b_X5_spreadc_58 x3 x4 x5 z.1 z.2
def f_X5_spreadc_53i18 (x3 : Int32) (x4_16 : Int32) (s0_16 : Int32) (S_16 : St) : Option ((Int32 × St) ⊕ (St)) :=
  jx_b (jx_w (g_X5_spreadc_58 x3 x4_16 s0_16) FU ((0 : Int32), S_16)) (fun z => f_X5_spreadc_82i18 x3 x4_16 z)
def b_X5_spreadc_18 (x3 : Int32) (x4 : Int32) (S : St) : Option ((Int32 × St) ⊕ (St)) :=
  (if (S.1 1 5) ≤ x4 then some (.inr S) else (if (8 : Int32) ≤ x4 then some (.inr S) else jx_a x4 8 ((if (S.1 2 (Int32.toNatClampNeg x4)) = x3 then jx_a x4 8 (f_X5_spreadc_53i18 x3 x4 (S.1 17 (Int32.toNatClampNeg x4)) S) else f_X5_spreadc_53i18 x3 x4 (0 : Int32) S))))
def g_X5_spreadc_18 (x3 : Int32) : (Int32 × St) → Option ((Int32 × St) ⊕ (St)) := fun z => b_X5_spreadc_18 x3 z.1 z.2
def f_X5_spreadc (x3 : Int32) (S : St) : Option (St) :=
  jx_b (f_J7_fill_d0a16 (0 : Int64) S) (fun S_1 => jx_a (0 : Int32) 31 (jx_l (u2 S_1 13 (Int32.toNatClampNeg (0 : Int32)) (1 : Int64)) (fun S_4 => jx_b (jx_w (g_X5_spreadc_18 x3) FU ((0 : Int32), S_4)) (fun z => f_X5_spreadc_88 z))))
set_option maxHeartbeats 4000000 in
set_option maxRecDepth 100000 in
theorem c_X5_spreadc (l : Launch) (D : va_G) (q : Nat → Nat) (k : CI) (x3 : Int32) (S : St) (sz : Nat) (Z : St) (hZ : f_X5_spreadc x3 S = some Z) : MetV W_X SX l yX5_spread wsX5_spread { frames := 1, cells := 0, slots := 0, locals := 24 } [.ref (q 12), .ref (q 1), .ref (q 17), .int x3] D q k S sz Z := by
  refine enter (cc := cX5_spread) (maxL := 7) (ret := none) (by decide) rfl (Nat.le_of_ble_eq_true rfl) ?_
  intro p e s m below meth c A ls hx hb hr hts hown hlocks hml hP hK hD hA hS hsp hAe hl
  have hown : s.vm.findClass RX5 = some m.cls := hown
  have hl : lv_has ls 7 [(0, .ref (q 12)), (1, .ref (q 1)), (2, .ref (q 17)), (3, .int x3)] := hl
  have in1 : ∀ w ∈ wsX10, w ∈ wsX5_spread := fun _ h => (List.mem_cons_of_mem _ (List.mem_append_right _ h))
  have in5 : ∀ w ∈ wsX50, w ∈ wsX5_spread := fun _ h => (List.mem_cons_of_mem _ (List.mem_append_left _ (List.mem_append_right _ h)))
  have j88 : ∀ (S_8 : St)  (H : Heap) (locs : List Loc) (hZ : f_X5_spreadc_88 S_8 = some Z) (hP : va_P D vwCl (W_X q k S_8) H) (hD : va_D A (W_X q k S_8)) (hS : va_S A s.heap H locs) (ls : Array Slot) (hl : lv_has ls 7 []), W p l e ({ frames := 1, cells := 0, slots := 0, locals := 24 } : Room) s m ([.ref (q 12), .ref (q 1), .ref (q 17), .int x3] : List Value).toArray below meth c H locs 0 0 (MQ below (va_Qv (fun u => u = Z) (fun u t => va_P D vwCl (W_X q k u) t.heap) A) ([.ref (q 12), .ref (q 1), .ref (q 17), .int x3] : List Value).toArray s 0 0 A) (F0 m 88 ls []) := by
    intro S_8   H locs hZ hP hD hS ls hl
    unfold f_X5_spreadc_88 at hZ
    exact leave_v hx hb hr hlocks hP hS hZ dX5_spread_88
  unfold f_X5_spreadc at hZ
  refine lv_aload_n hx hb dX5_spread_0 rfl (lv_at hl 0 rfl) ?_
  refine gf_5_sums hx hb hts in5 hown hK hP (hts (.fieldLink RX5 11 "CoinsOfLast$Payer" "sums" "[J") (List.mem_of_getElem? (i := 1) rfl)) dX5_spread_1 ?_
  refine lv_lconst (v := (0 : Int64)) hx hb dX5_spread_4 (by decide) ?_
  obtain ⟨S_1, hc_2, hZ⟩ := jx_b_some hZ
  refine call_Sv SX_ok sameX ⟨hx, hb, hml, hown, hts⟩ (c_J7_fill_d0a16 l D q k (0 : Int64) S _ S_1  hc_2) (va_cwS 2 hts gX5_spread_J7_fill_d0a16 rfl rfl rfl hd_J7_fill_d0a16 ⟨Nat.le_of_ble_eq_true rfl, Nat.le_of_ble_eq_true rfl⟩) hK hP hD hS hA hsp (As := [.ref (q 13), .long (0 : Int64)]) rfl hl.1 rfl (Nat.le_of_ble_eq_true rfl) dX5_spread_5 ⟨Nat.zero_le _, Nat.zero_le _⟩ (fun H locs hP hD hS => ?_)
  refine lv_aload_n hx hb dX5_spread_8 rfl (lv_at hl 0 rfl) ?_
  refine gf_5_sums hx hb hts in5 hown hK hP (hts (.fieldLink RX5 11 "CoinsOfLast$Payer" "sums" "[J") (List.mem_of_getElem? (i := 1) rfl)) dX5_spread_9 ?_
  refine lv_iconst (v := (0 : Int32)) hx hb dX5_spread_12 (by decide) ?_
  refine lv_lconst (v := (1 : Int64)) hx hb dX5_spread_13 (by decide) ?_
  obtain ⟨c_3, hZ⟩ := jx_a_some hZ
  obtain ⟨S_4, e_S_4, hZ⟩ := jx_l_some hZ
  refine X_last hx hb hK hP hD hS wX_13 (fun _ => wXs_13) c_3 e_S_4 dX5_spread_14 (fun H locs hP hD hS => ?_)
  refine lv_iconst (v := (0 : Int32)) hx hb dX5_spread_15 (by decide) ?_
  refine lv_istore (lv' := [(4, .int (0 : Int32)), (0, .ref (q 12)), (1, .ref (q 1)), (2, .ref (q 17)), (3, .int x3)]) hx hb dX5_spread_16 hl (by decide) rfl (fun ls hl => ?_)
  obtain ⟨r_7, hw, hza_7⟩ := jx_b_some hZ
  have l_7 : ∀ (nn : Nat) (x4_5 : Int32) (S_6 : St) (H : Heap) (locs : List Loc) (hw : jx_w (g_X5_spreadc_18 x3) nn (x4_5, S_6) = some r_7) (hP : va_P D vwCl (W_X q k S_6) H) (hD : va_D A (W_X q k S_6)) (hS : va_S A s.heap H locs) (ls : Array Slot) (hl : lv_has ls 7 [(0, .ref (q 12)), (1, .ref (q 1)), (2, .ref (q 17)), (3, .int x3), (4, .int x4_5)]), W p l e ({ frames := 1, cells := 0, slots := 0, locals := 24 } : Room) s m ([.ref (q 12), .ref (q 1), .ref (q 17), .int x3] : List Value).toArray below meth c H locs 0 0 (MQ below (va_Qv (fun u => u = Z) (fun u t => va_P D vwCl (W_X q k u) t.heap) A) ([.ref (q 12), .ref (q 1), .ref (q 17), .int x3] : List Value).toArray s 0 0 A) (F0 m 18 ls []) := by
    intro nn
    induction nn with
    | zero =>
      intro x4_5 S_6 H locs hw hP hD hS ls hl
      exact jx_w_zero hw
    | succ n_7 ih_7 =>
      intro x4_5 S_6 H locs hw hP hD hS ls hl
      obtain ⟨o_7, hZ, hk_7⟩ := jx_w_succ hw
      have hZ : b_X5_spreadc_18 x3 x4_5 S_6 = some o_7 := hZ
      have j82i18 : ∀ (x4_48 : Int32) (S_48 : St)  (o_7 : (Int32 × St) ⊕ (St)) (hk_7 : jx_k (g_X5_spreadc_18 x3) n_7 r_7 o_7) (H : Heap) (locs : List Loc) (hZ : f_X5_spreadc_82i18 x3 x4_48 S_48 = some o_7) (hP : va_P D vwCl (W_X q k S_48) H) (hD : va_D A (W_X q k S_48)) (hS : va_S A s.heap H locs) (ls : Array Slot) (hl : lv_has ls 7 [(0, .ref (q 12)), (1, .ref (q 1)), (2, .ref (q 17)), (3, .int x3), (4, .int x4_48)]), W p l e ({ frames := 1, cells := 0, slots := 0, locals := 24 } : Room) s m ([.ref (q 12), .ref (q 1), .ref (q 17), .int x3] : List Value).toArray below meth c H locs 0 0 (MQ below (va_Qv (fun u => u = Z) (fun u t => va_P D vwCl (W_X q k u) t.heap) A) ([.ref (q 12), .ref (q 1), .ref (q 17), .int x3] : List Value).toArray s 0 0 A) (F0 m 82 ls []) := by
        intro x4_48 S_48  o_7 hk_7 H locs hZ hP hD hS ls hl
        unfold f_X5_spreadc_82i18 at hZ
        obtain ⟨x4_49, e_x4_49, hZ⟩ := jx_l_some hZ
        refine lv_iinc (v := x4_49) (lv' := [(4, .int x4_49), (0, .ref (q 12)), (1, .ref (q 1)), (2, .ref (q 17)), (3, .int x3)]) hx hb dX5_spread_82 hl (k := 4) rfl (by rw [e_x4_49]; rfl) (by decide) rfl (fun ls hl => ?_)
        refine lv_goto (tgt := 18) hx hb dX5_spread_85 (by decide) ?_
        have ho := Option.some.inj hZ
        subst ho
        exact ih_7 x4_49 S_48 _ _ hk_7 hP hD hS _ (lv_sub hl [1, 2, 3, 4, 0] rfl)
      have j53i18 : ∀ (x4_44 : Int32) (s0_44 : Int32) (S_44 : St)  (o_7 : (Int32 × St) ⊕ (St)) (hk_7 : jx_k (g_X5_spreadc_18 x3) n_7 r_7 o_7) (H : Heap) (locs : List Loc) (hZ : f_X5_spreadc_53i18 x3 x4_44 s0_44 S_44 = some o_7) (hP : va_P D vwCl (W_X q k S_44) H) (hD : va_D A (W_X q k S_44)) (hS : va_S A s.heap H locs) (ls : Array Slot) (hl : lv_has ls 7 [(0, .ref (q 12)), (1, .ref (q 1)), (2, .ref (q 17)), (3, .int x3), (4, .int x4_44)]), W p l e ({ frames := 1, cells := 0, slots := 0, locals := 24 } : Room) s m ([.ref (q 12), .ref (q 1), .ref (q 17), .int x3] : List Value).toArray below meth c H locs 0 0 (MQ below (va_Qv (fun u => u = Z) (fun u t => va_P D vwCl (W_X q k u) t.heap) A) ([.ref (q 12), .ref (q 1), .ref (q 17), .int x3] : List Value).toArray s 0 0 A) (F0 m 53 ls [.int s0_44]) := by
        intro x4_44 s0_44 S_44  o_7 hk_7 H locs hZ hP hD hS ls hl
        unfold f_X5_spreadc_53i18 at hZ
        refine lv_istore (lv' := [(5, .int s0_44), (0, .ref (q 12)), (1, .ref (q 1)), (2, .ref (q 17)), (3, .int x3), (4, .int x4_44)]) hx hb dX5_spread_53 hl (by decide) rfl (fun ls hl => ?_)
        refine lv_iconst (v := (0 : Int32)) hx hb dX5_spread_55 (by decide) ?_
        refine lv_istore (lv' := [(6, .int (0 : Int32)), (5, .int s0_44), (0, .ref (q 12)), (1, .ref (q 1)), (2, .ref (q 17)), (3, .int x3), (4, .int x4_44)]) hx hb dX5_spread_56 hl (by decide) rfl (fun ls hl => ?_)
        obtain ⟨r_47, hw, hza_47⟩ := jx_b_some hZ
        have l_47 : ∀ (nn : Nat) (x6_45 : Int32) (S_46 : St) (H : Heap) (locs : List Loc) (hw : jx_w (g_X5_spreadc_58 x3 x4_44 s0_44) nn (x6_45, S_46) = some r_47) (hP : va_P D vwCl (W_X q k S_46) H) (hD : va_D A (W_X q k S_46)) (hS : va_S A s.heap H locs) (ls : Array Slot) (hl : lv_has ls 7 [(0, .ref (q 12)), (1, .ref (q 1)), (2, .ref (q 17)), (3, .int x3), (4, .int x4_44), (5, .int s0_44), (6, .int x6_45)]), W p l e ({ frames := 1, cells := 0, slots := 0, locals := 24 } : Room) s m ([.ref (q 12), .ref (q 1), .ref (q 17), .int x3] : List Value).toArray below meth c H locs 0 0 (MQ below (va_Qv (fun u => u = Z) (fun u t => va_P D vwCl (W_X q k u) t.heap) A) ([.ref (q 12), .ref (q 1), .ref (q 17), .int x3] : List Value).toArray s 0 0 A) (F0 m 58 ls []) := by
          intro nn
          induction nn with
          | zero =>
            intro x6_45 S_46 H locs hw hP hD hS ls hl
            exact jx_w_zero hw
          | succ n_47 ih_47 =>
            intro x6_45 S_46 H locs hw hP hD hS ls hl
            obtain ⟨o_47, hZ, hk_47⟩ := jx_w_succ hw
            have hZ : b_X5_spreadc_58 x3 x4_44 s0_44 x6_45 S_46 = some o_47 := hZ
            unfold b_X5_spreadc_58 at hZ
            refine lv_iload hx hb dX5_spread_58 (lv_at hl 6 rfl) ?_
            refine lv_iload hx hb dX5_spread_60 (lv_at hl 5 rfl) ?_
            refine lv_icmp_ge (tgt := 82) hx hb dX5_spread_62 (by decide) (fun c_57 => ?_) (fun c_57 => ?_)
            · have hZ := jx_i_pos c_57 hZ
              have ho := Option.some.inj hZ
              subst ho
              have hE := hza_47
              rw [← (show S_46 = r_47 from hk_47)] at hE
              have hZ : f_X5_spreadc_82i18 x3 x4_44 S_46 = some o_7 := hE
              exact j82i18 x4_44 S_46 _ hk_7 _ _ hZ hP hD hS _ (lv_sub hl [0, 1, 2, 3, 4] rfl)
            · have hZ := jx_i_neg c_57 hZ
              refine lv_aload_n hx hb dX5_spread_65 rfl (lv_at hl 0 rfl) ?_
              refine lv_aload_n hx hb dX5_spread_66 rfl (lv_at hl 1 rfl) ?_
              refine gn_1_worth hx hb hts in1 hown hK hP (hsp.1 _ (List.mem_of_getElem? (i := 4) rfl)) dX5_spread_67 ?_
              refine lv_iload hx hb dX5_spread_70 (lv_at hl 4 rfl) ?_
              obtain ⟨c_59, hZ⟩ := jx_a_some hZ
              refine X_iald hx hb hK hP wX_3 c_59 dX5_spread_72 ?_
              obtain ⟨S_60, hc_61, hZ⟩ := jx_b_some hZ
              refine call_Vv SX_ok sameX ⟨hx, hb, hml, hown, hts⟩ (c_X5_addCoin l D q k (S_46.1 3 (Int32.toNatClampNeg x4_44)) S_46 _ S_60  hc_61) (cwV 1 hts gX5_spread_X5_addCoin rfl rfl rfl hd_X5_addCoin ⟨Nat.le_of_ble_eq_true rfl, Nat.le_of_ble_eq_true rfl⟩) hK hP hD hS hA hsp (va_recv hK hP (ci := 5) (q0 := 12) rfl wX_12) (As := [.int (S_46.1 3 (Int32.toNatClampNeg x4_44))]) rfl hl.1 rfl (Nat.le_of_ble_eq_true rfl) dX5_spread_73 ⟨Nat.zero_le _, Nat.zero_le _⟩ (fun H locs hP hD hS => ?_)
              obtain ⟨x6_62, e_x6_62, hZ⟩ := jx_l_some hZ
              refine lv_iinc (v := x6_62) (lv' := [(6, .int x6_62), (0, .ref (q 12)), (1, .ref (q 1)), (2, .ref (q 17)), (3, .int x3), (4, .int x4_44), (5, .int s0_44)]) hx hb dX5_spread_76 hl (k := 6) rfl (by rw [e_x6_62]; rfl) (by decide) rfl (fun ls hl => ?_)
              refine lv_goto (tgt := 58) hx hb dX5_spread_79 (by decide) ?_
              have ho := Option.some.inj hZ
              subst ho
              exact ih_47 x6_62 S_60 _ _ hk_47 hP hD hS _ (lv_sub hl [1, 2, 3, 4, 5, 6, 0] rfl)
        exact l_47 FU (0 : Int32) S_44 _ _ hw hP hD hS _ (lv_sub hl [2, 3, 4, 5, 6, 1, 0] rfl)
      unfold b_X5_spreadc_18 at hZ
      refine lv_iload hx hb dX5_spread_18 (lv_at hl 4 rfl) ?_
      refine lv_aload_n hx hb dX5_spread_20 rfl (lv_at hl 1 rfl) ?_
      refine gn_1_known hx hb hts in1 hown hK hP (hsp.1 _ (List.mem_of_getElem? (i := 13) rfl)) dX5_spread_21 ?_
      refine lv_icmp_ge (tgt := 88) hx hb dX5_spread_24 (by decide) (fun c_38 => ?_) (fun c_38 => ?_)
      · have hZ := jx_i_pos c_38 hZ
        have ho := Option.some.inj hZ
        subst ho
        have hE := hza_7
        rw [← (show S_6 = r_7 from hk_7)] at hE
        have hZ : f_X5_spreadc_88 S_6 = some Z := hE
        exact j88 S_6 _ _ hZ hP hD hS _ (lv_sub hl [] rfl)
      · have hZ := jx_i_neg c_38 hZ
        refine lv_iload hx hb dX5_spread_27 (lv_at hl 4 rfl) ?_
        refine lv_aload_n hx hb dX5_spread_29 rfl (lv_at hl 2 rfl) ?_
        refine X_alen (v := (8 : Int32)) (t0 := 0) hx hb hK hP wX_17 rfl rfl dX5_spread_30 ?_
        refine lv_icmp_ge (tgt := 88) hx hb dX5_spread_31 (by decide) (fun c_40 => ?_) (fun c_40 => ?_)
        · have hZ := jx_i_pos c_40 hZ
          have ho := Option.some.inj hZ
          subst ho
          have hE := hza_7
          rw [← (show S_6 = r_7 from hk_7)] at hE
          have hZ : f_X5_spreadc_88 S_6 = some Z := hE
          exact j88 S_6 _ _ hZ hP hD hS _ (lv_sub hl [] rfl)
        · have hZ := jx_i_neg c_40 hZ
          refine lv_aload_n hx hb dX5_spread_34 rfl (lv_at hl 1 rfl) ?_
          refine gn_1_land hx hb hts in1 hown hK hP (hsp.1 _ (List.mem_of_getElem? (i := 1) rfl)) dX5_spread_35 ?_
          refine lv_iload hx hb dX5_spread_38 (lv_at hl 4 rfl) ?_
          obtain ⟨c_42, hZ⟩ := jx_a_some hZ
          refine X_iald hx hb hK hP wX_2 c_42 dX5_spread_40 ?_
          refine lv_iload_n hx hb dX5_spread_41 rfl (lv_at hl 3 rfl) ?_
          refine lv_icmp_ne (tgt := 52) hx hb dX5_spread_42 (by decide) (fun c_43 => ?_) (fun c_43 => ?_)
          · have hZ := jx_i_neg c_43 hZ
            refine lv_iconst (v := (0 : Int32)) hx hb dX5_spread_52 (by decide) ?_
            exact j53i18 x4_5 (0 : Int32) S_6 _ hk_7 _ _ hZ hP hD hS _ (lv_sub hl [0, 1, 2, 3, 4] rfl)
          · have hZ := jx_i_pos c_43 hZ
            refine lv_aload_n hx hb dX5_spread_45 rfl (lv_at hl 2 rfl) ?_
            refine lv_iload hx hb dX5_spread_46 (lv_at hl 4 rfl) ?_
            obtain ⟨c_64, hZ⟩ := jx_a_some hZ
            refine X_iald hx hb hK hP wX_17 c_64 dX5_spread_48 ?_
            refine lv_goto (tgt := 53) hx hb dX5_spread_49 (by decide) ?_
            exact j53i18 x4_5 (S_6.1 17 (Int32.toNatClampNeg x4_5)) S_6 _ hk_7 _ _ hZ hP hD hS _ (lv_sub hl [0, 1, 2, 3, 4] rfl)
  exact l_7 FU (0 : Int32) S_4 _ _ hw hP hD hS _ (lv_sub hl [1, 2, 3, 4, 0] rfl)
