/-! the law: its loop and its start -/
/-! THE CLAIM OUT OF ONE WALK OF THE LAW'S BODY. Your part is whole_start (and what it stands on); all else here is the same for every law, but numbers. -/
def R_law : String := "CoinsOfLastLaw"
def lw_P (b : Addr) (xs : List Int32) (args : Array Value) (s : State) : Prop := args = #[.ref b] ∧ s.IntsAt b xs ∧ xs.length ≤ 3072 ∧ (Jvm.Cond.and given_1 narrow_1).before args s = true
def lw_Q (_ : Array Value) (s : State) (o : Outcome) (t : State) : Prop := o = .returned (some (.int 1)) ∧ Framed s o t [] 600000 7302250
def lw_Z (below : List Frame) (a : Array Value) (s : State) : State → Prop := fun t => ∃ o, t.status = .running ∧ Ended t below o ∧ lw_Q a s o t
/-- the law's own end, with 1 on the stack, nothing written that was there before, its room as the claim has it -/
theorem lw_ret {p : Program} {l : Launch} {e : Env} {s : State} {m : MethodId} {below : List Frame} {meth : Method} {c : Code} {b : Nat} (hx : p.tables.exec = Jvm.exec) (hb : c.code = code) (hr : meth.sig.returnType = ret) (hlocks : meth.locks = false) {pc : Nat} {H : Heap} {ls : Array Slot} (hdg : decode code pc = .ok (.ireturn, 1)) : W p l e room_1 s m #[Value.ref b] below meth c H [] 600000 7302250 (lw_Z below #[Value.ref b] s) (F0 m pc ls [.int 1]) := by
  intro T hT X
  obtain ⟨fs, hret, hrun, hended, hW, hframe⟩ := X.leave (v := some (.int 1)) (hlocks := hlocks) (fun h => by rw [hr] at h; cases h)
  have hmeth' : T.vm.method? m = some meth := X.method'
  refine ⟨T.setFrames fs, ?_, .returned (some (.int 1)), hrun, hended, rfl, ⟨_, rfl⟩, hW, hframe⟩
  jvm_step X.here [X.here.top, hx, hb, hdg, hmeth', hr, ret, narrow_b1]
  (try refine ⟨rfl, ?_⟩); (try refine ⟨rfl, ?_⟩)
  first | (intro acts; rw [hret _ acts rfl rfl rfl]) | rw [hret _ _ rfl rfl rfl]
  exact Steps.refl _
/-- what holds at the law's entry: the machine, the code, the tables' words (any of lw_tbl by 'hts w (by decide +kernel)'), the script of L ints xs at the cell b, what the Statement gives of the start (any of its parts by flat_of_before) -/
def lw_At (p : Program) (s : State) (m : MethodId) (meth : Method) (c : Code) (b L : Nat) (xs : Nat → Int32) : Prop :=
  p.tables.exec = Jvm.exec ∧ c.code = code ∧ meth.sig.returnType = ret ∧ c.maxLocals = 4 ∧ s.vm.findClass R_law = some m.cls ∧ (∀ w ∈ lw_tbl, w.before #[Value.ref b] s = true) ∧ va_X b L xs s s.heap ∧ b < s.heap.size ∧ meth.locks = false ∧ (Jvm.Cond.and given_1 narrow_1).before #[Value.ref b] s = true
section
variable {p : Program} {l : Launch} {e : Env} {s : State} {m : MethodId} {below : List Frame} {meth : Method} {c : Code} {b L : Nat} {xs : Nat → Int32} {D : va_G} {q q2 : Nat → Nat} {k : CI}
set_option maxHeartbeats 4000000 in
set_option maxRecDepth 100000 in
theorem law_sw (C0 : LC p s m c b L xs D q q2 k) {i : Nat} (hi : i + 6 ≤ L) {Q : State → Prop} {S T : St} {H : Heap} {locs : List Loc} {ls : Array Slot} (h : RR RxC S T) (hP : va_P D vwCl (W_X q k S) H) (hV : va_P D vwCl (W_M q2 k T) H) (hS : va_S (AL s) s.heap H locs) (hl : lv_has ls 4 [(3, .int (nI i)), (2, .ref (q2 0)), (1, .ref (q 0)), (0, .ref b)]) (kk : ∀ (S2 T2 : St) (H : Heap) (locs : List Loc), RR RxC S2 T2 → va_P D vwCl (W_X q k S2) H → va_P D vwCl (W_M q2 k T2) H → va_S (AL s) s.heap H locs → W p l e room_1 s m #[Value.ref b] below meth c H locs 95 26919 Q (F0 m 1589 ls [])) (j : Nat) (hj : j < 64) : W p l e room_1 s m #[Value.ref b] below meth c H locs 95 26919 Q (F0 m 33 ls [.int (nI j)]) := by
  obtain ⟨hx, hb, -⟩ := id C0
  by_cases h40 : j < 40
  · rcases (show j = 0 ∨ j = 1 ∨ j = 2 ∨ j = 3 ∨ j = 4 ∨ j = 5 ∨ j = 6 ∨ j = 7 ∨ j = 8 ∨ j = 9 ∨ j = 10 ∨ j = 11 ∨ j = 12 ∨ j = 13 ∨ j = 14 ∨ j = 15 ∨ j = 16 ∨ j = 17 ∨ j = 18 ∨ j = 19 ∨ j = 20 ∨ j = 21 ∨ j = 22 ∨ j = 23 ∨ j = 24 ∨ j = 25 ∨ j = 26 ∨ j = 27 ∨ j = 28 ∨ j = 29 ∨ j = 30 ∨ j = 31 ∨ j = 32 ∨ j = 33 ∨ j = 34 ∨ j = 35 ∨ j = 36 ∨ j = 37 ∨ j = 38 ∨ j = 39 by omega) with rfl | rfl | rfl | rfl | rfl | rfl | rfl | rfl | rfl | rfl | rfl | rfl | rfl | rfl | rfl | rfl | rfl | rfl | rfl | rfl | rfl | rfl | rfl | rfl | rfl | rfl | rfl | rfl | rfl | rfl | rfl | rfl | rfl | rfl | rfl | rfl | rfl | rfl | rfl | rfl
    · exact lv_tableIn (tgt := 208) hx hb dL_law_33 (by decide) (by decide) (off := 175) rfl (by decide) (law_case_0 C0 hi h hP hV hS hl kk)
    · exact lv_tableIn (tgt := 241) hx hb dL_law_33 (by decide) (by decide) (off := 208) rfl (by decide) (law_case_1 C0 hi h hP hV hS hl kk)
    · exact lv_tableIn (tgt := 284) hx hb dL_law_33 (by decide) (by decide) (off := 251) rfl (by decide) (law_case_2 C0 hi h hP hV hS hl kk)
    · exact lv_tableIn (tgt := 317) hx hb dL_law_33 (by decide) (by decide) (off := 284) rfl (by decide) (law_case_3 C0 hi h hP hV hS hl kk)
    · exact lv_tableIn (tgt := 350) hx hb dL_law_33 (by decide) (by decide) (off := 317) rfl (by decide) (law_case_4 C0 hi h hP hV hS hl kk)
    · exact lv_tableIn (tgt := 383) hx hb dL_law_33 (by decide) (by decide) (off := 350) rfl (by decide) (law_case_5 C0 hi h hP hV hS hl kk)
    · exact lv_tableIn (tgt := 416) hx hb dL_law_33 (by decide) (by decide) (off := 383) rfl (by decide) (law_case_6 C0 hi h hP hV hS hl kk)
    · exact lv_tableIn (tgt := 459) hx hb dL_law_33 (by decide) (by decide) (off := 426) rfl (by decide) (law_case_7 C0 hi h hP hV hS hl kk)
    · exact lv_tableIn (tgt := 492) hx hb dL_law_33 (by decide) (by decide) (off := 459) rfl (by decide) (law_case_8 C0 hi h hP hV hS hl kk)
    · exact lv_tableIn (tgt := 515) hx hb dL_law_33 (by decide) (by decide) (off := 482) rfl (by decide) (law_case_9 C0 hi h hP hV hS hl kk)
    · exact lv_tableIn (tgt := 538) hx hb dL_law_33 (by decide) (by decide) (off := 505) rfl (by decide) (law_case_10 C0 hi h hP hV hS hl kk)
    · exact lv_tableIn (tgt := 571) hx hb dL_law_33 (by decide) (by decide) (off := 538) rfl (by decide) (law_case_11 C0 hi h hP hV hS hl kk)
    · exact lv_tableIn (tgt := 614) hx hb dL_law_33 (by decide) (by decide) (off := 581) rfl (by decide) (law_case_12 C0 hi h hP hV hS hl kk)
    · exact lv_tableIn (tgt := 647) hx hb dL_law_33 (by decide) (by decide) (off := 614) rfl (by decide) (law_case_13 C0 hi h hP hV hS hl kk)
    · exact lv_tableIn (tgt := 690) hx hb dL_law_33 (by decide) (by decide) (off := 657) rfl (by decide) (law_case_14 C0 hi h hP hV hS hl kk)
    · exact lv_tableIn (tgt := 713) hx hb dL_law_33 (by decide) (by decide) (off := 680) rfl (by decide) (law_case_15 C0 hi h hP hV hS hl kk)
    · exact lv_tableIn (tgt := 746) hx hb dL_law_33 (by decide) (by decide) (off := 713) rfl (by decide) (law_case_16 C0 hi h hP hV hS hl kk)
    · exact lv_tableIn (tgt := 799) hx hb dL_law_33 (by decide) (by decide) (off := 766) rfl (by decide) (law_case_17 C0 hi h hP hV hS hl kk)
    · exact lv_tableIn (tgt := 842) hx hb dL_law_33 (by decide) (by decide) (off := 809) rfl (by decide) (law_case_18 C0 hi h hP hV hS hl kk)
    · exact lv_tableIn (tgt := 895) hx hb dL_law_33 (by decide) (by decide) (off := 862) rfl (by decide) (law_case_19 C0 hi h hP hV hS hl kk)
    · exact lv_tableIn (tgt := 948) hx hb dL_law_33 (by decide) (by decide) (off := 915) rfl (by decide) (law_case_20 C0 hi h hP hV hS hl kk)
    · exact lv_tableIn (tgt := 1001) hx hb dL_law_33 (by decide) (by decide) (off := 968) rfl (by decide) (law_case_21 C0 hi h hP hV hS hl kk)
    · exact lv_tableIn (tgt := 1034) hx hb dL_law_33 (by decide) (by decide) (off := 1001) rfl (by decide) (law_case_22 C0 hi h hP hV hS hl kk)
    · exact lv_tableIn (tgt := 1057) hx hb dL_law_33 (by decide) (by decide) (off := 1024) rfl (by decide) (law_case_23 C0 hi h hP hV hS hl kk)
    · exact lv_tableIn (tgt := 1100) hx hb dL_law_33 (by decide) (by decide) (off := 1067) rfl (by decide) (law_case_24 C0 hi h hP hV hS hl kk)
    · exact lv_tableIn (tgt := 1123) hx hb dL_law_33 (by decide) (by decide) (off := 1090) rfl (by decide) (law_case_25 C0 hi h hP hV hS hl kk)
    · exact lv_tableIn (tgt := 1146) hx hb dL_law_33 (by decide) (by decide) (off := 1113) rfl (by decide) (law_case_26 C0 hi h hP hV hS hl kk)
    · exact lv_tableIn (tgt := 1159) hx hb dL_law_33 (by decide) (by decide) (off := 1126) rfl (by decide) (law_case_27 C0 hi h hP hV hS hl kk)
    · exact lv_tableIn (tgt := 1172) hx hb dL_law_33 (by decide) (by decide) (off := 1139) rfl (by decide) (law_case_28 C0 hi h hP hV hS hl kk)
    · exact lv_tableIn (tgt := 1185) hx hb dL_law_33 (by decide) (by decide) (off := 1152) rfl (by decide) (law_case_29 C0 hi h hP hV hS hl kk)
    · exact lv_tableIn (tgt := 1198) hx hb dL_law_33 (by decide) (by decide) (off := 1165) rfl (by decide) (law_case_30 C0 hi h hP hV hS hl kk)
    · exact lv_tableIn (tgt := 1221) hx hb dL_law_33 (by decide) (by decide) (off := 1188) rfl (by decide) (law_case_31 C0 hi h hP hV hS hl kk)
    · exact lv_tableIn (tgt := 1264) hx hb dL_law_33 (by decide) (by decide) (off := 1231) rfl (by decide) (law_case_32 C0 hi h hP hV hS hl kk)
    · exact lv_tableIn (tgt := 1287) hx hb dL_law_33 (by decide) (by decide) (off := 1254) rfl (by decide) (law_case_33 C0 hi h hP hV hS hl kk)
    · exact lv_tableIn (tgt := 1320) hx hb dL_law_33 (by decide) (by decide) (off := 1287) rfl (by decide) (law_case_34 C0 hi h hP hV hS hl kk)
    · exact lv_tableIn (tgt := 1363) hx hb dL_law_33 (by decide) (by decide) (off := 1330) rfl (by decide) (law_case_35 C0 hi h hP hV hS hl kk)
    · exact lv_tableIn (tgt := 1436) hx hb dL_law_33 (by decide) (by decide) (off := 1403) rfl (by decide) (law_case_36 C0 hi h hP hV hS hl kk)
    · exact lv_tableIn (tgt := 1470) hx hb dL_law_33 (by decide) (by decide) (off := 1437) rfl (by decide) (law_case_37 C0 hi h hP hV hS hl kk)
    · exact lv_tableIn (tgt := 1533) hx hb dL_law_33 (by decide) (by decide) (off := 1500) rfl (by decide) (law_case_38 C0 hi h hP hV hS hl kk)
    · exact lv_tableIn (tgt := 1566) hx hb dL_law_33 (by decide) (by decide) (off := 1533) rfl (by decide) (law_case_39 C0 hi h hP hV hS hl kk)
  · exact lv_tableOut (tgt := 1589) hx hb dL_law_33 (Or.inr (by rw [nI_toInt (by omega)]; omega)) (by decide) (kk S T H locs h hP hV hS)
set_option maxHeartbeats 4000000 in
set_option maxRecDepth 100000 in
theorem law_loop (C0 : LC p s m c b L xs D q q2 k) (hr : meth.sig.returnType = ret) (hlocks : meth.locks = false) : ∀ (f i : Nat), i ≤ L → L - i < f → ∀ (S T : St) (H : Heap) (locs : List Loc) (ls : Array Slot), RR RxC S T → va_P D vwCl (W_X q k S) H → va_P D vwCl (W_M q2 k T) H → va_S (AL s) s.heap H locs → lv_has ls 4 [(3, .int (nI i)), (2, .ref (q2 0)), (1, .ref (q 0)), (0, .ref b)] → W p l e room_1 s m #[Value.ref b] below meth c H locs 95 26919 (lw_Z below #[Value.ref b] s) (F0 m 18 ls []) := by
  intro f
  induction f with
  | zero => intro i _ h9; omega
  | succ f ih =>
    intro i hiL hf S T H locs ls h hP hV hS hl
    obtain ⟨hx, hb, hml, hown, hts, hX, hbl, hK, hDX, hDM, hsp, hL⟩ := id C0
    have hbA : ¬ AL s b := Nat.not_le.mpr hbl
    have eL : (nI L).toInt = L := nI_toInt (by omega)
    have ei : (nI i).toInt = i := nI_toInt (by omega)
    have e6 : (nI L - 6).toInt = (L : Int) - 6 := by
      rw [Int32.toInt_sub, eL]
      show ((L : Int) - 6).bmod _ = _
      exact Int.bmod_eq_of_le (by omega) (by omega)
    refine lv_iload_n hx hb dL_law_18 rfl (lv_at hl 0 rfl) ?_
    refine lv_aload_n hx hb dL_law_19 rfl (lv_at hl 3 rfl) ?_
    refine va_slen hx hb hX hbl hbA hS dL_law_20 ?_
    refine lv_bipush (v := (6 : Int32)) hx hb dL_law_21 (by decide) ?_
    refine lv_isub hx hb dL_law_23 ?_
    refine lv_icmp_gt (tgt := 1595) hx hb dL_law_24 (by decide) (fun c1 => ?_) (fun c1 => ?_)
    · refine lv_iconst (v := 1) hx hb dL_law_1595 (by decide) ?_
      refine va_forget (fun q hq => hS.2.2 q hq) ?_
      refine W.widen (k := 600000) (n := 7302250) (Nat.le_of_ble_eq_true rfl) (Nat.le_of_ble_eq_true rfl) ?_
      exact lw_ret hx hb hr hlocks dL_law_1596
    · have hi : i + 6 ≤ L := by
        have c2 : ¬ (nI L - 6) < nI i := c1
        rw [Int32.lt_iff_toInt_lt, e6, ei] at c2
        omega
      refine lv_aload_n hx hb dL_law_27 rfl (lv_at hl 3 rfl) ?_
      refine lv_iload_n hx hb dL_law_28 rfl (lv_at hl 0 rfl) ?_
      refine va_sld hx hb hX hbl hbA hS (lw_in 0 hi hL (by decide)) dL_law_29 ?_
      refine lv_bipush (v := (63 : Int32)) hx hb dL_law_30 (by decide) ?_
      refine lv_iand hx hb dL_law_32 ?_
      obtain ⟨j, hj, ej⟩ := pk_andE (xs (nI i).toNatClampNeg) (m := 63) 6 rfl
      refine tx_i (x := nI j) ej.symm ?_
      refine law_sw C0 hi h hP hV hS hl (fun S2 T2 H locs hR hP hV hS => ?_) j hj
      refine lv_iinc (v := nI (i + 6)) (lv' := [(3, .int (nI (i + 6))), (2, .ref (q2 0)), (1, .ref (q 0)), (0, .ref b)]) hx hb dL_law_1589 hl (k := 0) rfl (nI_add i 6) (by decide) rfl (fun ls hl => ?_)
      refine lv_goto (tgt := 18) hx hb dL_law_1592 (by decide) ?_
      exact ih (i + 6) hi (by omega) S2 T2 H locs ls hR hP hV hS hl
end
