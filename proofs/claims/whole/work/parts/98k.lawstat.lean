/-! what the tables say of nest mates, and the rows that the classes keep for all -/
set_option maxRecDepth 100000 in
theorem NWX_tbl : ∀ w ∈ NWX, w ∈ lw_tbl := mem_c [(1, 33), (1, 34), (1, 35), (1, 37), (1, 38), (1, 39), (1, 41), (1, 43), (1, 44), (1, 46), (1, 47), (1, 48), (1, 49), (1, 50), (1, 51), (1, 52), (1, 75), (1, 76), (1, 78), (1, 79), (1, 81), (1, 82), (1, 84), (1, 85), (1, 86), (1, 87), (1, 89), (1, 90), (1, 112), (1, 114), (1, 135), (1, 137), (1, 139), (1, 170), (1, 171), (1, 174), (1, 175), (1, 188), (1, 193), (1, 195), (1, 234), (1, 236), (1, 238), (2, 0), (2, 2), (2, 4), (2, 30), (2, 52), (2, 54), (2, 56), (2, 77), (2, 79), (2, 81), (2, 83), (1, 28), (1, 70), (1, 104), (1, 129), (1, 157), (1, 163), (1, 210), (1, 213), (1, 229), (2, 20), (2, 46), (2, 72), (2, 143), (2, 149), (2, 184), (2, 185), (2, 190), (3, 59), (3, 111), (3, 123), (4, 100), (4, 170), (4, 216)] rfl
theorem NWX_on : NWX.all (fun w => w.onTables) = true := by decide +kernel
theorem lw_nw {b : Nat} {s : State} (htt : ∀ w ∈ lw_tbl, w.before #[Value.ref b] s = true) : nwX s := fun w hw => va_Nw.of (List.all_eq_true.mp NWX_on w hw) (htt w (NWX_tbl w hw))
theorem lw_ao {b : Nat} {s : State} (htt : ∀ w ∈ lw_tbl, w.before #[Value.ref b] s = true) : va_AO "CoinsOfLast$Shelf" s := va_AO.of (htt (.arrayOver (.object "CoinsOfLast$Shelf")) (chk_in 2 _ (List.mem_of_getElem? (i := 70) rfl)))
set_option maxRecDepth 100000 in
theorem lw_st0 {b : Nat} {s : State} (htt : ∀ w ∈ lw_tbl, w.before #[Value.ref b] s = true) (hgv : (Jvm.Cond.and given_1 narrow_1).before #[Value.ref b] s = true) (A : Nat → Prop) (hA : ∀ a : Nat, a < s.heap.size → ¬ A a) : ∃ t : Nat, va_Z "CoinsOfLast" "MEND_LEAST" "[I" (.ref t) A s s.heap ∧ va_T .int t 5 (fun j => .int (([1, 0, 0, 1, 0] : List Int32).getD j 0)) A s s.heap := by
  have hs := flat_of_before _ hgv
  have hel : ∀ j : Nat, j < 5 → (Term.elem (.static "CoinsOfLast" "MEND_LEAST" "[I") (.int (Int32.ofNat j))).eval #[Value.ref b] s none [] s = some (Value.int (([1, 0, 0, 1, 0] : List Int32).getD j 0))
    | 0, _ => va_eqt (z := 1) (hs (.eq (.elem (.static "CoinsOfLast" "MEND_LEAST" "[I") (.int 0)) (.int 1)) (by decide +kernel))
    | 1, _ => va_eqt (z := 0) (hs (.eq (.elem (.static "CoinsOfLast" "MEND_LEAST" "[I") (.int 1)) (.int 0)) (by decide +kernel))
    | 2, _ => va_eqt (z := 0) (hs (.eq (.elem (.static "CoinsOfLast" "MEND_LEAST" "[I") (.int 2)) (.int 0)) (by decide +kernel))
    | 3, _ => va_eqt (z := 1) (hs (.eq (.elem (.static "CoinsOfLast" "MEND_LEAST" "[I") (.int 3)) (.int 1)) (by decide +kernel))
    | 4, _ => va_eqt (z := 0) (hs (.eq (.elem (.static "CoinsOfLast" "MEND_LEAST" "[I") (.int 4)) (.int 0)) (by decide +kernel))
    | n + 5, h => absurd h (by omega)
  obtain ⟨t, h1, h2⟩ := va_Tof (N := 5) (f := fun j => .int (([1, 0, 0, 1, 0] : List Int32).getD j 0)) (A := A) (by decide) (hs (.arrayOf (.static "CoinsOfLast" "MEND_LEAST" "[I") .int) (by decide +kernel)) (va_eqt (z := 5) (hs (.eq (.length (.static "CoinsOfLast" "MEND_LEAST" "[I")) (.int 5)) (by decide +kernel))) hel hA
  exact ⟨t, va_Zof (htt (.laysStatic "CoinsOfLast" "MEND_LEAST" "[I") (chk_in 2 _ (List.mem_of_getElem? (i := 223) rfl))) (htt (.initialized "CoinsOfLast") (chk_in 1 _ (List.mem_of_getElem? (i := 1) rfl))) h1 hA, h2⟩
set_option maxRecDepth 100000 in
theorem lw_st1 {b : Nat} {s : State} (htt : ∀ w ∈ lw_tbl, w.before #[Value.ref b] s = true) (hgv : (Jvm.Cond.and given_1 narrow_1).before #[Value.ref b] s = true) (A : Nat → Prop) (hA : ∀ a : Nat, a < s.heap.size → ¬ A a) : ∃ t : Nat, va_Z "CoinsOfLast" "MEND_MOST" "[I" (.ref t) A s s.heap ∧ va_T .int t 5 (fun j => .int (([40, 99, 99, 200, 99] : List Int32).getD j 0)) A s s.heap := by
  have hs := flat_of_before _ hgv
  have hel : ∀ j : Nat, j < 5 → (Term.elem (.static "CoinsOfLast" "MEND_MOST" "[I") (.int (Int32.ofNat j))).eval #[Value.ref b] s none [] s = some (Value.int (([40, 99, 99, 200, 99] : List Int32).getD j 0))
    | 0, _ => va_eqt (z := 40) (hs (.eq (.elem (.static "CoinsOfLast" "MEND_MOST" "[I") (.int 0)) (.int 40)) (by decide +kernel))
    | 1, _ => va_eqt (z := 99) (hs (.eq (.elem (.static "CoinsOfLast" "MEND_MOST" "[I") (.int 1)) (.int 99)) (by decide +kernel))
    | 2, _ => va_eqt (z := 99) (hs (.eq (.elem (.static "CoinsOfLast" "MEND_MOST" "[I") (.int 2)) (.int 99)) (by decide +kernel))
    | 3, _ => va_eqt (z := 200) (hs (.eq (.elem (.static "CoinsOfLast" "MEND_MOST" "[I") (.int 3)) (.int 200)) (by decide +kernel))
    | 4, _ => va_eqt (z := 99) (hs (.eq (.elem (.static "CoinsOfLast" "MEND_MOST" "[I") (.int 4)) (.int 99)) (by decide +kernel))
    | n + 5, h => absurd h (by omega)
  obtain ⟨t, h1, h2⟩ := va_Tof (N := 5) (f := fun j => .int (([40, 99, 99, 200, 99] : List Int32).getD j 0)) (A := A) (by decide) (hs (.arrayOf (.static "CoinsOfLast" "MEND_MOST" "[I") .int) (by decide +kernel)) (va_eqt (z := 5) (hs (.eq (.length (.static "CoinsOfLast" "MEND_MOST" "[I")) (.int 5)) (by decide +kernel))) hel hA
  exact ⟨t, va_Zof (htt (.laysStatic "CoinsOfLast" "MEND_MOST" "[I") (chk_in 2 _ (List.mem_of_getElem? (i := 221) rfl))) (htt (.initialized "CoinsOfLast") (chk_in 1 _ (List.mem_of_getElem? (i := 1) rfl))) h1 hA, h2⟩
set_option maxRecDepth 100000 in
theorem lw_st2 {b : Nat} {s : State} (htt : ∀ w ∈ lw_tbl, w.before #[Value.ref b] s = true) (hgv : (Jvm.Cond.and given_1 narrow_1).before #[Value.ref b] s = true) (A : Nat → Prop) (hA : ∀ a : Nat, a < s.heap.size → ¬ A a) : ∃ t : Nat, va_Z "CoinsOfLast$Deeds" "ABOVE" "[I" (.ref t) A s s.heap ∧ va_T .int t 8 (fun j => .int (([-1, 0, 0, 2, 0, 1, 4, 3] : List Int32).getD j 0)) A s s.heap := by
  have hs := flat_of_before _ hgv
  have hel : ∀ j : Nat, j < 8 → (Term.elem (.static "CoinsOfLast$Deeds" "ABOVE" "[I") (.int (Int32.ofNat j))).eval #[Value.ref b] s none [] s = some (Value.int (([-1, 0, 0, 2, 0, 1, 4, 3] : List Int32).getD j 0))
    | 0, _ => va_eqt (z := -1) (hs (.eq (.elem (.static "CoinsOfLast$Deeds" "ABOVE" "[I") (.int 0)) (.int (-1))) (by decide +kernel))
    | 1, _ => va_eqt (z := 0) (hs (.eq (.elem (.static "CoinsOfLast$Deeds" "ABOVE" "[I") (.int 1)) (.int 0)) (by decide +kernel))
    | 2, _ => va_eqt (z := 0) (hs (.eq (.elem (.static "CoinsOfLast$Deeds" "ABOVE" "[I") (.int 2)) (.int 0)) (by decide +kernel))
    | 3, _ => va_eqt (z := 2) (hs (.eq (.elem (.static "CoinsOfLast$Deeds" "ABOVE" "[I") (.int 3)) (.int 2)) (by decide +kernel))
    | 4, _ => va_eqt (z := 0) (hs (.eq (.elem (.static "CoinsOfLast$Deeds" "ABOVE" "[I") (.int 4)) (.int 0)) (by decide +kernel))
    | 5, _ => va_eqt (z := 1) (hs (.eq (.elem (.static "CoinsOfLast$Deeds" "ABOVE" "[I") (.int 5)) (.int 1)) (by decide +kernel))
    | 6, _ => va_eqt (z := 4) (hs (.eq (.elem (.static "CoinsOfLast$Deeds" "ABOVE" "[I") (.int 6)) (.int 4)) (by decide +kernel))
    | 7, _ => va_eqt (z := 3) (hs (.eq (.elem (.static "CoinsOfLast$Deeds" "ABOVE" "[I") (.int 7)) (.int 3)) (by decide +kernel))
    | n + 8, h => absurd h (by omega)
  obtain ⟨t, h1, h2⟩ := va_Tof (N := 8) (f := fun j => .int (([-1, 0, 0, 2, 0, 1, 4, 3] : List Int32).getD j 0)) (A := A) (by decide) (hs (.arrayOf (.static "CoinsOfLast$Deeds" "ABOVE" "[I") .int) (by decide +kernel)) (va_eqt (z := 8) (hs (.eq (.length (.static "CoinsOfLast$Deeds" "ABOVE" "[I")) (.int 8)) (by decide +kernel))) hel hA
  exact ⟨t, va_Zof (htt (.laysStatic "CoinsOfLast$Deeds" "ABOVE" "[I") (chk_in 4 _ (List.mem_of_getElem? (i := 190) rfl))) (htt (.initialized "CoinsOfLast$Deeds") (chk_in 1 _ (List.mem_of_getElem? (i := 11) rfl))) h1 hA, h2⟩
set_option maxRecDepth 100000 in
theorem lw_st3 {b : Nat} {s : State} (htt : ∀ w ∈ lw_tbl, w.before #[Value.ref b] s = true) (hgv : (Jvm.Cond.and given_1 narrow_1).before #[Value.ref b] s = true) (A : Nat → Prop) (hA : ∀ a : Nat, a < s.heap.size → ¬ A a) : ∃ t : Nat, va_Z "CoinsOfLast$Deeds" "BODY_OF" "[I" (.ref t) A s s.heap ∧ va_T .int t 32 (fun j => .int (([1, 10, 11, 2, 20, 0, 0, 0, 0, 30, 0, 0, 0, 41, 40, 0, 0, 0, 50, 0, 0, 0, 0, 60, 70, 0, 0, 0, 0, 80, 0, 81] : List Int32).getD j 0)) A s s.heap := by
  have hs := flat_of_before _ hgv
  have hel : ∀ j : Nat, j < 32 → (Term.elem (.static "CoinsOfLast$Deeds" "BODY_OF" "[I") (.int (Int32.ofNat j))).eval #[Value.ref b] s none [] s = some (Value.int (([1, 10, 11, 2, 20, 0, 0, 0, 0, 30, 0, 0, 0, 41, 40, 0, 0, 0, 50, 0, 0, 0, 0, 60, 70, 0, 0, 0, 0, 80, 0, 81] : List Int32).getD j 0))
    | 0, _ => va_eqt (z := 1) (hs (.eq (.elem (.static "CoinsOfLast$Deeds" "BODY_OF" "[I") (.int 0)) (.int 1)) (by decide +kernel))
    | 1, _ => va_eqt (z := 10) (hs (.eq (.elem (.static "CoinsOfLast$Deeds" "BODY_OF" "[I") (.int 1)) (.int 10)) (by decide +kernel))
    | 2, _ => va_eqt (z := 11) (hs (.eq (.elem (.static "CoinsOfLast$Deeds" "BODY_OF" "[I") (.int 2)) (.int 11)) (by decide +kernel))
    | 3, _ => va_eqt (z := 2) (hs (.eq (.elem (.static "CoinsOfLast$Deeds" "BODY_OF" "[I") (.int 3)) (.int 2)) (by decide +kernel))
    | 4, _ => va_eqt (z := 20) (hs (.eq (.elem (.static "CoinsOfLast$Deeds" "BODY_OF" "[I") (.int 4)) (.int 20)) (by decide +kernel))
    | 5, _ => va_eqt (z := 0) (hs (.eq (.elem (.static "CoinsOfLast$Deeds" "BODY_OF" "[I") (.int 5)) (.int 0)) (by decide +kernel))
    | 6, _ => va_eqt (z := 0) (hs (.eq (.elem (.static "CoinsOfLast$Deeds" "BODY_OF" "[I") (.int 6)) (.int 0)) (by decide +kernel))
    | 7, _ => va_eqt (z := 0) (hs (.eq (.elem (.static "CoinsOfLast$Deeds" "BODY_OF" "[I") (.int 7)) (.int 0)) (by decide +kernel))
    | 8, _ => va_eqt (z := 0) (hs (.eq (.elem (.static "CoinsOfLast$Deeds" "BODY_OF" "[I") (.int 8)) (.int 0)) (by decide +kernel))
    | 9, _ => va_eqt (z := 30) (hs (.eq (.elem (.static "CoinsOfLast$Deeds" "BODY_OF" "[I") (.int 9)) (.int 30)) (by decide +kernel))
    | 10, _ => va_eqt (z := 0) (hs (.eq (.elem (.static "CoinsOfLast$Deeds" "BODY_OF" "[I") (.int 10)) (.int 0)) (by decide +kernel))
    | 11, _ => va_eqt (z := 0) (hs (.eq (.elem (.static "CoinsOfLast$Deeds" "BODY_OF" "[I") (.int 11)) (.int 0)) (by decide +kernel))
    | 12, _ => va_eqt (z := 0) (hs (.eq (.elem (.static "CoinsOfLast$Deeds" "BODY_OF" "[I") (.int 12)) (.int 0)) (by decide +kernel))
    | 13, _ => va_eqt (z := 41) (hs (.eq (.elem (.static "CoinsOfLast$Deeds" "BODY_OF" "[I") (.int 13)) (.int 41)) (by decide +kernel))
    | 14, _ => va_eqt (z := 40) (hs (.eq (.elem (.static "CoinsOfLast$Deeds" "BODY_OF" "[I") (.int 14)) (.int 40)) (by decide +kernel))
    | 15, _ => va_eqt (z := 0) (hs (.eq (.elem (.static "CoinsOfLast$Deeds" "BODY_OF" "[I") (.int 15)) (.int 0)) (by decide +kernel))
    | 16, _ => va_eqt (z := 0) (hs (.eq (.elem (.static "CoinsOfLast$Deeds" "BODY_OF" "[I") (.int 16)) (.int 0)) (by decide +kernel))
    | 17, _ => va_eqt (z := 0) (hs (.eq (.elem (.static "CoinsOfLast$Deeds" "BODY_OF" "[I") (.int 17)) (.int 0)) (by decide +kernel))
    | 18, _ => va_eqt (z := 50) (hs (.eq (.elem (.static "CoinsOfLast$Deeds" "BODY_OF" "[I") (.int 18)) (.int 50)) (by decide +kernel))
    | 19, _ => va_eqt (z := 0) (hs (.eq (.elem (.static "CoinsOfLast$Deeds" "BODY_OF" "[I") (.int 19)) (.int 0)) (by decide +kernel))
    | 20, _ => va_eqt (z := 0) (hs (.eq (.elem (.static "CoinsOfLast$Deeds" "BODY_OF" "[I") (.int 20)) (.int 0)) (by decide +kernel))
    | 21, _ => va_eqt (z := 0) (hs (.eq (.elem (.static "CoinsOfLast$Deeds" "BODY_OF" "[I") (.int 21)) (.int 0)) (by decide +kernel))
    | 22, _ => va_eqt (z := 0) (hs (.eq (.elem (.static "CoinsOfLast$Deeds" "BODY_OF" "[I") (.int 22)) (.int 0)) (by decide +kernel))
    | 23, _ => va_eqt (z := 60) (hs (.eq (.elem (.static "CoinsOfLast$Deeds" "BODY_OF" "[I") (.int 23)) (.int 60)) (by decide +kernel))
    | 24, _ => va_eqt (z := 70) (hs (.eq (.elem (.static "CoinsOfLast$Deeds" "BODY_OF" "[I") (.int 24)) (.int 70)) (by decide +kernel))
    | 25, _ => va_eqt (z := 0) (hs (.eq (.elem (.static "CoinsOfLast$Deeds" "BODY_OF" "[I") (.int 25)) (.int 0)) (by decide +kernel))
    | 26, _ => va_eqt (z := 0) (hs (.eq (.elem (.static "CoinsOfLast$Deeds" "BODY_OF" "[I") (.int 26)) (.int 0)) (by decide +kernel))
    | 27, _ => va_eqt (z := 0) (hs (.eq (.elem (.static "CoinsOfLast$Deeds" "BODY_OF" "[I") (.int 27)) (.int 0)) (by decide +kernel))
    | 28, _ => va_eqt (z := 0) (hs (.eq (.elem (.static "CoinsOfLast$Deeds" "BODY_OF" "[I") (.int 28)) (.int 0)) (by decide +kernel))
    | 29, _ => va_eqt (z := 80) (hs (.eq (.elem (.static "CoinsOfLast$Deeds" "BODY_OF" "[I") (.int 29)) (.int 80)) (by decide +kernel))
    | 30, _ => va_eqt (z := 0) (hs (.eq (.elem (.static "CoinsOfLast$Deeds" "BODY_OF" "[I") (.int 30)) (.int 0)) (by decide +kernel))
    | 31, _ => va_eqt (z := 81) (hs (.eq (.elem (.static "CoinsOfLast$Deeds" "BODY_OF" "[I") (.int 31)) (.int 81)) (by decide +kernel))
    | n + 32, h => absurd h (by omega)
  obtain ⟨t, h1, h2⟩ := va_Tof (N := 32) (f := fun j => .int (([1, 10, 11, 2, 20, 0, 0, 0, 0, 30, 0, 0, 0, 41, 40, 0, 0, 0, 50, 0, 0, 0, 0, 60, 70, 0, 0, 0, 0, 80, 0, 81] : List Int32).getD j 0)) (A := A) (by decide) (hs (.arrayOf (.static "CoinsOfLast$Deeds" "BODY_OF" "[I") .int) (by decide +kernel)) (va_eqt (z := 32) (hs (.eq (.length (.static "CoinsOfLast$Deeds" "BODY_OF" "[I")) (.int 32)) (by decide +kernel))) hel hA
  exact ⟨t, va_Zof (htt (.laysStatic "CoinsOfLast$Deeds" "BODY_OF" "[I") (chk_in 4 _ (List.mem_of_getElem? (i := 184) rfl))) (htt (.initialized "CoinsOfLast$Deeds") (chk_in 1 _ (List.mem_of_getElem? (i := 11) rfl))) h1 hA, h2⟩
theorem df_X11 : ∀ j, j < 13 → defaultValue (tyX11 j) = vp_V [.null, .null, .null, .null, .null, .null, .null, .null, .null, .null, .null, .null, .null] j
  | 0, _ => rfl
  | 1, _ => rfl
  | 2, _ => rfl
  | 3, _ => rfl
  | 4, _ => rfl
  | 5, _ => rfl
  | 6, _ => rfl
  | 7, _ => rfl
  | 8, _ => rfl
  | 9, _ => rfl
  | 10, _ => rfl
  | 11, _ => rfl
  | 12, _ => rfl
  | n + 13, h => absurd h (by omega)
theorem df_X12 : ∀ j, j < 57 → defaultValue (tyX12 j) = vp_V [.int 0, .null, .null, .null, .null, .null, .int 0, .null, .null, .null, .null, .null, .int 0, .int 0, .int 0, .int 0, .int 0, .null, .int 0, .null, .int 0, .int 0, .null, .null, .null, .null, .null, .int 0, .int 0, .null, .int 0, .int 0, .null, .int 0, .null, .null, .null, .null, .null, .null, .long 0, .int 0, .int 0, .int 0, .int 0, .null, .null, .null, .int 0, .null, .int 0, .null, .int 0, .null, .null, .null, .null] j
  | 0, _ => rfl
  | 1, _ => rfl
  | 2, _ => rfl
  | 3, _ => rfl
  | 4, _ => rfl
  | 5, _ => rfl
  | 6, _ => rfl
  | 7, _ => rfl
  | 8, _ => rfl
  | 9, _ => rfl
  | 10, _ => rfl
  | 11, _ => rfl
  | 12, _ => rfl
  | 13, _ => rfl
  | 14, _ => rfl
  | 15, _ => rfl
  | 16, _ => rfl
  | 17, _ => rfl
  | 18, _ => rfl
  | 19, _ => rfl
  | 20, _ => rfl
  | 21, _ => rfl
  | 22, _ => rfl
  | 23, _ => rfl
  | 24, _ => rfl
  | 25, _ => rfl
  | 26, _ => rfl
  | 27, _ => rfl
  | 28, _ => rfl
  | 29, _ => rfl
  | 30, _ => rfl
  | 31, _ => rfl
  | 32, _ => rfl
  | 33, _ => rfl
  | 34, _ => rfl
  | 35, _ => rfl
  | 36, _ => rfl
  | 37, _ => rfl
  | 38, _ => rfl
  | 39, _ => rfl
  | 40, _ => rfl
  | 41, _ => rfl
  | 42, _ => rfl
  | 43, _ => rfl
  | 44, _ => rfl
  | 45, _ => rfl
  | 46, _ => rfl
  | 47, _ => rfl
  | 48, _ => rfl
  | 49, _ => rfl
  | 50, _ => rfl
  | 51, _ => rfl
  | 52, _ => rfl
  | 53, _ => rfl
  | 54, _ => rfl
  | 55, _ => rfl
  | 56, _ => rfl
  | n + 57, h => absurd h (by omega)
