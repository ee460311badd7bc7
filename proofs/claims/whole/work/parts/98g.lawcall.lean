/-! the law's world: the class's cells and the reference's, each apart from the other -/
section LAWCALLS
variable {Wd : (Nat → Nat) → CI → St → va_W} {sp : (Nat → Nat) → (Nat → Prop) → State → Prop}
variable {p : Program} {l : Launch} {e : Env} {R : Room} {s : State} {m : MethodId} {args : Array Value} {below : List Frame} {meth : Method} {c : Code} {H : Heap} {locs : List Loc} {cells slots : Nat} {Q : State → Prop} {cc : ByteArray} {pc : Nat} {ls : Array Slot} {rest : List Value} {D : va_G} {A : Nat → Prop} {q : Nat → Nat} {k : CI} {S : St} {V : va_W} {own C : String} {index : Nat} {Ts : List Cond} {y : MethodName} {bytes : ByteArray} {maxL nL n : Nat} {ret : Option FieldType} {ws : List Cond} {rm : Room} {As : List Value} {b : Nat}
/-- what lies beside the callee's world stays -/
theorem lw_stay {H1 : Heap} (hD : va_D A (Wd q k S ++ V)) (hV : va_P D vwCl V H) (hk : ∀ a : Nat, a < H.size → ¬ va_A (Wd q k S) H.size a → H1[a]? = H[a]?) : va_P D vwCl V H1 := by
  refine hV.kept (fun i x hx => hk x.1 (hV i x hx).lt (fun z => ?_))
  rcases z with ⟨j, e2, hj⟩ | z
  · have h1 : (Wd q k S ++ V)[j]? = some (x.1, e2) := by rw [List.getElem?_append_left (List.getElem?_eq_some_iff.mp hj).1]; exact hj
    have h2 : (Wd q k S ++ V)[(Wd q k S).length + i]? = some x := by rw [List.getElem?_append_right (Nat.le_add_right _ _), Nat.add_sub_cancel_left]; exact hx
    have h3 := hD.1 _ _ _ _ h1 h2 rfl
    have h4 := (List.getElem?_eq_some_iff.mp hj).1
    omega
  · exact absurd (hV i x hx).lt (Nat.not_lt.mpr z)
theorem lw_left (hD : va_D A (Wd q k S ++ V)) : va_D A (Wd q k S) := by
  refine ⟨fun i j x y hi hj => hD.1 i j x y ?_ ?_, fun i x hi => hD.2 i x ?_⟩
  · rw [List.getElem?_append_left (List.getElem?_eq_some_iff.mp hi).1]; exact hi
  · rw [List.getElem?_append_left (List.getElem?_eq_some_iff.mp hj).1]; exact hj
  · rw [List.getElem?_append_left (List.getElem?_eq_some_iff.mp hi).1]; exact hi
theorem law_i {Z : Int32 × St} (ok : Sok sp) (hsame : ∀ (A : Nat → Prop) (S T : St), va_D A (Wd q k S) → va_D A (Wd q k T)) (fx : CallFix p m c cc nL s args Ts own) (hM : MetI Wd sp l y ws rm (.ref b :: As) D q k S H.size Z) (cw : CallW R s args own C index y bytes maxL ret ws rm 0 0 n) (hK : va_K D vwCl (TYS k) s) (hP : va_P D vwCl (Wd q k S) H) (hV : va_P D vwCl V H) (hD : va_D A (Wd q k S ++ V)) (hS : va_S A s.heap H locs) (hA : ∀ a, s.heap.size ≤ a → A a) (hsp : sp q A s) (hrecv : ∃ cell : Cell, H[b]? = some cell ∧ cell.vm.isStatics = false ∧ s.vm.findClass C = some cell.cls) (hn : As.length = n) (hsize : ls.size = nL) {st0 : List Value} (hstack : st0 = As.reverse ++ .ref b :: rest) (hW : (rest.map fun v => v.category).sum ≤ 8) (hdg : decode cc pc = .ok (.invokevirtual index, 3)) (hf : cells ≤ R.cells ∧ slots ≤ R.slots)
    (kk : ∀ (H1 : Heap) (locs1 : List Loc), va_P D vwCl (Wd q k Z.2) H1 → va_P D vwCl V H1 → va_S A s.heap H1 locs1 → W p l e R s m args below meth c H1 locs1 cells slots Q (F0 m (pc + 3) ls (.int Z.1 :: rest))) : W p l e R s m args below meth c H locs cells slots Q (F0 m pc ls st0) := by
  refine va_calli (va_runV (As := As) (rest := rest) fx hM cw ⟨fr_blind ok, hrecv, pre_at ok hsame hK hP (lw_left hD) hS hA hsp⟩ rfl hn hsize hstack (lv_room hW) hdg hf) hS (fun a _ h => free_at (lw_left hD) hS hA a h) (free_at (lw_left hD) hS hA) (fun r u t H1 locs1 ht hvm hw hB hz1 hk1 hS1 => ?_)
  cases hw
  exact kk H1 locs1 (by rw [← ht]; exact hB) (lw_stay hD hV hk1) hS1
theorem law_l {Z : Int64 × St} (ok : Sok sp) (hsame : ∀ (A : Nat → Prop) (S T : St), va_D A (Wd q k S) → va_D A (Wd q k T)) (fx : CallFix p m c cc nL s args Ts own) (hM : MetL Wd sp l y ws rm (.ref b :: As) D q k S H.size Z) (cw : CallW R s args own C index y bytes maxL ret ws rm 0 0 n) (hK : va_K D vwCl (TYS k) s) (hP : va_P D vwCl (Wd q k S) H) (hV : va_P D vwCl V H) (hD : va_D A (Wd q k S ++ V)) (hS : va_S A s.heap H locs) (hA : ∀ a, s.heap.size ≤ a → A a) (hsp : sp q A s) (hrecv : ∃ cell : Cell, H[b]? = some cell ∧ cell.vm.isStatics = false ∧ s.vm.findClass C = some cell.cls) (hn : As.length = n) (hsize : ls.size = nL) {st0 : List Value} (hstack : st0 = As.reverse ++ .ref b :: rest) (hW : (rest.map fun v => v.category).sum ≤ 8) (hdg : decode cc pc = .ok (.invokevirtual index, 3)) (hf : cells ≤ R.cells ∧ slots ≤ R.slots)
    (kk : ∀ (H1 : Heap) (locs1 : List Loc), va_P D vwCl (Wd q k Z.2) H1 → va_P D vwCl V H1 → va_S A s.heap H1 locs1 → W p l e R s m args below meth c H1 locs1 cells slots Q (F0 m (pc + 3) ls (.long Z.1 :: rest))) : W p l e R s m args below meth c H locs cells slots Q (F0 m pc ls st0) := by
  refine va_calll (va_runV (As := As) (rest := rest) fx hM cw ⟨fr_blind ok, hrecv, pre_at ok hsame hK hP (lw_left hD) hS hA hsp⟩ rfl hn hsize hstack (lv_room hW) hdg hf) hS (fun a _ h => free_at (lw_left hD) hS hA a h) (free_at (lw_left hD) hS hA) (fun r u t H1 locs1 ht hvm hw hB hz1 hk1 hS1 => ?_)
  cases hw
  exact kk H1 locs1 (by rw [← ht]; exact hB) (lw_stay hD hV hk1) hS1
end LAWCALLS
def AL (s : State) : Nat → Prop := fun a => s.heap.size ≤ a
/-- what holds all along the law -/
def LC (p : Program) (s : State) (m : MethodId) (c : Code) (b L : Nat) (xs : Nat → Int32) (D : va_G) (q q2 : Nat → Nat) (k : CI) : Prop :=
  p.tables.exec = Jvm.exec ∧ c.code = code ∧ c.maxLocals = 4 ∧ s.vm.findClass RL = some m.cls ∧ (∀ w ∈ lw_tbl, w.before #[Value.ref b] s = true) ∧ va_X b L xs s s.heap ∧ b < s.heap.size ∧ va_K D vwCl (TYS k) s ∧ (∀ S T, va_D (AL s) (W_X q k S ++ W_M q2 k T)) ∧ (∀ S T, va_D (AL s) (W_M q2 k T ++ W_X q k S)) ∧ SX q (AL s) s ∧ L ≤ 3072
theorem lw_in {i L : Nat} (j : Nat) (hi : i + 6 ≤ L) (hL : L ≤ 3072) (hj : j < 6) : vp_in (nI (i + j)) L := vp_in_nI (by omega) (by omega)
theorem lw_p {i : Nat} (j : Nat) {v : Int32} (h : v = nI j) : nI (i + j) = nI i + v := by rw [h, nI_add]
theorem lw_cmp (x : Int64) : lg_cmp x x = 0 := (lg_cmp_eq x x).mpr rfl
