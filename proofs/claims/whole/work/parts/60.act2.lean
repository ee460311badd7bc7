section ACTE
theorem jb2_id {A : Option (Int32 × St)} : jx_b2 A (fun r S => some (r, S)) = A := by
  cases A with
  | none => rfl
  | some z => rfl
theorem from_same (j u ac : Nat) {f dd : Nat} {x : Int32} (hd : dd < 40) (hj : j < 8) (hu : u < 8) (ha : ac < 4) (e1 : tat j ac = tat u ac) (e2 : tbd j ac = tbd u ac) (S : St) : f_X2_from (f + 1) (nI j) (nI ac) x (nI dd) S = f_X2_from (f + 1) (nI u) (nI ac) x (nI dd) S := by
  rw [from_eq hd hj ha, from_eq hd hu ha, e1, e2]
variable {rc : Int32 → Int32 → Int32 → Int32 → St → Option (Int32 × St)} {u x d : Int32}
theorem xr_1 (S : St) : f_X2_run rc (nI 1) u x d S = some (x + S.1 34 4, S) := rfl
theorem xf_1 {f dd : Nat} {x : Int32} (hd : dd < 40) (S : St) : f_X2_from (f + 1) (nI 0) (nI 0) x (nI dd) S = jx_b (f_X2_note 1 S) (fun S => some (x + S.1 34 4, S)) := by
  rw [from_eq hd (by decide) (by decide)]
  show jx_b (f_X2_note (nI 1) S) (fun S => jx_b2 (f_X2_run (f_X2_from f) (nI 1) (st_ABOVE 0) x (nI (dd + 1)) S) (fun r S => some (r, S))) = _
  simp only [jb2_id, xr_1]
  rfl
theorem mf_1 {g : Nat} {x : Int32} (T : St) : f_X12_paysIn (g + 1) (nI 0) x T = jx_b (f_X12_runs 1 T) (fun T => some (x + T.1 0 52, T)) := rfl
theorem xr_20 (S : St) : f_X2_run rc (nI 20) u x d S = jx_b2 (rc u (nI 0) x d S) (fun r S => some (r + 3, S)) := rfl
theorem xf_20 {f dd : Nat} {x : Int32} (hd : dd < 40) (S : St) : f_X2_from (f + 1) (nI 1) (nI 0) x (nI dd) S = jx_b (f_X2_note 20 S) (fun S => jx_b2 (f_X2_from f (nI 0) (nI 0) x (nI (dd + 1)) S) (fun r S => some (r + 3, S))) := by
  rw [from_eq hd (by decide) (by decide)]
  show jx_b (f_X2_note (nI 20) S) (fun S => jx_b2 (f_X2_run (f_X2_from f) (nI 20) (nI 0) x (nI (dd + 1)) S) (fun r S => some (r, S))) = _
  simp only [jb2_id, xr_20]
  rfl
theorem mf_20 {g : Nat} {x : Int32} (T : St) : f_X12_paysIn (g + 1) (nI 1) x T = jx_b (f_X12_runs 20 T) (fun T => jx_b2 (f_X12_paysIn g (nI 0) x T) (fun r T => some (r + 3, T))) := rfl
theorem xr_70 (S : St) : f_X2_run rc (nI 70) u x d S = jx_b2 (rc u (nI 0) x d S) (fun r S => some (r * 2, S)) := rfl
theorem xf_70 {f dd : Nat} {x : Int32} (hd : dd < 40) (S : St) : f_X2_from (f + 1) (nI 6) (nI 0) x (nI dd) S = jx_b (f_X2_note 70 S) (fun S => jx_b2 (f_X2_from f (nI 4) (nI 0) x (nI (dd + 1)) S) (fun r S => some (r * 2, S))) := by
  rw [from_eq hd (by decide) (by decide)]
  show jx_b (f_X2_note (nI 70) S) (fun S => jx_b2 (f_X2_run (f_X2_from f) (nI 70) (nI 4) x (nI (dd + 1)) S) (fun r S => some (r, S))) = _
  simp only [jb2_id, xr_70]
  rfl
theorem mf_70 {g : Nat} {x : Int32} (T : St) : f_X12_paysIn (g + 1) (nI 6) x T = jx_b (f_X12_runs 70 T) (fun T => jx_b2 (f_X12_paysIn g (nI 4) x T) (fun r T => some (r * 2, T))) := rfl
theorem xr_11 (S : St) : f_X2_run rc (nI 11) u x d S = some (x ^^^ S.1 34 4, S) := rfl
theorem xf_11 {f dd : Nat} {x : Int32} (hd : dd < 40) (S : St) : f_X2_from (f + 1) (nI 0) (nI 2) x (nI dd) S = jx_b (f_X2_note 11 S) (fun S => some (x ^^^ S.1 34 4, S)) := by
  rw [from_eq hd (by decide) (by decide)]
  show jx_b (f_X2_note (nI 11) S) (fun S => jx_b2 (f_X2_run (f_X2_from f) (nI 11) (st_ABOVE 0) x (nI (dd + 1)) S) (fun r S => some (r, S))) = _
  simp only [jb2_id, xr_11]
  rfl
theorem mf_11 {g : Nat} {x : Int32} (T : St) : f_X12_swapsIn (g + 1) (nI 0) x T = jx_b (f_X12_runs 11 T) (fun T => some (x ^^^ T.1 0 52, T)) := rfl
theorem xr_40 (S : St) : f_X2_run rc (nI 40) u x d S = jx_b2 (rc u (nI 2) x d S) (fun r S => some (r * 3, S)) := rfl
theorem xf_40 {f dd : Nat} {x : Int32} (hd : dd < 40) (S : St) : f_X2_from (f + 1) (nI 3) (nI 2) x (nI dd) S = jx_b (f_X2_note 40 S) (fun S => jx_b2 (f_X2_from f (nI 2) (nI 2) x (nI (dd + 1)) S) (fun r S => some (r * 3, S))) := by
  rw [from_eq hd (by decide) (by decide)]
  show jx_b (f_X2_note (nI 40) S) (fun S => jx_b2 (f_X2_run (f_X2_from f) (nI 40) (nI 2) x (nI (dd + 1)) S) (fun r S => some (r, S))) = _
  simp only [jb2_id, xr_40]
  rfl
theorem mf_40 {g : Nat} {x : Int32} (T : St) : f_X12_swapsIn (g + 1) (nI 3) x T = jx_b (f_X12_runs 40 T) (fun T => jx_b2 (f_X12_swapsIn g (nI 2) x T) (fun r T => some (r * 3, T))) := rfl
theorem xr_50 (S : St) : f_X2_run rc (nI 50) u x d S = jx_b2 (rc u (nI 2) x d S) (fun r S => jx_b2 (f_X2_own rc (nI 0) 2 d S) (fun r2 S => some (r - r2, S))) := rfl
theorem xf_50 {f dd : Nat} {x : Int32} (hd : dd < 40) (S : St) : f_X2_from (f + 1) (nI 4) (nI 2) x (nI dd) S = jx_b (f_X2_note 50 S) (fun S => jx_b2 (f_X2_from f (nI 0) (nI 2) x (nI (dd + 1)) S) (fun r S => jx_b2 (f_X2_own (f_X2_from f) (nI 0) 2 (nI (dd + 1)) S) (fun r2 S => some (r - r2, S)))) := by
  rw [from_eq hd (by decide) (by decide)]
  show jx_b (f_X2_note (nI 50) S) (fun S => jx_b2 (f_X2_run (f_X2_from f) (nI 50) (nI 0) x (nI (dd + 1)) S) (fun r S => some (r, S))) = _
  simp only [jb2_id, xr_50]
  rfl
theorem mf_50 {g : Nat} {x : Int32} (T : St) : f_X12_swapsIn (g + 1) (nI 4) x T = jx_b (f_X12_runs 50 T) (fun T => jx_b2 (f_X12_swapsIn g (nI 0) x T) (fun r T => jx_b2 (ownM (fun k => f_X12_paysIn 8 k 2) T) (fun r2 T => some (r - r2, T)))) := by
  show jx_b (f_X12_runs 50 T) (fun T => jx_b2 (f_X12_swapsIn g (nI 0) x T) (fun r T => jx_a (T.1 0 52) 50 (jx_b2 (f_X12_paysIn 8 (T.1 29 (Int32.toNatClampNeg (T.1 0 52))) 2 T) (fun r2 T => some (r - r2, T))))) = _
  simp only [ja_b2, jb2_id]
  rfl
theorem xr_10 (S : St) : f_X2_run rc (nI 10) u x d S = jx_b2 (f_X2_own rc (nI 0) x d S) (fun r S => some (r * 2, S)) := rfl
theorem xf_10 {f dd : Nat} {x : Int32} (hd : dd < 40) (S : St) : f_X2_from (f + 1) (nI 0) (nI 1) x (nI dd) S = jx_b (f_X2_note 10 S) (fun S => jx_b2 (f_X2_own (f_X2_from f) (nI 0) x (nI (dd + 1)) S) (fun r S => some (r * 2, S))) := by
  rw [from_eq hd (by decide) (by decide)]
  show jx_b (f_X2_note (nI 10) S) (fun S => jx_b2 (f_X2_run (f_X2_from f) (nI 10) (st_ABOVE 0) x (nI (dd + 1)) S) (fun r S => some (r, S))) = _
  simp only [jb2_id, xr_10]
  rfl
theorem mf_10 {g : Nat} {x : Int32} (T : St) : f_X12_changesIn (g + 1) (nI 0) x T = jx_b (f_X12_runs 10 T) (fun T => jx_b2 (ownM (fun k => f_X12_paysIn 8 k x) T) (fun r T => some (r * 2, T))) := by
  show jx_b (f_X12_runs 10 T) (fun T => jx_a (T.1 0 52) 50 (jx_b2 (f_X12_paysIn 8 (T.1 29 (Int32.toNatClampNeg (T.1 0 52))) x T) (fun r T => some (r * 2, T)))) = _
  simp only [ja_b2, jb2_id]
  rfl
theorem xr_30 (S : St) : f_X2_run rc (nI 30) u x d S = jx_b2 (rc u (nI 1) x d S) (fun r S => some (-r, S)) := rfl
theorem xf_30 {f dd : Nat} {x : Int32} (hd : dd < 40) (S : St) : f_X2_from (f + 1) (nI 2) (nI 1) x (nI dd) S = jx_b (f_X2_note 30 S) (fun S => jx_b2 (f_X2_from f (nI 0) (nI 1) x (nI (dd + 1)) S) (fun r S => some (-r, S))) := by
  rw [from_eq hd (by decide) (by decide)]
  show jx_b (f_X2_note (nI 30) S) (fun S => jx_b2 (f_X2_run (f_X2_from f) (nI 30) (nI 0) x (nI (dd + 1)) S) (fun r S => some (r, S))) = _
  simp only [jb2_id, xr_30]
  rfl
theorem mf_30 {g : Nat} {x : Int32} (T : St) : f_X12_changesIn (g + 1) (nI 2) x T = jx_b (f_X12_runs 30 T) (fun T => jx_b2 (f_X12_changesIn g (nI 0) x T) (fun r T => some (-r, T))) := rfl
theorem xr_41 (S : St) : f_X2_run rc (nI 41) u x d S = rc u (nI 1) (x + 1) d S := by
  show jx_b2 (rc u (nI 1) (x + 1) d S) (fun r S => some (r, S)) = _
  rw [jb2_id]
theorem xf_41 {f dd : Nat} {x : Int32} (hd : dd < 40) (S : St) : f_X2_from (f + 1) (nI 3) (nI 1) x (nI dd) S = jx_b (f_X2_note 41 S) (fun S => f_X2_from f (nI 2) (nI 1) (x + 1) (nI (dd + 1)) S) := by
  rw [from_eq hd (by decide) (by decide)]
  show jx_b (f_X2_note (nI 41) S) (fun S => jx_b2 (f_X2_run (f_X2_from f) (nI 41) (nI 2) x (nI (dd + 1)) S) (fun r S => some (r, S))) = _
  simp only [jb2_id, xr_41]
  rfl
theorem mf_41 {g : Nat} {x : Int32} (T : St) : f_X12_changesIn (g + 1) (nI 3) x T = jx_b (f_X12_runs 41 T) (fun T => f_X12_changesIn g (nI 2) (x + 1) T) := by
  show jx_b (f_X12_runs 41 T) (fun T => jx_b2 (f_X12_changesIn g (nI 2) (x + 1) T) (fun r T => some (r, T))) = _
  simp only [ja_b2, jb2_id]
theorem xr_80 (S : St) : f_X2_run rc (nI 80) u x d S = jx_b2 (rc u (nI 1) x d S) (fun r S => jx_b2 (f_X2_own rc (nI 2) 2 d S) (fun r2 S => some (r + r2, S))) := rfl
theorem xf_80 {f dd : Nat} {x : Int32} (hd : dd < 40) (S : St) : f_X2_from (f + 1) (nI 7) (nI 1) x (nI dd) S = jx_b (f_X2_note 80 S) (fun S => jx_b2 (f_X2_from f (nI 3) (nI 1) x (nI (dd + 1)) S) (fun r S => jx_b2 (f_X2_own (f_X2_from f) (nI 2) 2 (nI (dd + 1)) S) (fun r2 S => some (r + r2, S)))) := by
  rw [from_eq hd (by decide) (by decide)]
  show jx_b (f_X2_note (nI 80) S) (fun S => jx_b2 (f_X2_run (f_X2_from f) (nI 80) (nI 3) x (nI (dd + 1)) S) (fun r S => some (r, S))) = _
  simp only [jb2_id, xr_80]
  rfl
theorem mf_80 {g : Nat} {x : Int32} (T : St) : f_X12_changesIn (g + 1) (nI 7) x T = jx_b (f_X12_runs 80 T) (fun T => jx_b2 (f_X12_changesIn g (nI 3) x T) (fun r T => jx_b2 (ownM (fun k => f_X12_swapsIn 8 k 2) T) (fun r2 T => some (r + r2, T)))) := by
  show jx_b (f_X12_runs 80 T) (fun T => jx_b2 (f_X12_changesIn g (nI 3) x T) (fun r T => jx_a (T.1 0 52) 50 (jx_b2 (f_X12_swapsIn 8 (T.1 29 (Int32.toNatClampNeg (T.1 0 52))) 2 T) (fun r2 T => some (r + r2, T))))) = _
  simp only [ja_b2, jb2_id]
  rfl
theorem xr_2 (S : St) : f_X2_run rc (nI 2) u x d S = jx_b2 (f_X2_own rc (nI 1) x d S) (fun r S => jx_b2 (f_X2_own rc (nI 2) 1 d S) (fun r2 S => some (r - r2, S))) := rfl
theorem xf_2 {f dd : Nat} {x : Int32} (hd : dd < 40) (S : St) : f_X2_from (f + 1) (nI 0) (nI 3) x (nI dd) S = jx_b (f_X2_note 2 S) (fun S => jx_b2 (f_X2_own (f_X2_from f) (nI 1) x (nI (dd + 1)) S) (fun r S => jx_b2 (f_X2_own (f_X2_from f) (nI 2) 1 (nI (dd + 1)) S) (fun r2 S => some (r - r2, S)))) := by
  rw [from_eq hd (by decide) (by decide)]
  show jx_b (f_X2_note (nI 2) S) (fun S => jx_b2 (f_X2_run (f_X2_from f) (nI 2) (st_ABOVE 0) x (nI (dd + 1)) S) (fun r S => some (r, S))) = _
  simp only [jb2_id, xr_2]
  rfl
theorem mf_2 {g : Nat} {x : Int32} (T : St) : f_X12_tellsIn (g + 1) (nI 0) x T = jx_b (f_X12_runs 2 T) (fun T => jx_b2 (ownM (fun k => f_X12_changesIn 8 k x) T) (fun r T => jx_b2 (ownM (fun k => f_X12_swapsIn 8 k 1) T) (fun r2 T => some (r - r2, T)))) := by
  show jx_b (f_X12_runs 2 T) (fun T => jx_a (T.1 0 52) 50 (jx_b2 (f_X12_changesIn 8 (T.1 29 (Int32.toNatClampNeg (T.1 0 52))) x T) (fun r T => jx_a (T.1 0 52) 50 (jx_b2 (f_X12_swapsIn 8 (T.1 29 (Int32.toNatClampNeg (T.1 0 52))) 1 T) (fun r2 T => some (r - r2, T)))))) = _
  simp only [ja_b2, jb2_id]
  rfl
theorem xr_60 (S : St) : f_X2_run rc (nI 60) u x d S = jx_b2 (rc u (nI 3) x d S) (fun r S => some (r ^^^ 5, S)) := rfl
theorem xf_60 {f dd : Nat} {x : Int32} (hd : dd < 40) (S : St) : f_X2_from (f + 1) (nI 5) (nI 3) x (nI dd) S = jx_b (f_X2_note 60 S) (fun S => jx_b2 (f_X2_from f (nI 1) (nI 3) x (nI (dd + 1)) S) (fun r S => some (r ^^^ 5, S))) := by
  rw [from_eq hd (by decide) (by decide)]
  show jx_b (f_X2_note (nI 60) S) (fun S => jx_b2 (f_X2_run (f_X2_from f) (nI 60) (nI 1) x (nI (dd + 1)) S) (fun r S => some (r, S))) = _
  simp only [jb2_id, xr_60]
  rfl
theorem mf_60 {g : Nat} {x : Int32} (T : St) : f_X12_tellsIn (g + 1) (nI 5) x T = jx_b (f_X12_runs 60 T) (fun T => jx_b2 (f_X12_tellsIn g (nI 1) x T) (fun r T => some (r ^^^ 5, T))) := rfl
theorem xr_81 (S : St) : f_X2_run rc (nI 81) u x d S = jx_b2 (rc u (nI 3) x d S) (fun r S => some (r - 1, S)) := rfl
theorem xf_81 {f dd : Nat} {x : Int32} (hd : dd < 40) (S : St) : f_X2_from (f + 1) (nI 7) (nI 3) x (nI dd) S = jx_b (f_X2_note 81 S) (fun S => jx_b2 (f_X2_from f (nI 3) (nI 3) x (nI (dd + 1)) S) (fun r S => some (r - 1, S))) := by
  rw [from_eq hd (by decide) (by decide)]
  show jx_b (f_X2_note (nI 81) S) (fun S => jx_b2 (f_X2_run (f_X2_from f) (nI 81) (nI 3) x (nI (dd + 1)) S) (fun r S => some (r, S))) = _
  simp only [jb2_id, xr_81]
  rfl
theorem mf_81 {g : Nat} {x : Int32} (T : St) : f_X12_tellsIn (g + 1) (nI 7) x T = jx_b (f_X12_runs 81 T) (fun T => jx_b2 (f_X12_tellsIn g (nI 3) x T) (fun r T => some (r - 1, T))) := rfl
theorem mi_02 {g : Nat} {x : Int32} (T : St) : f_X12_paysIn (g + 1) (nI 2) x T = f_X12_paysIn g (nI 0) x T := by
  show jx_b2 (f_X12_paysIn g (nI 0) x T) (fun r S => some (r, S)) = _
  rw [jb2_id]
theorem mi_03 {g : Nat} {x : Int32} (T : St) : f_X12_paysIn (g + 1) (nI 3) x T = f_X12_paysIn g (nI 2) x T := by
  show jx_b2 (f_X12_paysIn g (nI 2) x T) (fun r S => some (r, S)) = _
  rw [jb2_id]
theorem mi_04 {g : Nat} {x : Int32} (T : St) : f_X12_paysIn (g + 1) (nI 4) x T = f_X12_paysIn g (nI 0) x T := by
  show jx_b2 (f_X12_paysIn g (nI 0) x T) (fun r S => some (r, S)) = _
  rw [jb2_id]
theorem mi_05 {g : Nat} {x : Int32} (T : St) : f_X12_paysIn (g + 1) (nI 5) x T = f_X12_paysIn g (nI 1) x T := by
  show jx_b2 (f_X12_paysIn g (nI 1) x T) (fun r S => some (r, S)) = _
  rw [jb2_id]
theorem mi_07 {g : Nat} {x : Int32} (T : St) : f_X12_paysIn (g + 1) (nI 7) x T = f_X12_paysIn g (nI 3) x T := by
  show jx_b2 (f_X12_paysIn g (nI 3) x T) (fun r S => some (r, S)) = _
  rw [jb2_id]
theorem mi_11 {g : Nat} {x : Int32} (T : St) : f_X12_changesIn (g + 1) (nI 1) x T = f_X12_changesIn g (nI 0) x T := by
  show jx_b2 (f_X12_changesIn g (nI 0) x T) (fun r S => some (r, S)) = _
  rw [jb2_id]
theorem mi_14 {g : Nat} {x : Int32} (T : St) : f_X12_changesIn (g + 1) (nI 4) x T = f_X12_changesIn g (nI 0) x T := by
  show jx_b2 (f_X12_changesIn g (nI 0) x T) (fun r S => some (r, S)) = _
  rw [jb2_id]
theorem mi_15 {g : Nat} {x : Int32} (T : St) : f_X12_changesIn (g + 1) (nI 5) x T = f_X12_changesIn g (nI 1) x T := by
  show jx_b2 (f_X12_changesIn g (nI 1) x T) (fun r S => some (r, S)) = _
  rw [jb2_id]
theorem mi_16 {g : Nat} {x : Int32} (T : St) : f_X12_changesIn (g + 1) (nI 6) x T = f_X12_changesIn g (nI 4) x T := by
  show jx_b2 (f_X12_changesIn g (nI 4) x T) (fun r S => some (r, S)) = _
  rw [jb2_id]
theorem mi_21 {g : Nat} {x : Int32} (T : St) : f_X12_swapsIn (g + 1) (nI 1) x T = f_X12_swapsIn g (nI 0) x T := by
  show jx_b2 (f_X12_swapsIn g (nI 0) x T) (fun r S => some (r, S)) = _
  rw [jb2_id]
theorem mi_22 {g : Nat} {x : Int32} (T : St) : f_X12_swapsIn (g + 1) (nI 2) x T = f_X12_swapsIn g (nI 0) x T := by
  show jx_b2 (f_X12_swapsIn g (nI 0) x T) (fun r S => some (r, S)) = _
  rw [jb2_id]
theorem mi_25 {g : Nat} {x : Int32} (T : St) : f_X12_swapsIn (g + 1) (nI 5) x T = f_X12_swapsIn g (nI 1) x T := by
  show jx_b2 (f_X12_swapsIn g (nI 1) x T) (fun r S => some (r, S)) = _
  rw [jb2_id]
theorem mi_26 {g : Nat} {x : Int32} (T : St) : f_X12_swapsIn (g + 1) (nI 6) x T = f_X12_swapsIn g (nI 4) x T := by
  show jx_b2 (f_X12_swapsIn g (nI 4) x T) (fun r S => some (r, S)) = _
  rw [jb2_id]
theorem mi_27 {g : Nat} {x : Int32} (T : St) : f_X12_swapsIn (g + 1) (nI 7) x T = f_X12_swapsIn g (nI 3) x T := by
  show jx_b2 (f_X12_swapsIn g (nI 3) x T) (fun r S => some (r, S)) = _
  rw [jb2_id]
theorem mi_31 {g : Nat} {x : Int32} (T : St) : f_X12_tellsIn (g + 1) (nI 1) x T = f_X12_tellsIn g (nI 0) x T := by
  show jx_b2 (f_X12_tellsIn g (nI 0) x T) (fun r S => some (r, S)) = _
  rw [jb2_id]
theorem mi_32 {g : Nat} {x : Int32} (T : St) : f_X12_tellsIn (g + 1) (nI 2) x T = f_X12_tellsIn g (nI 0) x T := by
  show jx_b2 (f_X12_tellsIn g (nI 0) x T) (fun r S => some (r, S)) = _
  rw [jb2_id]
theorem mi_33 {g : Nat} {x : Int32} (T : St) : f_X12_tellsIn (g + 1) (nI 3) x T = f_X12_tellsIn g (nI 2) x T := by
  show jx_b2 (f_X12_tellsIn g (nI 2) x T) (fun r S => some (r, S)) = _
  rw [jb2_id]
theorem mi_34 {g : Nat} {x : Int32} (T : St) : f_X12_tellsIn (g + 1) (nI 4) x T = f_X12_tellsIn g (nI 0) x T := by
  show jx_b2 (f_X12_tellsIn g (nI 0) x T) (fun r S => some (r, S)) = _
  rw [jb2_id]
theorem mi_36 {g : Nat} {x : Int32} (T : St) : f_X12_tellsIn (g + 1) (nI 6) x T = f_X12_tellsIn g (nI 4) x T := by
  show jx_b2 (f_X12_tellsIn g (nI 4) x T) (fun r S => some (r, S)) = _
  rw [jb2_id]
end ACTE
