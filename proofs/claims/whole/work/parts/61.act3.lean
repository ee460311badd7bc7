section ACT2
variable {a k d : Nat} {S0 T0 : St}
/-- AG for a kind and an act -/
def AK (a : Nat) (S0 T0 : St) (c f ac : Nat) (M : Nat → Int32 → Int32 → St → Option (Int32 × St)) (g : Nat) (j dd : Nat) (x : Int32) : Prop := AG a c S0 T0 (fun S => f_X2_from f (nI j) (nI ac) x (nI dd) S) (M g (nI j) x)
theorem ag_p0 (f g dd : Nat) (x : Int32) (hd : dd < 40) : AG a 1 S0 T0 (fun S => f_X2_from (f + 1) (nI 0) (nI 0) x (nI dd) S) (f_X12_paysIn (g + 1) (nI 0) x) := by
  have base : AG a 0 S0 T0 (fun S => some (x + S.1 34 4, S)) (fun T => some (x + T.1 0 52, T)) := by
    intro r S T hr hD
    exact ⟨x + nI a, S, T, r, by show some (x + S.1 34 4, S) = _; rw [hD.1], by show some (x + T.1 0 52, T) = _; rw [hD.2.1], by omega, hD⟩
  exact ag_cg (ag_note 1 base) (fun S => xf_1 hd S) (fun T => mf_1 T)
theorem ag_p1 (f g dd : Nat) (x : Int32) (hd : dd + 1 < 40) : AG a 2 S0 T0 (fun S => f_X2_from (f + 2) (nI 1) (nI 0) x (nI dd) S) (f_X12_paysIn (g + 2) (nI 1) x) :=
  ag_cg (ag_note 20 (ag_map (fun r => r + 3) (ag_p0 f g (dd + 1) x hd))) (fun S => xf_20 (by omega) S) (fun T => mf_20 T)
theorem ag_p (j f g dd : Nat) (x : Int32) (hj : j < 8) (hd : dd + 1 < 40) : AG a 2 S0 T0 (fun S => f_X2_from (f + 2) (nI j) (nI 0) x (nI dd) S) (f_X12_paysIn (g + 4) (nI j) x) := by
  have h0 : ∀ g, AG a 2 S0 T0 (fun S => f_X2_from (f + 2) (nI 0) (nI 0) x (nI dd) S) (f_X12_paysIn (g + 1) (nI 0) x) := fun g => ag_mono (ag_p0 (f + 1) g dd x (by omega)) (by omega)
  have h2 : ∀ g, AG a 2 S0 T0 (fun S => f_X2_from (f + 2) (nI 2) (nI 0) x (nI dd) S) (f_X12_paysIn (g + 2) (nI 2) x) := fun g => ag_cg (h0 g) (fun S => from_same 2 0 0 (by omega) (by decide) (by decide) (by decide) rfl rfl S) (fun T => mi_02 T)
  have h3 : ∀ g, AG a 2 S0 T0 (fun S => f_X2_from (f + 2) (nI 3) (nI 0) x (nI dd) S) (f_X12_paysIn (g + 3) (nI 3) x) := fun g => ag_cg (h2 g) (fun S => from_same 3 2 0 (by omega) (by decide) (by decide) (by decide) rfl rfl S) (fun T => mi_03 T)
  rcases lt8 hj with q | q | q | q | q | q | q | q <;> subst q
  · exact h0 (g + 3)
  · exact ag_p1 f (g + 2) dd x hd
  · exact h2 (g + 2)
  · exact h3 (g + 1)
  · exact ag_cg (h0 (g + 2)) (fun S => from_same 4 0 0 (by omega) (by decide) (by decide) (by decide) rfl rfl S) (fun T => mi_04 T)
  · exact ag_cg (ag_p1 f (g + 1) dd x hd) (fun S => from_same 5 1 0 (by omega) (by decide) (by decide) (by decide) rfl rfl S) (fun T => mi_05 T)
  · have h4 : AG a 1 S0 T0 (fun S => f_X2_from (f + 1) (nI 4) (nI 0) x (nI (dd + 1)) S) (f_X12_paysIn (g + 3) (nI 4) x) := ag_cg (ag_p0 f (g + 1) (dd + 1) x (by omega)) (fun S => from_same 4 0 0 (by omega) (by decide) (by decide) (by decide) rfl rfl S) (fun T => mi_04 T)
    exact ag_cg (ag_note 70 (ag_map (fun r => r * 2) h4)) (fun S => xf_70 (by omega) S) (fun T => mf_70 T)
  · exact ag_cg (h3 g) (fun S => from_same 7 3 0 (by omega) (by decide) (by decide) (by decide) rfl rfl S) (fun T => mi_07 T)
theorem ag_s0 (f g dd : Nat) (x : Int32) (hd : dd < 40) : AG a 1 S0 T0 (fun S => f_X2_from (f + 1) (nI 0) (nI 2) x (nI dd) S) (f_X12_swapsIn (g + 1) (nI 0) x) := by
  have base : AG a 0 S0 T0 (fun S => some (x ^^^ S.1 34 4, S)) (fun T => some (x ^^^ T.1 0 52, T)) := by
    intro r S T hr hD
    exact ⟨x ^^^ nI a, S, T, r, by show some (x ^^^ S.1 34 4, S) = _; rw [hD.1], by show some (x ^^^ T.1 0 52, T) = _; rw [hD.2.1], by omega, hD⟩
  exact ag_cg (ag_note 11 base) (fun S => xf_11 hd S) (fun T => mf_11 T)
theorem ag_s3 (f g dd : Nat) (x : Int32) (hd : dd + 1 < 40) : AG a 2 S0 T0 (fun S => f_X2_from (f + 2) (nI 3) (nI 2) x (nI dd) S) (f_X12_swapsIn (g + 3) (nI 3) x) := by
  have h2 : AG a 1 S0 T0 (fun S => f_X2_from (f + 1) (nI 2) (nI 2) x (nI (dd + 1)) S) (f_X12_swapsIn (g + 2) (nI 2) x) := ag_cg (ag_s0 f g (dd + 1) x (by omega)) (fun S => from_same 2 0 2 (by omega) (by decide) (by decide) (by decide) rfl rfl S) (fun T => mi_22 T)
  exact ag_cg (ag_note 40 (ag_map (fun r => r * 3) h2)) (fun S => xf_40 (by omega) S) (fun T => mf_40 T)
theorem ag_s4 (hC : Cx a k S0 T0) (f g dd : Nat) (x : Int32) (hd : dd + 2 < 40) : AG a 4 S0 T0 (fun S => f_X2_from (f + 3) (nI 4) (nI 2) x (nI dd) S) (f_X12_swapsIn (g + 2) (nI 4) x) := by
  have hp : AG a 2 S0 T0 (f_X2_own (f_X2_from (f + 2)) (nI 0) 2 (nI (dd + 1))) (ownM (fun k => f_X12_paysIn 8 k 2)) := ag_own hC (ag_p k f 4 (dd + 1) 2 hC.2.1 (by omega))
  exact ag_cg (ag_note 50 (ag_bin (fun r r2 => r - r2) (ag_s0 (f + 1) g (dd + 1) x (by omega)) hp)) (fun S => xf_50 (by omega) S) (fun T => mf_50 T)
theorem ag_s (hC : Cx a k S0 T0) (j f g dd : Nat) (x : Int32) (hj : j < 8) (hd : dd + 2 < 40) : AG a 4 S0 T0 (fun S => f_X2_from (f + 3) (nI j) (nI 2) x (nI dd) S) (f_X12_swapsIn (g + 4) (nI j) x) := by
  have h1 : ∀ g, AG a 1 S0 T0 (fun S => f_X2_from (f + 3) (nI 1) (nI 2) x (nI dd) S) (f_X12_swapsIn (g + 2) (nI 1) x) := fun g => ag_cg (ag_s0 (f + 2) g dd x (by omega)) (fun S => from_same 1 0 2 (by omega) (by decide) (by decide) (by decide) rfl rfl S) (fun T => mi_21 T)
  rcases lt8 hj with q | q | q | q | q | q | q | q <;> subst q
  · exact ag_mono (ag_s0 (f + 2) (g + 3) dd x (by omega)) (by omega)
  · exact ag_mono (h1 (g + 2)) (by omega)
  · exact ag_mono (ag_cg (ag_s0 (f + 2) (g + 2) dd x (by omega)) (fun S => from_same 2 0 2 (by omega) (by decide) (by decide) (by decide) rfl rfl S) (fun T => mi_22 T)) (by omega)
  · exact ag_mono (ag_s3 (f + 1) (g + 1) dd x (by omega)) (by omega)
  · exact ag_s4 hC f (g + 2) dd x hd
  · exact ag_mono (ag_cg (h1 (g + 1)) (fun S => from_same 5 1 2 (by omega) (by decide) (by decide) (by decide) rfl rfl S) (fun T => mi_25 T)) (by omega)
  · exact ag_cg (ag_s4 hC f (g + 1) dd x hd) (fun S => from_same 6 4 2 (by omega) (by decide) (by decide) (by decide) rfl rfl S) (fun T => mi_26 T)
  · exact ag_mono (ag_cg (ag_s3 (f + 1) g dd x (by omega)) (fun S => from_same 7 3 2 (by omega) (by decide) (by decide) (by decide) rfl rfl S) (fun T => mi_27 T)) (by omega)
theorem ag_c0 (hC : Cx a k S0 T0) (f g dd : Nat) (x : Int32) (hd : dd + 3 < 40) : AG a 3 S0 T0 (fun S => f_X2_from (f + 3) (nI 0) (nI 1) x (nI dd) S) (f_X12_changesIn (g + 1) (nI 0) x) := by
  have hp : AG a 2 S0 T0 (f_X2_own (f_X2_from (f + 2)) (nI 0) x (nI (dd + 1))) (ownM (fun k => f_X12_paysIn 8 k x)) := ag_own hC (ag_p k f 4 (dd + 1) x hC.2.1 (by omega))
  exact ag_cg (ag_note 10 (ag_map (fun r => r * 2) hp)) (fun S => xf_10 (by omega) S) (fun T => mf_10 T)
theorem ag_c2 (hC : Cx a k S0 T0) (f g dd : Nat) (x : Int32) (hd : dd + 4 < 40) : AG a 4 S0 T0 (fun S => f_X2_from (f + 4) (nI 2) (nI 1) x (nI dd) S) (f_X12_changesIn (g + 2) (nI 2) x) :=
  ag_cg (ag_note 30 (ag_map (fun r => -r) (ag_c0 hC f g (dd + 1) x (by omega)))) (fun S => xf_30 (by omega) S) (fun T => mf_30 T)
theorem ag_c3 (hC : Cx a k S0 T0) (f g dd : Nat) (x : Int32) (hd : dd + 5 < 40) : AG a 5 S0 T0 (fun S => f_X2_from (f + 5) (nI 3) (nI 1) x (nI dd) S) (f_X12_changesIn (g + 3) (nI 3) x) :=
  ag_cg (ag_note 41 (ag_c2 hC f g (dd + 1) (x + 1) (by omega))) (fun S => xf_41 (by omega) S) (fun T => mf_41 T)
theorem ag_c7 (hC : Cx a k S0 T0) (f g dd : Nat) (x : Int32) (hd : dd + 6 < 40) : AG a 10 S0 T0 (fun S => f_X2_from (f + 6) (nI 7) (nI 1) x (nI dd) S) (f_X12_changesIn (g + 4) (nI 7) x) := by
  have hs : AG a 4 S0 T0 (f_X2_own (f_X2_from (f + 5)) (nI 2) 2 (nI (dd + 1))) (ownM (fun k => f_X12_swapsIn 8 k 2)) := ag_own hC (ag_s hC k (f + 2) 4 (dd + 1) 2 hC.2.1 (by omega))
  exact ag_cg (ag_note 80 (ag_bin (fun r r2 => r + r2) (ag_c3 hC f g (dd + 1) x (by omega)) hs)) (fun S => xf_80 (by omega) S) (fun T => mf_80 T)
theorem ag_c (hC : Cx a k S0 T0) (j f g dd : Nat) (x : Int32) (hj : j < 8) (hd : dd + 6 < 40) : AG a 10 S0 T0 (fun S => f_X2_from (f + 6) (nI j) (nI 1) x (nI dd) S) (f_X12_changesIn (g + 4) (nI j) x) := by
  have b1 : ∀ g, AG a 3 S0 T0 (fun S => f_X2_from (f + 6) (nI 1) (nI 1) x (nI dd) S) (f_X12_changesIn (g + 2) (nI 1) x) := fun g => ag_cg (ag_c0 hC (f + 3) g dd x (by omega)) (fun S => from_same 1 0 1 (by omega) (by decide) (by decide) (by decide) rfl rfl S) (fun T => mi_11 T)
  have b4 : ∀ g, AG a 3 S0 T0 (fun S => f_X2_from (f + 6) (nI 4) (nI 1) x (nI dd) S) (f_X12_changesIn (g + 2) (nI 4) x) := fun g => ag_cg (ag_c0 hC (f + 3) g dd x (by omega)) (fun S => from_same 4 0 1 (by omega) (by decide) (by decide) (by decide) rfl rfl S) (fun T => mi_14 T)
  rcases lt8 hj with q | q | q | q | q | q | q | q <;> subst q
  · exact ag_mono (ag_c0 hC (f + 3) (g + 3) dd x (by omega)) (by omega)
  · exact ag_mono (b1 (g + 2)) (by omega)
  · exact ag_mono (ag_c2 hC (f + 2) (g + 2) dd x (by omega)) (by omega)
  · exact ag_mono (ag_c3 hC (f + 1) (g + 1) dd x (by omega)) (by omega)
  · exact ag_mono (b4 (g + 2)) (by omega)
  · exact ag_mono (ag_cg (b1 (g + 1)) (fun S => from_same 5 1 1 (by omega) (by decide) (by decide) (by decide) rfl rfl S) (fun T => mi_15 T)) (by omega)
  · exact ag_mono (ag_cg (b4 (g + 1)) (fun S => from_same 6 4 1 (by omega) (by decide) (by decide) (by decide) rfl rfl S) (fun T => mi_16 T)) (by omega)
  · exact ag_c7 hC f g dd x hd
theorem ag_t0 (hC : Cx a k S0 T0) (f g dd : Nat) (x : Int32) (hd : dd + 8 < 40) : AG a 15 S0 T0 (fun S => f_X2_from (f + 7) (nI 0) (nI 3) x (nI dd) S) (f_X12_tellsIn (g + 1) (nI 0) x) := by
  have hp : AG a 10 S0 T0 (f_X2_own (f_X2_from (f + 6)) (nI 1) x (nI (dd + 1))) (ownM (fun k => f_X12_changesIn 8 k x)) := ag_own hC (ag_c hC k f 4 (dd + 1) x hC.2.1 (by omega))
  have hs : AG a 4 S0 T0 (f_X2_own (f_X2_from (f + 6)) (nI 2) 1 (nI (dd + 1))) (ownM (fun k => f_X12_swapsIn 8 k 1)) := ag_own hC (ag_s hC k (f + 3) 4 (dd + 1) 1 hC.2.1 (by omega))
  exact ag_cg (ag_note 2 (ag_bin (fun r r2 => r - r2) hp hs)) (fun S => xf_2 (by omega) S) (fun T => mf_2 T)
theorem ag_t (hC : Cx a k S0 T0) (j f g dd : Nat) (x : Int32) (hj : j < 8) (hd : dd + 9 < 40) : AG a 16 S0 T0 (fun S => f_X2_from (f + 8) (nI j) (nI 3) x (nI dd) S) (f_X12_tellsIn (g + 4) (nI j) x) := by
  have b1 : ∀ (f g dd : Nat), dd + 8 < 40 → AG a 15 S0 T0 (fun S => f_X2_from (f + 7) (nI 1) (nI 3) x (nI dd) S) (f_X12_tellsIn (g + 2) (nI 1) x) := fun f g dd hd => ag_cg (ag_t0 hC f g dd x hd) (fun S => from_same 1 0 3 (by omega) (by decide) (by decide) (by decide) rfl rfl S) (fun T => mi_31 T)
  have b2 : ∀ (f g dd : Nat), dd + 8 < 40 → AG a 15 S0 T0 (fun S => f_X2_from (f + 7) (nI 2) (nI 3) x (nI dd) S) (f_X12_tellsIn (g + 2) (nI 2) x) := fun f g dd hd => ag_cg (ag_t0 hC f g dd x hd) (fun S => from_same 2 0 3 (by omega) (by decide) (by decide) (by decide) rfl rfl S) (fun T => mi_32 T)
  have b4 : ∀ (f g dd : Nat), dd + 8 < 40 → AG a 15 S0 T0 (fun S => f_X2_from (f + 7) (nI 4) (nI 3) x (nI dd) S) (f_X12_tellsIn (g + 2) (nI 4) x) := fun f g dd hd => ag_cg (ag_t0 hC f g dd x hd) (fun S => from_same 4 0 3 (by omega) (by decide) (by decide) (by decide) rfl rfl S) (fun T => mi_34 T)
  have b3 : ∀ (f g dd : Nat), dd + 8 < 40 → AG a 15 S0 T0 (fun S => f_X2_from (f + 7) (nI 3) (nI 3) x (nI dd) S) (f_X12_tellsIn (g + 3) (nI 3) x) := fun f g dd hd => ag_cg (b2 f g dd hd) (fun S => from_same 3 2 3 (by omega) (by decide) (by decide) (by decide) rfl rfl S) (fun T => mi_33 T)
  rcases lt8 hj with q | q | q | q | q | q | q | q <;> subst q
  · exact ag_mono (ag_t0 hC (f + 1) (g + 3) dd x (by omega)) (by omega)
  · exact ag_mono (b1 (f + 1) (g + 2) dd (by omega)) (by omega)
  · exact ag_mono (b2 (f + 1) (g + 2) dd (by omega)) (by omega)
  · exact ag_mono (b3 (f + 1) (g + 1) dd (by omega)) (by omega)
  · exact ag_mono (b4 (f + 1) (g + 2) dd (by omega)) (by omega)
  · exact ag_cg (ag_note 60 (ag_map (fun r => r ^^^ 5) (b1 f (g + 1) (dd + 1) (by omega)))) (fun S => xf_60 (by omega) S) (fun T => mf_60 T)
  · exact ag_mono (ag_cg (b4 (f + 1) (g + 1) dd (by omega)) (fun S => from_same 6 4 3 (by omega) (by decide) (by decide) (by decide) rfl rfl S) (fun T => mi_36 T)) (by omega)
  · exact ag_cg (ag_note 81 (ag_map (fun r => r - 1) (b3 f g (dd + 1) (by omega)))) (fun S => xf_81 (by omega) S) (fun T => mf_81 T)
end ACT2
