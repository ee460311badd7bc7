variable {S T : St}
theorem way_start : ∀ p, p < 4 → ((1 : Int32) <<< (nI p &&& 31) = nI (2 ^ p)) ∧ 2 ^ p < 16 ∧ cnt (2 ^ p) = 3 ∧ bit (2 ^ p) p = 1 := by decide +kernel
theorem qp_search {L : Lns} {sh fe p g x : Nat} (hL : TX 0 L S T) (hsh : sh ≤ 99) (hfe : fe ≤ 99) (hg : g < 4) (hp : p < 4) (hx : x ≤ 9999) (s1 : S.1 21 1 = nI sh) (s2 : S.1 21 2 = nI fe) (t1 : T.1 0 12 = nI sh) (t2 : T.1 0 13 = nI fe) (d : Int32) : ∃ S' T', f_X10_search (nI x) (nI p) (nI g) d S = some S' ∧ f_X12_goes 8 (lN x) (nI p) (nI g) ((1 : Int32) <<< (nI p &&& 31)) d (nI p + 1) (u1 T 0 41 0) = some T' ∧ KX S S' ∧ KM T T' ∧ Bok S' T' := by
  obtain ⟨w1, w2, w3, w4⟩ := way_start p hp
  unfold f_X10_search
  rw [zb_l, zb_l, zb_l, w1, nI_1]
  have k1 : KX S (u1 (u1 (u1 S 21 3 (nI g)) 21 4 (-1)) 21 5 0) := KX_tr (KX_tr (KX_u1 (by unfold okX; decide)) (KX_u1 (by unfold okX; decide))) (KX_u1 (by unfold okX; decide))
  have k2 : KM T (u1 T 0 41 0) := KM_u1 (by unfold okM; decide)
  obtain ⟨S', T', e1, e2, e3, e4, e5, e6⟩ := qp_goes hsh hfe hg 8 (2 ^ p) x p (p + 1) d (u1 (u1 (u1 S 21 3 (nI g)) 21 4 (-1)) 21 5 0) (u1 T 0 41 0) w2 (by omega) (by omega) (by rw [w3]; omega) (by rw [w3]; omega) hp w4 (TX_keep (by decide) hL k1 k2) (by rw [k1.2.2.1]; exact s1) (by rw [k1.2.2.2.1]; exact s2) (by rw [k2.2.1 12 (by decide)]; exact t1) (by rw [k2.2.1 13 (by decide)]; exact t2) (by simp only [rd_1, reduceIte, Nat.reduceEqDiff]) (Or.inl ⟨⟨by simp only [rd_1, reduceIte, Nat.reduceEqDiff], by simp only [rd_1, reduceIte], by simp only [rd_1, reduceIte]⟩, trivial⟩)
  rw [e1, zb_s]
  refine ⟨S', T', rfl, e2, KX_tr k1 e3, KM_tr k2 e4, ?_⟩
  rcases e6 with ⟨-, q⟩ | q
  · rw [w3] at q; exact absurd q.2 (by decide)
  · exact q
theorem ok_way {S' T' : St} {w : Int32} (h : RR RxC S' T') (hB : Bok S' T') : OK RxC (if w = 0 then some (S'.1 21 4, S') else some (S'.1 21 5, S')) (if w = 0 then some (Int64.toInt32 (T'.2 0 40), T') else some (T'.1 0 41, T')) := by
  obtain ⟨v, g, -, -, -, b1, b2, b3, b4⟩ := hB
  refine ok_if Iff.rfl (fun _ => ok_mk (by rw [b1, b2, lN_i]) h) (fun _ => ok_mk (by rw [b3, b4]) h)
theorem lt4 {x : Int32} (h : 0 ≤ x ∧ x ≤ 3) : ∃ j, j < 4 ∧ x = nI j := by
  obtain ⟨j, hj, -, e⟩ := ix_lit (k := 3) (by omega) rfl h
  exact ⟨j, hj, e⟩
theorem op_round (x a d w : Int32) (h : RR RxC S T) : OK RxC (f_X11_round x a d w S) (f_X12_round x a d w T) := by
  obtain ⟨n, m, t, c, e, d', hs, ht, hm, hp, hch, hi, hd, hh, hx0, hx1⟩ := id h
  obtain ⟨L, hL⟩ := hx0 (by decide)
  obtain ⟨sh, fe, hsh, hfe, s1, s2, t1, t2⟩ := Rm_sh hm
  unfold f_X11_round f_X12_round
  simp only [q_within, p_isSum, q_isLand, p_isLand, q_isDay, p_isDay, p_in, zb_2, ite01]
  refine ok_if Iff.rfl (fun _ => ok_r _ h) (fun h1 => ok_if Iff.rfl (fun _ => ok_r _ h) (fun h2 => ok_if Iff.rfl (fun _ => ok_r _ h) (fun h3 => ok_if Iff.rfl (fun _ => ok_r _ h) (fun h4 => ?_))))
  obtain ⟨j, hj, rfl⟩ := x9999 (nn h1)
  obtain ⟨p, hp4, rfl⟩ := lt4 (nn h2)
  obtain ⟨S', T', e1, e2, e3, e4, e5⟩ := qp_search hL hsh hfe hp4 hp4 hj s1 s2 t1 t2 d
  rw [e1, zb_s, zb_l, nI_l (by omega), e2, zb_s]
  exact ok_way (RR_keep h e3 e4) e5
theorem op_way (x a d w : Int32) (h : RR RxC S T) : OK RxC (f_X11_way x a d w S) (f_X12_way x a d w T) := by
  obtain ⟨n, m, t, c, e, d', hs, ht, hm, hp, hch, hi, hd, hh, hx0, hx1⟩ := id h
  obtain ⟨L, hL⟩ := hx0 (by decide)
  obtain ⟨sh, fe, hsh, hfe, s1, s2, t1, t2⟩ := Rm_sh hm
  unfold f_X11_way f_X12_way
  simp only [q_within, p_isSum, q_isChange, p_isPair, q_isDay, p_isDay, p_in, zb_2, ite01, zd10]
  refine ok_if Iff.rfl (fun _ => ok_r _ h) (fun h1 => ?_)
  by_cases hp : pairP a
  · rw [if_neg (show ¬ ¬ pairP a from fun q => q hp)]
    by_cases hq : a / 10 = a - a / 10 * 10
    · rw [if_pos (show ¬ (pairP a ∧ ¬ a / 10 = a - a / 10 * 10) from fun q => q.2 hq), if_pos hq]; exact ok_r _ h
    · rw [if_neg (show ¬ ¬ (pairP a ∧ ¬ a / 10 = a - a / 10 * 10) from fun q => q ⟨hp, hq⟩), if_neg hq]
      refine ok_if Iff.rfl (fun _ => ok_r _ h) (fun h3 => ok_if Iff.rfl (fun _ => ok_r _ h) (fun h4 => ?_))
      obtain ⟨j, hj, rfl⟩ := x9999 (nn h1)
      obtain ⟨p, hp4, hpe⟩ := lt4 hp.2.1
      obtain ⟨g, hg4, hge⟩ := lt4 hp.2.2
      obtain ⟨S', T', e1, e2, e3, e4, e5⟩ := qp_search hL hsh hfe hg4 hp4 hj s1 s2 t1 t2 d
      rw [hge, hpe, e1, zb_s, zb_l, nI_l (by omega), e2, zb_s]
      exact ok_way (RR_keep h e3 e4) e5
  · rw [if_pos hp, if_pos (fun q : pairP a ∧ _ => hp q.1)]; exact ok_r _ h
