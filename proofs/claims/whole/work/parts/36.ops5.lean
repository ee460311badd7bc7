section OPS5
variable {Rx : Nat → St → St → Prop} {S T : St}
theorem Sm_one {ks : List Nat} {S : St} {k i : Nat} {v : Int32} (hk : k ∈ ks) : Sm ks S (u1 S k i v) := Sm_u1 Sm_rf hk
theorem qp_tell {n m : Nat} {k w v : Int32} (hs : Rs n S T) (ht : Rt m S T) (hV : Vc n m k w v) : ∃ S' T', f_X11_tell k w v S = some S' ∧ f_X12_becomes k w v T = some T' ∧ Rs n S' T' ∧ Rt m S' T' ∧ Sm [3, 4, 5, 9, 10] S S' ∧ Sm [2, 3, 4, 7, 8] T T' := by
  obtain ⟨hn, hS, hT, hv⟩ := id hs
  obtain ⟨hn9, hS9, hT9, hv9⟩ := id ht
  unfold f_X11_tell f_X12_becomes
  rcases hV with ⟨rfl, ⟨j, hj, rfl⟩, hr⟩ | ⟨(rfl | rfl), ⟨j, hj, rfl⟩, hr⟩ | ⟨rfl, ⟨j, hj, rfl⟩, hr⟩ | ⟨rfl, ⟨j, hj, rfl⟩, hr⟩
  · rw [if_pos rfl, if_pos rfl, zb_an _ (by omega) (by omega), zb_an _ (by omega) (by omega), zb_l, zb_l, cl_n (by omega)]
    refine ⟨_, _, rfl, rfl, ⟨hn, hS, hT, fun i hi => ?_⟩, ht, Sm_one (by decide), Sm_one (by decide)⟩
    have q := hv i hi
    simp only [rd_1, reduceIte, Nat.reduceEqDiff]
    by_cases hij : i = j
    · rw [if_pos hij, if_pos hij]
      exact ⟨⟨q.1.1, rfl, q.1.2.2.1, q.1.2.2.2.1, q.1.2.2.2.2⟩, q.2.1, hr, q.2.2.2.1, q.2.2.2.2.1, q.2.2.2.2.2⟩
    · rw [if_neg hij, if_neg hij]; exact q
  · simp (decide := true) only [reduceIte]
    rw [zb_an _ (by omega) (by omega), zb_an _ (by omega) (by omega), zb_l, zb_l, cl_n (by omega)]
    refine ⟨_, _, rfl, rfl, ⟨hn, hS, hT, fun i hi => ?_⟩, ht, Sm_one (by decide), Sm_one (by decide)⟩
    have q := hv i hi
    simp only [rd_1, reduceIte, Nat.reduceEqDiff]
    by_cases hij : i = j
    · rw [if_pos hij, if_pos hij]
      exact ⟨⟨q.1.1, q.1.2.1, rfl, q.1.2.2.2.1, q.1.2.2.2.2⟩, q.2.1, q.2.2.1, hr, q.2.2.2.2.1, q.2.2.2.2.2⟩
    · rw [if_neg hij, if_neg hij]; exact q
  · simp (decide := true) only [reduceIte]
    rw [zb_an _ (by omega) (by omega), zb_an _ (by omega) (by omega), zb_l, zb_l, cl_n (by omega)]
    refine ⟨_, _, rfl, rfl, ⟨hn, hS, hT, fun i hi => ?_⟩, ht, Sm_one (by decide), Sm_one (by decide)⟩
    have q := hv i hi
    simp only [rd_1, reduceIte, Nat.reduceEqDiff]
    by_cases hij : i = j
    · rw [if_pos hij, if_pos hij]
      exact ⟨⟨q.1.1, q.1.2.1, q.1.2.2.1, rfl, q.1.2.2.2.2⟩, q.2.1, q.2.2.1, q.2.2.2.1, hr, q.2.2.2.2.2⟩
    · rw [if_neg hij, if_neg hij]; exact q
  · simp (decide := true) only [reduceIte]
    rw [zb_an _ (by omega) (by omega), zb_an _ (by omega) (by omega), zb_l, zb_l, cl_n (by omega)]
    refine ⟨_, _, rfl, rfl, hs, ⟨hn9, hS9, hT9, fun i hi => ?_⟩, Sm_one (by decide), Sm_one (by decide)⟩
    have q := hv9 i hi
    simp only [rd_1, reduceIte, Nat.reduceEqDiff]
    by_cases hij : i = j
    · rw [if_pos hij, if_pos hij]
      exact ⟨⟨q.1.1, rfl, q.1.2.2.1, q.1.2.2.2⟩, q.2.1, hr, q.2.2.2.1, q.2.2.2.2⟩
    · rw [if_neg hij, if_neg hij]; exact q
  · simp (decide := true) only [reduceIte]
    rw [zb_an _ (by omega) (by omega), zb_an _ (by omega) (by omega), zb_l, zb_l, cl_n (by omega)]
    refine ⟨_, _, rfl, rfl, hs, ⟨hn9, hS9, hT9, fun i hi => ?_⟩, Sm_one (by decide), Sm_one (by decide)⟩
    have q := hv9 i hi
    simp only [rd_1, reduceIte, Nat.reduceEqDiff]
    by_cases hij : i = j
    · rw [if_pos hij, if_pos hij]
      exact ⟨⟨q.1.1, q.1.2.1, rfl, q.1.2.2.2⟩, q.2.1, q.2.2.1, hr, q.2.2.2.2⟩
    · rw [if_neg hij, if_neg hij]; exact q
/-- what is held of a sort or a thing -/
theorem qp_held {n m : Nat} {k w v : Int32} (hs : Rs n S T) (ht : Rt m S T) (hV : Vc n m k w v) : ∃ r, f_X11_mendable k w S = some (r, S) ∧ f_X12_held k w T = some (r, T) ∧ Vc n m k w r := by
  obtain ⟨hn, hS, hT, hv⟩ := id hs
  obtain ⟨hn9, hS9, hT9, hv9⟩ := id ht
  unfold f_X11_mendable f_X12_held
  rcases hV with ⟨rfl, ⟨j, hj, rfl⟩, hr⟩ | ⟨(rfl | rfl), ⟨j, hj, rfl⟩, hr⟩ | ⟨rfl, ⟨j, hj, rfl⟩, hr⟩ | ⟨rfl, ⟨j, hj, rfl⟩, hr⟩
  · rw [if_pos rfl, if_pos rfl, zb_an _ (by omega) (by omega), zb_an _ (by omega) (by omega), cl_n (by omega)]
    exact ⟨_, rfl, by rw [(hv j hj).1.2.1], Or.inl ⟨rfl, ⟨j, hj, rfl⟩, (hv j hj).2.2.1⟩⟩
  · simp (decide := true) only [reduceIte]
    rw [zb_an _ (by omega) (by omega), zb_an _ (by omega) (by omega), cl_n (by omega)]
    exact ⟨_, rfl, by rw [(hv j hj).1.2.2.1], Or.inr (Or.inl ⟨Or.inl rfl, ⟨j, hj, rfl⟩, (hv j hj).2.2.2.1⟩)⟩
  · simp (decide := true) only [reduceIte]
    rw [zb_an _ (by omega) (by omega), zb_an _ (by omega) (by omega), cl_n (by omega)]
    exact ⟨_, rfl, by rw [(hv j hj).1.2.2.2.1], Or.inr (Or.inl ⟨Or.inr rfl, ⟨j, hj, rfl⟩, (hv j hj).2.2.2.2.1⟩)⟩
  · simp (decide := true) only [reduceIte]
    rw [zb_an _ (by omega) (by omega), zb_an _ (by omega) (by omega), cl_n (by omega)]
    exact ⟨_, rfl, by rw [(hv9 j hj).1.2.1], Or.inr (Or.inr (Or.inl ⟨rfl, ⟨j, hj, rfl⟩, (hv9 j hj).2.2.1⟩))⟩
  · simp (decide := true) only [reduceIte]
    rw [zb_an _ (by omega) (by omega), zb_an _ (by omega) (by omega), cl_n (by omega)]
    exact ⟨_, rfl, by rw [(hv9 j hj).1.2.2.1], Or.inr (Or.inr (Or.inr ⟨rfl, ⟨j, hj, rfl⟩, (hv9 j hj).2.2.2.1⟩))⟩
theorem m4 (c : Nat) : (4 : Int32) * nI c = nI (4 * c) := pk_mul 4 c
theorem m4k (c : Nat) (l : Int32) (k : Nat) (h : l = nI k) : (4 : Int32) * nI c + l = nI (4 * c + k) := by rw [h, m4, nI_add]
theorem nk (c : Nat) (l : Int32) (k : Nat) (h : l = nI k) : nI c + l = nI (c + k) := by rw [h, nI_add]
theorem Sm_both {ks : List Nat} {S S' : St} (h : Sm ks S S') {k i : Nat} {v : Int32} (hk : k ∉ ks) : Sm ks (u1 S k i v) (u1 S' k i v) := ⟨fun a ha => by
  unfold u1 s1
  show (if a = k then _ else _) = (if a = k then _ else _)
  by_cases hak : a = k
  · rw [if_pos hak, if_pos hak, h.1 k hk]
  · rw [if_neg hak, if_neg hak]; exact h.1 a ha, h.2⟩
/-- what stays of the rest, behind a change of what is told of sorts and things -/
theorem rest_keep {n m t c e d : Nat} {S T S' T' : St} (hF : Fx Rx) (hs : Rs n S' T') (ht : Rt m S' T') (hm : Rm S T) (hp : Rp t S T) (hch : Rc c e n m S T) (hi : Ri n m S T) (hd : Rd d S T) (hh : Rh d S T) (hx0 : Rx 0 S T) (hx1 : Rx 1 S T) (h1 : Sm [3, 4, 5, 9, 10] S S') (h2 : Sm [2, 3, 4, 7, 8] T T') : RR Rx S' T' := by
  refine ⟨n, m, t, c, e, d, hs, ht, ?_, ?_, ?_, ?_, ?_, ?_, ?_, ?_⟩
  · unfold Rm
    rw [h2.1 0 (by decide), h2.1 10 (by decide), h1.1 38 (by decide), h1.1 39 (by decide), h1.1 21 (by decide)]
    exact hm
  · unfold Rp
    rw [h2.1 0 (by decide), h2.1 11 (by decide), h1.1 18 (by decide), h1.1 19 (by decide)]
    exact hp
  · unfold Rc
    rw [h2.1 0 (by decide), h2.1 12 (by decide), h1.1 25 (by decide), h1.1 26 (by decide), h1.1 27 (by decide), h1.1 28 (by decide), h1.1 29 (by decide)]
    exact hch
  · unfold Ri
    rw [h2.1 0 (by decide), h2.1 26 (by decide), h2.1 27 (by decide), h2.1 28 (by decide), h1.1 30 (by decide), h1.1 31 (by decide), h1.1 32 (by decide), h1.1 33 (by decide)]
    exact hi
  · unfold Rd
    rw [h2.1 0 (by decide), h2.1 29 (by decide), h2.1 30 (by decide), h1.1 34 (by decide), h1.1 35 (by decide), h1.1 36 (by decide)]
    exact hd
  · exact Rh_keep hh (fun k hk => h1.1 k (by simp; omega)) h1.2 (h2.1 31 (by decide)) (h2.1 32 (by decide)) (by rw [h2.2])
  · exact fx_keep hF hx0 (fun k g1 g2 _ => h1.1 k (by simp; omega)) (fun k g1 g2 => h2.1 k (by simp; omega))
  · exact fx_keep hF hx1 (fun k g1 g2 _ => h1.1 k (by simp; omega)) (fun k g1 g2 => h2.1 k (by simp; omega))
theorem op_undo (hF : Fx Rx) (h : RR Rx S T) : OK Rx (f_X11_undo S) (f_X12_undo T) := by
  obtain ⟨n, m, t, c, e, d, hs, ht, hm, hp, hch, hi, hd, hh, hx0, hx1⟩ := id h
  obtain ⟨ce, he, c1, c2, c3, c4, cv⟩ := id hch
  unfold f_X11_undo f_X12_undo f_X0_stepBack
  rw [c1, c3]
  by_cases h0 : c = 0
  · subst h0
    exact ok_r _ h
  · obtain ⟨b, rfl⟩ : ∃ b, c = b + 1 := ⟨c - 1, by omega⟩
    rw [if_pos (show (0 : Int32) < nI (b + 1) from nI_lt (a := 0) (by omega) (by omega)), if_neg (nI_ne0 (by omega) (by omega)), zb_l, zb_l, zb_l, nI_pred]
    simp only [rd_1, reduceIte, Nat.reduceEqDiff, zb_2, c4]
    have hsS : Rs n (u1 S 25 4 (nI b)) (u1 (u1 T 0 20 (nI b)) 0 21 (nI (e - (b + 1)) + 1)) := hs
    have htS : Rt m (u1 S 25 4 (nI b)) (u1 (u1 T 0 20 (nI b)) 0 21 (nI (e - (b + 1)) + 1)) := ht
    have cvb := cv b (by omega)
    obtain ⟨S', T', e1, e2, hs', ht', mS, mT⟩ := qp_tell hsS htS cvb.2.1
    rw [if_pos (nI_pos' (by omega)), zb_an _ (by omega) (by omega), zb_an _ (by omega) (by omega), zb_an _ (by omega) (by omega), cl_n (by omega), e1, zb_s]
    rw [m4, nk (4 * b) 1 1 rfl, nk (4 * b) 2 2 rfl, zb_an _ (by omega) (by omega), zb_an _ (by omega) (by omega), zb_an _ (by omega) (by omega), cl_n (by omega), cl_n (by omega), cl_n (by omega), cvb.1.1, cvb.1.2.1, cvb.1.2.2.1, e2, zb_s]
    refine ok_mk (by rw [mS.1 25 (by decide), mT.1 0 (by decide)]; simp only [rd_1, reduceIte, Nat.reduceEqDiff]) ?_
    refine rest_keep (c := b) (e := e) hF hs' ht' (S := u1 S 25 4 (nI b)) (T := u1 (u1 T 0 20 (nI b)) 0 21 (nI (e - (b + 1)) + 1)) hm hp ⟨by omega, he, rfl, c2, rfl, ?_, cv⟩ hi hd (Rh_keep hh ?_ rfl rfl rfl rfl) (fx_keep hF hx0 ?_ ?_) (fx_keep hF hx1 ?_ ?_) mS mT
    · simp only [rd_1, reduceIte]
      rw [nI_1]; congr 1; omega
    all_goals (intro k h1; intros; simp (disch := omega) only [ne_u1])
theorem op_redo (hF : Fx Rx) (h : RR Rx S T) : OK Rx (f_X11_redo S) (f_X12_redo T) := by
  obtain ⟨n, m, t, c, e, d, hs, ht, hm, hp, hch, hi, hd, hh, hx0, hx1⟩ := id h
  obtain ⟨ce, he, c1, c2, c3, c4, cv⟩ := id hch
  unfold f_X11_redo f_X12_redo f_X0_stepOn
  rw [c1, c2, c3, c4]
  by_cases h0 : c = e
  · subst h0
    rw [if_neg (nI_nlt (Nat.le_refl c) (by omega)), Nat.sub_self]
    exact ok_r _ h
  · rw [if_pos (nI_lt (by omega) (by omega)), if_neg (nI_ne0 (by omega) (by omega)), zb_l]
    simp only [rd_1, reduceIte, Nat.reduceEqDiff, zb_2]
    rw [nI_1, nI_pred]
    have hsS : Rs n (u1 S 25 4 (nI (c + 1))) T := hs
    have htS : Rt m (u1 S 25 4 (nI (c + 1))) T := ht
    have cvb := cv c (by omega)
    obtain ⟨S', T', e1, e2, hs', ht', mS, mT⟩ := qp_tell hsS htS cvb.2.2
    rw [if_pos (nI_pos' (by omega)), zb_an _ (by omega) (by omega), zb_an _ (by omega) (by omega), zb_an _ (by omega) (by omega), cl_n (by omega), e1, zb_s]
    rw [m4, nk (4 * c) 1 1 rfl, nk (4 * c) 3 3 rfl, zb_an _ (by omega) (by omega), zb_an _ (by omega) (by omega), zb_an _ (by omega) (by omega), cl_n (by omega), cl_n (by omega), cl_n (by omega), cvb.1.1, cvb.1.2.1, cvb.1.2.2.2, e2, zb_s, zb_l, zb_l]
    obtain ⟨f, hf⟩ : ∃ f, e - c = f + 1 := ⟨e - c - 1, by omega⟩
    have t20 : T'.1 0 20 = nI c := by rw [mT.1 0 (by decide), c3]
    have t21 : T'.1 0 21 = nI (f + 1) := by rw [mT.1 0 (by decide), c4, hf]
    simp only [rd_1, reduceIte, Nat.reduceEqDiff, t20, t21]
    rw [nI_pred, nI_1]
    have s25 : S'.1 25 5 = nI e := by rw [mS.1 25 (by decide)]; simp only [rd_1, reduceIte, Nat.reduceEqDiff]; exact c2
    have s24 : S'.1 25 4 = nI (c + 1) := by rw [mS.1 25 (by decide)]; simp only [rd_1, reduceIte]
    rw [s25, s24, pk_sub (by omega)]
    refine ok_mk (by congr 1; omega) ?_
    refine rest_keep (c := c + 1) (e := e) hF hs' ht' (S := u1 S 25 4 (nI (c + 1))) (T := u1 (u1 T 0 20 (nI (c + 1))) 0 21 (nI f)) hm hp ⟨by omega, he, rfl, c2, rfl, ?_, cv⟩ hi hd (Rh_keep hh ?_ rfl rfl rfl rfl) (fx_keep hF hx0 ?_ ?_) (fx_keep hF hx1 ?_ ?_) mS (Sm_both (Sm_both mT (by decide)) (by decide))
    · simp only [rd_1, reduceIte]
      congr 1; omega
    all_goals (intro k h1; intros; simp (disch := omega) only [ne_u1])
end OPS5
