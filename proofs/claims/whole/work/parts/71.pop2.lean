variable {S T : St}
theorem fd_le {c : Nat} : ∀ l : List Nat, (∀ y, y ∈ l → y ≤ c) → fd l ≤ c * fd (List.replicate l.length 1)
  | [], _ => Nat.zero_le _
  | y :: r, h => by
    have hy := h y List.mem_cons_self
    have ih := fd_le r (fun x hx => h x (List.mem_cons_of_mem _ hx))
    show y + 256 * fd r ≤ c * (1 + 256 * fd (List.replicate r.length 1))
    rw [Nat.mul_add, Nat.mul_one, show c * (256 * fd (List.replicate r.length 1)) = 256 * (c * fd (List.replicate r.length 1)) by rw [Nat.mul_left_comm]]
    omega
theorem and127 (n : Nat) : nI n &&& (127 : Int32) = nI (n % 128) := by
  rw [pk_and (nI n) (m := 127) 7 rfl]
  show nI ((BitVec.ofNat 32 n).toNat % 128) = _
  rw [BitVec.toNat_ofNat, Nat.mod_mod_of_dvd n (show 128 ∣ 2 ^ 32 by decide)]
theorem q_pop {n : Nat} (hn : n < 2 ^ 64) (S : St) : f_J13_bitCount_95d88 (lN n) S = some (nI (sumTo (bitN n) 64), S) := by
  unfold f_J13_bitCount_95d88
  have hb := byt_lt 8 n
  have hfd : fd (byt n 8) = n := byt_fd 8 n (by rw [show (256 : Nat) ^ 8 = 2 ^ 64 from rfl]; exact hn)
  have hlen : (byt n 8).length = 8 := byt_len 8 n
  have e1 : ((lN n).toUInt64 >>> ((Int32.toInt64 (1 : Int32)).toUInt64 &&& Int64.toUInt64 63)).toInt64 = lN (n / 2) := wb_shr hn (by decide)
  have f1 := fd_1 (byt n 8) hb
  rw [hfd, hlen, show fd (List.replicate 8 0x55) = 6148914691236517205 from rfl] at f1
  have d1 : n / 2 < 2 ^ 64 := by omega
  have l1 : (n / 2) &&& 6148914691236517205 ≤ n := Nat.le_trans Nat.and_le_left (by omega)
  rw [e1, show (6148914691236517205 : Int64) = lN 6148914691236517205 from rfl, wb_and d1 (by decide), lN_sub l1, f1, zb_l]
  have b1 : ∀ y, y ∈ (byt n 8).map s1y → y < 256 := map_lt (fun y hy => (s1_lt y (hb y hy)).1)
  have n1lt := fd_lt _ b1
  rw [List.length_map, hlen, show (256 : Nat) ^ 8 = 2 ^ 64 from rfl] at n1lt
  have f2 := fd_2 _ b1
  rw [List.length_map, hlen, show fd (List.replicate 8 0x33) = 3689348814741910323 from rfl, List.map_map] at f2
  generalize hN1 : fd ((byt n 8).map s1y) = n1 at *
  have e2 : ((lN n1).toUInt64 >>> ((Int32.toInt64 (2 : Int32)).toUInt64 &&& Int64.toUInt64 63)).toInt64 = lN (n1 / 4) := wb_shr n1lt (by decide)
  rw [e2, show (3689348814741910323 : Int64) = lN 3689348814741910323 from rfl, wb_and n1lt (by decide), wb_and (show n1 / 4 < 2 ^ 64 by omega) (by decide), lN_add, f2, zb_l]
  have b2 : ∀ y, y ∈ (byt n 8).map (s2y ∘ s1y) → y < 256 ∧ y % 16 ≤ 4 ∧ y / 16 ≤ 4 := map_lt (f := s2y ∘ s1y) (fun y hy => s2_lt y (hb y hy))
  have n2le := fd_le (c := 68) _ (fun y hy => by have := b2 y hy; omega)
  rw [List.length_map, hlen, show fd (List.replicate 8 1) = 72340172838076673 from rfl] at n2le
  have f3 := fd_3 _ b2
  rw [List.length_map, hlen, show fd (List.replicate 8 0x0f) = 1085102592571150095 from rfl, List.map_map] at f3
  generalize hN2 : fd ((byt n 8).map (s2y ∘ s1y)) = n2 at *
  have e3 : ((lN n2).toUInt64 >>> ((Int32.toInt64 (4 : Int32)).toUInt64 &&& Int64.toUInt64 63)).toInt64 = lN (n2 / 16) := wb_shr (by omega) (by decide)
  rw [e3, lN_add, show (1085102592571150095 : Int64) = lN 1085102592571150095 from rfl, wb_and (show n2 + n2 / 16 < 2 ^ 64 by omega) (by decide), f3, zb_l]
  have b3 : ∀ y, y ∈ (byt n 8).map (s3y ∘ s2y ∘ s1y) → y ≤ 8 := map_lt (f := s3y ∘ s2y ∘ s1y) (fun y hy => by
    show s3y (s2y (s1y y)) ≤ 8
    rw [s3_pop y (hb y hy)]; exact bits8_le y (hb y hy))
  have n3le := fd_le (c := 8) _ b3
  rw [List.length_map, hlen, show fd (List.replicate 8 1) = 72340172838076673 from rfl] at n3le
  have hmap : (byt n 8).map (s3y ∘ s2y ∘ s1y) = (byt n 8).map bits8 := List.map_congr_left (fun y hy => s3_pop y (hb y hy))
  rw [hmap] at n3le ⊢
  have hp := pop_bytes 8 n
  generalize hN3 : fd ((byt n 8).map bits8) = n3 at *
  have e4 : ((lN n3).toUInt64 >>> ((Int32.toInt64 (8 : Int32)).toUInt64 &&& Int64.toUInt64 63)).toInt64 = lN (n3 / 256) := wb_shr (by omega) (by decide)
  rw [e4, lN_add, zb_l]
  generalize hN4 : n3 + n3 / 256 = n4
  have e5 : ((lN n4).toUInt64 >>> ((Int32.toInt64 (16 : Int32)).toUInt64 &&& Int64.toUInt64 63)).toInt64 = lN (n4 / 65536) := wb_shr (by omega) (by decide)
  rw [e5, lN_add, zb_l]
  generalize hN5 : n4 + n4 / 65536 = n5
  have e6 : ((lN n5).toUInt64 >>> ((Int32.toInt64 (32 : Int32)).toUInt64 &&& Int64.toUInt64 63)).toInt64 = lN (n5 / 4294967296) := wb_shr (by omega) (by decide)
  rw [e6, lN_add, zb_l, lN_i, and127]
  have q : ∀ i, bits8 (i % 256) ≤ 8 := fun i => bits8_le _ (Nat.mod_lt _ (by decide))
  rw [show 8 * 8 = 64 from rfl] at hp
  rw [hp, pop_last (q n) (q (n / 256)) (q (n / 256 / 256)) (q (n / 256 / 256 / 256)) (q (n / 256 / 256 / 256 / 256)) (q (n / 256 / 256 / 256 / 256 / 256)) (q (n / 256 / 256 / 256 / 256 / 256 / 256)) (q (n / 256 / 256 / 256 / 256 / 256 / 256 / 256)) hN3.symm rfl rfl rfl rfl rfl rfl rfl hN4.symm hN5.symm rfl]
  congr 3
  simp only [byt, List.foldr]
  omega
