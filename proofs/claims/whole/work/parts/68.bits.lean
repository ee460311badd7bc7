/-! ===== lN n to 2^64: shifts, and, or, masks, one bit ===== -/
theorem wb_tb (n : Nat) : (lN n).toBitVec = BitVec.ofNat 64 n := rfl
theorem wb_inj {a b : Int64} (h : a.toBitVec = b.toBitVec) : a = b := Int64.toBitVec_inj.mp h
theorem wb_tn {n : Nat} (h : n < 2 ^ 64) : (lN n).toBitVec.toNat = n := by rw [wb_tb, BitVec.toNat_ofNat, Nat.mod_eq_of_lt h]
theorem wb_of (x : Int64) : ∃ n, n < 2 ^ 64 ∧ x = lN n := ⟨x.toBitVec.toNat, x.toBitVec.isLt, wb_inj (by rw [wb_tb]; simp)⟩
theorem wb_of32 (x : Int32) : ∃ n, n < 2 ^ 32 ∧ x = nI n := ⟨x.toBitVec.toNat, x.toBitVec.isLt, Int32.toBitVec_inj.mp (by show _ = BitVec.ofNat 32 _; simp)⟩
theorem wb_c : ∀ k, k < 64 → ((nI k).toInt64 &&& 63) = lN k := by decide +kernel
theorem wb_cu : ∀ k, k < 64 → ((nI k).toInt64.toUInt64 &&& Int64.toUInt64 63) = UInt64.ofNat k := by decide +kernel
theorem wb_sm : ∀ k, k < 64 → (BitVec.ofNat 64 k).smod 64 = BitVec.ofNat 64 k := by decide +kernel
theorem wb_pw {a b : Nat} (h : a ≤ b) : 2 ^ b = 2 ^ a * 2 ^ (b - a) := by rw [← Nat.pow_add]; congr 1; omega
theorem wb_lt2 {a b : Nat} (h : a < b) : 2 ^ a < 2 ^ b := Nat.pow_lt_pow_right (by decide) h
theorem wb_mod (n : Nat) : lN n = lN (n % 2 ^ 64) := wb_inj (by rw [wb_tb, wb_tb]; apply BitVec.eq_of_toNat_eq; rw [BitVec.toNat_ofNat, BitVec.toNat_ofNat, Nat.mod_mod])
theorem wb_shr {n k : Nat} (hn : n < 2 ^ 64) (hk : k < 64) : ((lN n).toUInt64 >>> ((nI k).toInt64.toUInt64 &&& Int64.toUInt64 63)).toInt64 = lN (n / 2 ^ k) := by
  rw [wb_cu k hk]
  apply wb_inj
  apply BitVec.eq_of_toNat_eq
  show ((lN n).toUInt64 >>> UInt64.ofNat k).toNat = (BitVec.ofNat 64 _).toNat
  have h1 : (UInt64.ofNat k).toNat = k := by
    show (BitVec.ofNat 64 k).toNat = k
    rw [BitVec.toNat_ofNat, Nat.mod_eq_of_lt (by omega)]
  have h2 : (lN n).toUInt64.toNat = n := wb_tn hn
  rw [UInt64.toNat_shiftRight, h1, h2, Nat.mod_eq_of_lt hk, Nat.shiftRight_eq_div_pow, BitVec.toNat_ofNat, Nat.mod_eq_of_lt (Nat.lt_of_le_of_lt (Nat.div_le_self _ _) hn)]
theorem wb_shl (n : Nat) {k : Nat} (hk : k < 64) : lN n <<< ((nI k).toInt64 &&& 63) = lN (n * 2 ^ k) := by
  rw [wb_c k hk]
  apply wb_inj
  rw [Int64.toBitVec_shiftLeft, wb_tb, wb_tb, wb_tb, wb_sm k hk]
  apply BitVec.eq_of_toNat_eq
  rw [BitVec.shiftLeft_eq', BitVec.toNat_shiftLeft, BitVec.toNat_ofNat, BitVec.toNat_ofNat, BitVec.toNat_ofNat, Nat.mod_eq_of_lt (show k < 2 ^ 64 by omega), Nat.shiftLeft_eq, Nat.mul_mod, Nat.mod_mod, ← Nat.mul_mod]
theorem wb_and {a b : Nat} (ha : a < 2 ^ 64) (hb : b < 2 ^ 64) : lN a &&& lN b = lN (a &&& b) := by
  apply wb_inj
  rw [Int64.toBitVec_and, wb_tb, wb_tb, wb_tb]
  apply BitVec.eq_of_toNat_eq
  rw [BitVec.toNat_and, BitVec.toNat_ofNat, BitVec.toNat_ofNat, BitVec.toNat_ofNat, Nat.mod_eq_of_lt ha, Nat.mod_eq_of_lt hb, Nat.mod_eq_of_lt (Nat.and_lt_two_pow _ hb)]
theorem wb_or {a b : Nat} (ha : a < 2 ^ 64) (hb : b < 2 ^ 64) : lN a ||| lN b = lN (a ||| b) := by
  apply wb_inj
  rw [Int64.toBitVec_or, wb_tb, wb_tb, wb_tb]
  apply BitVec.eq_of_toNat_eq
  rw [BitVec.toNat_or, BitVec.toNat_ofNat, BitVec.toNat_ofNat, BitVec.toNat_ofNat, Nat.mod_eq_of_lt ha, Nat.mod_eq_of_lt hb, Nat.mod_eq_of_lt (Nat.or_lt_two_pow ha hb)]
theorem wb_mask {n k : Nat} (hn : n < 2 ^ 64) (hk : k < 64) : lN n &&& lN (2 ^ k - 1) = lN (n % 2 ^ k) := by
  rw [wb_and hn (by have := wb_lt2 hk; omega), Nat.and_two_pow_sub_one_eq_mod]
theorem wb_a1 {n : Nat} (hn : n < 2 ^ 64) : lN n &&& 1 = lN (n % 2) := wb_mask (k := 1) hn (by decide)
theorem wb_bit {n k : Nat} (hn : n < 2 ^ 64) (hk : k < 64) : ((lN n).toUInt64 >>> ((nI k).toInt64.toUInt64 &&& Int64.toUInt64 63)).toInt64 &&& 1 = lN (n / 2 ^ k % 2) := by
  rw [wb_shr hn hk, wb_a1 (Nat.lt_of_le_of_lt (Nat.div_le_self _ _) hn)]
/-! what can be paid, as bits of 31 words -/
def rch : List Nat → Nat → Bool
  | [], m => decide (m = 0)
  | w :: l, m => rch l m || (decide (w ≤ m) && rch l (m - w))
/-- a word holds 64 of the bits -/
def Wk (R : Nat → Bool) (k : Nat) (x : Int64) : Prop := ∃ n, n < 2 ^ 64 ∧ x = lN n ∧ ∀ j, j < 64 → n.testBit j = R (64 * k + j)
def Wd (R : Nat → Bool) (f : Nat → Int64) : Prop := ∀ k, k < 31 → Wk R k (f k)
def stepR (w : Nat) (R : Nat → Bool) (m : Nat) : Bool := R m || (decide (w ≤ m) && R (m - w))
theorem lt64n {n j : Nat} (hn : n < 2 ^ 64) (hj : 64 ≤ j) : n.testBit j = false := Nat.testBit_lt_two_pow (Nat.lt_of_lt_of_le hn (Nat.pow_le_pow_right (by decide) hj))
/-- a word further on: its own bits, those shifted, those out of the word below -/
theorem Wk_step {R : Nat → Bool} {k w : Nat} {x y : Int64} (hw : 1 ≤ w) (hw2 : w ≤ 40) (hx : Wk R (k + 1) x) (hy : Wk R k y) : Wk (stepR w R) (k + 1) (x ||| ((x <<< ((nI w).toInt64 &&& 63)) ||| (y.toUInt64 >>> (((64 : Int32) - nI w).toInt64.toUInt64 &&& Int64.toUInt64 63)).toInt64)) := by
  obtain ⟨n, n1, rfl, n3⟩ := hx
  obtain ⟨p, p1, rfl, p3⟩ := hy
  have e64 : (64 : Int32) - nI w = nI (64 - w) := pk_sub (a := 64) (by omega)
  have b2 : p / 2 ^ (64 - w) < 2 ^ 64 := Nat.lt_of_le_of_lt (Nat.div_le_self _ _) p1
  rw [e64, wb_shl n (by omega), wb_shr p1 (by omega), wb_mod (n * 2 ^ w), wb_or (Nat.mod_lt _ (by decide)) b2, wb_or n1 (Nat.or_lt_two_pow (Nat.mod_lt _ (by decide)) b2)]
  refine ⟨_, Nat.or_lt_two_pow n1 (Nat.or_lt_two_pow (Nat.mod_lt _ (by decide)) b2), rfl, fun j hj => ?_⟩
  rw [Nat.testBit_or, Nat.testBit_or, Nat.testBit_mod_two_pow, Nat.testBit_mul_two_pow, Nat.testBit_div_two_pow, n3 j hj]
  unfold stepR
  by_cases q : w ≤ j
  · rw [lt64n p1 (show 64 ≤ j + (64 - w) by omega), n3 (j - w) (by omega), show 64 * (k + 1) + j - w = 64 * (k + 1) + (j - w) by omega]
    simp [q, hj, show w ≤ 64 * (k + 1) + j by omega]
  · rw [p3 (j + (64 - w)) (by omega), show 64 * (k + 1) + j - w = 64 * k + (j + (64 - w)) by omega]
    simp [q, show w ≤ 64 * (k + 1) + j by omega]
theorem Wk_step0 {R : Nat → Bool} {w : Nat} {x : Int64} (hw : 1 ≤ w) (hw2 : w ≤ 40) (hx : Wk R 0 x) : Wk (stepR w R) 0 (x ||| (x <<< ((nI w).toInt64 &&& 63))) := by
  obtain ⟨n, n1, rfl, n3⟩ := hx
  rw [wb_shl n (by omega), wb_mod (n * 2 ^ w), wb_or n1 (Nat.mod_lt _ (by decide))]
  refine ⟨_, Nat.or_lt_two_pow n1 (Nat.mod_lt _ (by decide)), rfl, fun j hj => ?_⟩
  rw [Nat.testBit_or, Nat.testBit_mod_two_pow, Nat.testBit_mul_two_pow, n3 j hj]
  unfold stepR
  by_cases q : w ≤ j
  · rw [n3 (j - w) (by omega), show 64 * 0 + j - w = 64 * 0 + (j - w) by omega]
    simp [q, hj]
  · simp [q, show ¬ w ≤ 64 * 0 + j by omega]
theorem or0 (x : Int64) : x ||| (0 : Int64) = x := Int64.or_zero
/-- one bit asked for -/
theorem Wd_bit {R : Nat → Bool} {f : Nat → Int64} (h : Wd R f) {m : Nat} (hm : m < 1984) : ((f (m / 64)).toUInt64 >>> ((nI (m % 64)).toInt64.toUInt64 &&& Int64.toUInt64 63)).toInt64 &&& 1 = lN (if R m then 1 else 0) := by
  obtain ⟨n, n1, n2, n3⟩ := h (m / 64) (by omega)
  rw [n2, wb_bit n1 (by omega)]
  have q := n3 (m % 64) (by omega)
  rw [show 64 * (m / 64) + m % 64 = m by omega] at q
  rw [← q, Nat.testBit_eq_decide_div_mod_eq]
  have h2 : n / 2 ^ (m % 64) % 2 = 0 ∨ n / 2 ^ (m % 64) % 2 = 1 := by omega
  rcases h2 with e | e <;> rw [e] <;> rfl
