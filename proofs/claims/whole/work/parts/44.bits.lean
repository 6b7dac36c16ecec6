/-! rows on bits, shifts and unsigned numbers, to paste: each family out of a closed proof of our own, whole with what it rests on; each by itself clean at Lean in its own claim (generation 39, form 5). Take a family whole -/
/-! ===== Int32 by its bits: bt x i ===== -/
def bt (x : Int32) (i : Nat) : Bool := x.toBitVec.getLsbD i
theorem b_ext {x y : Int32} (h : ∀ i, i < 32 → bt x i = bt y i) : x = y := Int32.toBitVec_inj.mp (BitVec.eq_of_getLsbD_eq (fun i hi => h i hi))
theorem b_or (x y : Int32) (i : Nat) : bt (x ||| y) i = (bt x i || bt y i) := by unfold bt; rw [Int32.toBitVec_or, BitVec.getLsbD_or]
theorem b_and (x y : Int32) (i : Nat) : bt (x &&& y) i = (bt x i && bt y i) := by unfold bt; rw [Int32.toBitVec_and, BitVec.getLsbD_and]
theorem b_xor (x y : Int32) (i : Nat) : bt (x ^^^ y) i = (bt x i ^^ bt y i) := by unfold bt; rw [Int32.toBitVec_xor, BitVec.getLsbD_xor]
theorem b_big {x : Int32} {i : Nat} (h : 32 ≤ i) : bt x i = false := BitVec.getLsbD_of_ge _ _ h
theorem b_255 (i : Nat) : bt 255 i = decide (i < 8) := by
  rcases Nat.lt_or_ge i 32 with h | h
  · exact (by decide +kernel : ∀ i, i < 32 → bt 255 i = decide (i < 8)) i h
  · rw [b_big h, decide_eq_false (by omega)]
theorem b_65535 (i : Nat) : bt 65535 i = decide (i < 16) := by
  rcases Nat.lt_or_ge i 32 with h | h
  · exact (by decide +kernel : ∀ i, i < 32 → bt 65535 i = decide (i < 16)) i h
  · rw [b_big h, decide_eq_false (by omega)]
theorem b_m1 : ∀ i, i < 32 → bt (-1) i = true := by decide +kernel
theorem b_0 (i : Nat) : bt 0 i = false := BitVec.getLsbD_zero
theorem s_l : ∀ n, n < 32 → ((nI n &&& 31).toBitVec.smod 32).toNat = n := by decide +kernel
theorem s_u : ∀ n, n < 32 → (((nI n).toUInt32 &&& Int32.toUInt32 31).toBitVec % 32).toNat = n := by decide +kernel
theorem b_shl (n : Nat) (hn : n < 32) (x : Int32) {i : Nat} (hi : i < 32) : bt (x <<< (nI n &&& 31)) i = (decide (n ≤ i) && bt x (i - n)) := by
  unfold bt
  rw [Int32.toBitVec_shiftLeft]
  show (x.toBitVec <<< ((nI n &&& 31).toBitVec.smod 32).toNat).getLsbD i = _
  rw [s_l n hn, BitVec.getLsbD_shiftLeft]
  rcases Nat.lt_or_ge i n with h | h
  · simp [h, Nat.not_le.mpr h]
  · simp [hi, h, Nat.not_lt.mpr h]
theorem b_ushr (n : Nat) (hn : n < 32) (x : Int32) (i : Nat) : bt ((x.toUInt32 >>> ((nI n).toUInt32 &&& Int32.toUInt32 31)).toInt32) i = bt x (n + i) := by
  show (x.toUInt32 >>> ((nI n).toUInt32 &&& Int32.toUInt32 31)).toBitVec.getLsbD i = x.toUInt32.toBitVec.getLsbD (n + i)
  rw [UInt32.toBitVec_shiftRight]
  show (x.toUInt32.toBitVec >>> (((nI n).toUInt32 &&& Int32.toUInt32 31).toBitVec % 32).toNat).getLsbD i = _
  rw [s_u n hn, BitVec.getLsbD_ushiftRight]
theorem b_sshr (n : Nat) (hn : n < 32) (x : Int32) {i : Nat} (hi : i < 32) : bt (x >>> (nI n &&& 31)) i = if n + i < 32 then bt x (n + i) else bt x 31 := by
  unfold bt
  rw [Int32.toBitVec_shiftRight]
  show (x.toBitVec.sshiftRight ((nI n &&& 31).toBitVec.smod 32).toNat).getLsbD i = _
  rw [s_l n hn, BitVec.getLsbD_sshiftRight, BitVec.msb_eq_getLsbD_last]
  simp [hi]
theorem b_shl8 (x : Int32) {i : Nat} (hi : i < 32) : bt (x <<< ((8 : Int32) &&& 31)) i = (decide (8 ≤ i) && bt x (i - 8)) := b_shl 8 (by omega) x hi
theorem b_shl16 (x : Int32) {i : Nat} (hi : i < 32) : bt (x <<< ((16 : Int32) &&& 31)) i = (decide (16 ≤ i) && bt x (i - 16)) := b_shl 16 (by omega) x hi
theorem b_shl24 (x : Int32) {i : Nat} (hi : i < 32) : bt (x <<< ((24 : Int32) &&& 31)) i = (decide (24 ≤ i) && bt x (i - 24)) := b_shl 24 (by omega) x hi
theorem b_sshr8 (x : Int32) {i : Nat} (hi : i < 32) : bt (x >>> ((8 : Int32) &&& 31)) i = if 8 + i < 32 then bt x (8 + i) else bt x 31 := b_sshr 8 (by omega) x hi
/-! bits of small numbers (the rows above began as rows of kit/laws/BITS.to-paste) -/
theorem xb_of {z : Int} (h0 : 0 ≤ z) : Int32.ofInt z = nI z.toNat := by
  rw [show z = ((z.toNat : Nat) : Int) by omega, Int32.ofInt_eq_ofNat]
  rfl
theorem xb_tn {a : Nat} (h : a < 2 ^ 31) : (nI a).toBitVec.toNat = a := by
  show (BitVec.ofNat 32 a).toNat = a
  rw [BitVec.toNat_ofNat]
  exact Nat.mod_eq_of_lt (by omega)
theorem xb_ti {x : Int32} {a : Nat} (h : x.toBitVec.toNat = a) (ha : a < 2 ^ 31) : x.toInt = (a : Int) := by
  show x.toBitVec.toInt = _
  rw [BitVec.toInt_eq_toNat_of_lt (by rw [h]; omega), h]
theorem x_and_nat {a b : Int} (ha : 0 ≤ a ∧ a ≤ 2147483647) (hb : 0 ≤ b ∧ b ≤ 2147483647) : x_and a b = ((a.toNat &&& b.toNat : Nat) : Int) := by
  unfold x_and
  rw [xb_of ha.1, xb_of hb.1]
  refine xb_ti ?_ (Nat.lt_of_le_of_lt Nat.and_le_left (by omega))
  rw [Int32.toBitVec_and, BitVec.toNat_and, xb_tn (by omega), xb_tn (by omega)]
theorem x_or_nat {a b : Int} (ha : 0 ≤ a ∧ a ≤ 2147483647) (hb : 0 ≤ b ∧ b ≤ 2147483647) : x_or a b = ((a.toNat ||| b.toNat : Nat) : Int) := by
  unfold x_or
  rw [xb_of ha.1, xb_of hb.1]
  refine xb_ti ?_ (Nat.or_lt_two_pow (by omega) (by omega))
  rw [Int32.toBitVec_or, BitVec.toNat_or, xb_tn (by omega), xb_tn (by omega)]
theorem x_shr_nat {a k : Int} (ha : 0 ≤ a ∧ a ≤ 2147483647) (hk : 0 ≤ k ∧ k < 32) : x_shr a k = ((a.toNat / 2 ^ k.toNat : Nat) : Int) := by
  unfold x_shr
  rw [xb_of ha.1, xb_of hk.1]
  have h1 : (nI a.toNat).toBitVec.msb = false := by
    rw [BitVec.msb_eq_false_iff_two_mul_lt, xb_tn (by omega)]
    omega
  refine xb_ti ?_ (Nat.lt_of_le_of_lt (Nat.div_le_self _ _) (by omega))
  rw [Int32.toBitVec_shiftRight, BitVec.sshiftRight_eq', s_l k.toNat (by omega), BitVec.sshiftRight_eq_of_msb_false h1, BitVec.toNat_ushiftRight, xb_tn (by omega), Nat.shiftRight_eq_div_pow]
theorem x_shl_nat {a k : Int} (ha : 0 ≤ a) (hk : 0 ≤ k ∧ k < 32) (h : a.toNat * 2 ^ k.toNat < 2 ^ 31) : x_shl a k = ((a.toNat * 2 ^ k.toNat : Nat) : Int) := by
  unfold x_shl
  have hp : 0 < 2 ^ k.toNat := Nat.pow_pos (by decide)
  have h2 : a.toNat < 2 ^ 31 := Nat.lt_of_le_of_lt (Nat.le_mul_of_pos_right _ hp) h
  rw [xb_of ha, xb_of hk.1]
  refine xb_ti ?_ h
  rw [Int32.toBitVec_shiftLeft, BitVec.shiftLeft_eq', s_l k.toNat (by omega), BitVec.toNat_shiftLeft, xb_tn h2, Nat.shiftLeft_eq]
  exact Nat.mod_eq_of_lt (by omega)
/-- an order and its argument in one number -/
theorem x_pack {o v : Int} (ho : 0 ≤ o ∧ o < 128) (hv : 0 ≤ v ∧ v < 16384) : x_or (x_shl o 14) v = o * 16384 + v := by
  have e1 : x_shl o 14 = o * 16384 := by
    rw [x_shl_nat ho.1 (by decide) (by show o.toNat * 2 ^ 14 < 2 ^ 31; omega)]
    show ((o.toNat * 16384 : Nat) : Int) = _
    omega
  rw [e1, x_or_nat (by omega) (by omega)]
  have e2 : (o * 16384).toNat ||| v.toNat = (o * 16384).toNat + v.toNat := by
    have h1 : (o * 16384).toNat = 2 ^ 14 * o.toNat := by show _ = 16384 * o.toNat; omega
    rw [h1, Nat.two_pow_add_eq_or_of_lt (by show v.toNat < 16384; omega)]
  rw [e2]
  omega
theorem x_unpack_o {o v : Int} (ho : 0 ≤ o ∧ o < 128) (hv : 0 ≤ v ∧ v < 16384) : x_shr (o * 16384 + v) 14 = o := by
  rw [x_shr_nat (by omega) (by decide)]
  show (((o * 16384 + v).toNat / 16384 : Nat) : Int) = o
  omega
theorem x_unpack_v {o v : Int} (ho : 0 ≤ o ∧ o < 128) (hv : 0 ≤ v ∧ v < 16384) : x_and (o * 16384 + v) 16383 = v := by
  rw [x_and_nat (by omega) (by decide)]
  have e : (16383 : Int).toNat = 2 ^ 14 - 1 := rfl
  rw [e, Nat.and_two_pow_sub_one_eq_mod]
  show (((o * 16384 + v).toNat % 16384 : Nat) : Int) = v
  omega
/-- the bytes of a number: shifted with or without its sign -/
theorem x_byte {v k : Int} (hk : k = 0 ∨ k = 8 ∨ k = 16 ∨ k = 24) : x_and (x_ushr v k) 255 = x_and (x_shr v k) 255 := by
  have hk0 : 0 ≤ k ∧ k ≤ 24 := by omega
  unfold x_and x_ushr x_shr
  rw [Int32.ofInt_toInt, Int32.ofInt_toInt, xb_of hk0.1]
  congr 1
  apply b_ext
  intro i hi
  rw [b_and, b_and, show Int32.ofInt 255 = 255 from rfl, b_255, b_ushr _ (by omega), b_sshr _ (by omega) _ hi]
  by_cases h8 : i < 8
  · rw [if_pos (by omega)]
  · simp [h8]
theorem x_and_255 (v : Int) : 0 ≤ x_and v 255 ∧ x_and v 255 ≤ 255 := by
  unfold x_and
  have h : (Int32.ofInt v &&& Int32.ofInt 255).toBitVec.toNat ≤ 255 := by
    rw [Int32.toBitVec_and, BitVec.toNat_and]
    exact Nat.and_le_right
  have h2 := xb_ti (x := Int32.ofInt v &&& Int32.ofInt 255) rfl (by omega)
  rw [h2]
  omega
theorem x_and_1 (v : Int) : x_and v 1 = 0 ∨ x_and v 1 = 1 := by
  unfold x_and
  have h : (Int32.ofInt v &&& Int32.ofInt 1).toBitVec.toNat ≤ 1 := by
    rw [Int32.toBitVec_and, BitVec.toNat_and]
    exact Nat.and_le_right
  have h2 := xb_ti (x := Int32.ofInt v &&& Int32.ofInt 1) rfl (by omega)
  rw [h2]
  omega
