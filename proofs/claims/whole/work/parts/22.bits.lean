/-! ===== bits as numbers ===== -/
theorem b32 (x : Int) : (Int32.ofInt x).toBitVec.toNat = (x % 4294967296).toNat := by
  show (BitVec.ofInt 32 x).toNat = _
  rw [BitVec.toNat_ofInt]
  rfl
theorem b64 (x : Int) : (Int64.ofInt x).toBitVec.toNat = (x % 18446744073709551616).toNat := by
  show (BitVec.ofInt 64 x).toNat = _
  rw [BitVec.toNat_ofInt]
  rfl
theorem i32_nat {v : Int32} {k : Nat} (h : v.toBitVec.toNat = k) (hk : k < 2147483648) : v.toInt = k := by
  show v.toBitVec.toInt = _
  rw [BitVec.toInt_eq_toNat_of_lt (by rw [h]; omega), h]
theorem i64_nat {v : Int64} {k : Nat} (h : v.toBitVec.toNat = k) (hk : k < 9223372036854775808) : v.toInt = k := by
  show v.toBitVec.toInt = _
  rw [BitVec.toInt_eq_toNat_of_lt (by rw [h]; omega), h]
theorem zand_nat (a b : Nat) (ha : a < 2147483648) (hb : b < 4294967296) : zand a b = ((a &&& b : Nat) : Int) := by
  unfold zand
  refine i32_nat ?_ (Nat.lt_of_le_of_lt Nat.and_le_left ha)
  show ((Int32.ofInt a).toBitVec &&& (Int32.ofInt b).toBitVec).toNat = _
  rw [BitVec.toNat_and, b32, b32]
  congr 1 <;> omega
theorem zor_nat (a b : Nat) (ha : a < 2147483648) (hb : b < 2147483648) : zor a b = ((a ||| b : Nat) : Int) := by
  unfold zor
  refine i32_nat ?_ (Nat.or_lt_two_pow (n := 31) ha hb)
  show ((Int32.ofInt a).toBitVec ||| (Int32.ofInt b).toBitVec).toNat = _
  rw [BitVec.toNat_or, b32, b32]
  congr 1 <;> omega
theorem zxor_nat (a b : Nat) (ha : a < 2147483648) (hb : b < 2147483648) : zxor a b = ((a ^^^ b : Nat) : Int) := by
  unfold zxor
  refine i32_nat ?_ (Nat.xor_lt_two_pow (n := 31) ha hb)
  show ((Int32.ofInt a).toBitVec ^^^ (Int32.ofInt b).toBitVec).toNat = _
  rw [BitVec.toNat_xor, b32, b32]
  congr 1 <;> omega
theorem zand_mask (x : Int) : zand x 1073741823 = x % 1073741824 := by
  have e : (1073741823 : Int) = ((2 ^ 30 - 1 : Nat) : Int) := rfl
  have h : zand x 1073741823 = (((x % 4294967296).toNat % 2 ^ 30 : Nat) : Int) := by
    unfold zand
    refine i32_nat ?_ (by omega)
    show ((Int32.ofInt x).toBitVec &&& (Int32.ofInt 1073741823).toBitVec).toNat = _
    rw [BitVec.toNat_and, b32, b32, ← Nat.and_two_pow_sub_one_eq_mod]
    rfl
  rw [h]
  omega
theorem zand_1 (x : Int) : zand x 1 = x % 2 := by
  have h : zand x 1 = (((x % 4294967296).toNat % 2 ^ 1 : Nat) : Int) := by
    unfold zand
    refine i32_nat ?_ (by omega)
    show ((Int32.ofInt x).toBitVec &&& (Int32.ofInt 1).toBitVec).toNat = _
    rw [BitVec.toNat_and, b32, b32, ← Nat.and_two_pow_sub_one_eq_mod]
    rfl
  rw [h]
  omega
theorem zand_7 (x : Int) : zand x 7 = x % 8 := by
  have h : zand x 7 = (((x % 4294967296).toNat % 2 ^ 3 : Nat) : Int) := by
    unfold zand
    refine i32_nat ?_ (by omega)
    show ((Int32.ofInt x).toBitVec &&& (Int32.ofInt 7).toBitVec).toNat = _
    rw [BitVec.toNat_and, b32, b32, ← Nat.and_two_pow_sub_one_eq_mod]
    rfl
  rw [h]
  omega
theorem zandl_mask (x : Int) : zandl x 1073741823 = x % 1073741824 := by
  have h : zandl x 1073741823 = (((x % 18446744073709551616).toNat % 2 ^ 30 : Nat) : Int) := by
    unfold zandl
    refine i64_nat ?_ (by omega)
    show ((Int64.ofInt x).toBitVec &&& (Int64.ofInt 1073741823).toBitVec).toNat = _
    rw [BitVec.toNat_and, b64, b64, ← Nat.and_two_pow_sub_one_eq_mod]
    rfl
  rw [h]
  omega
theorem sh32 : ∀ k : Nat, k < 32 → ((Int32.ofInt k &&& 31).toBitVec.smod 32).toNat = k := by decide +kernel
theorem shu32 : ∀ k : Nat, k < 32 → (((Int32.ofInt k).toUInt32 &&& Int32.toUInt32 31).toBitVec % 32).toNat = k := by decide +kernel
theorem sh64 : ∀ k : Nat, k < 64 → (((Int32.ofInt k).toInt64 &&& 63).toBitVec.smod 64).toNat = k := by decide +kernel
theorem shu64 : ∀ k : Nat, k < 64 → (((Int32.ofInt k).toInt64.toUInt64 &&& Int64.toUInt64 63).toBitVec % 64).toNat = k := by decide +kernel
theorem zshl_nat (a k : Nat) (hk : k < 32) (h : a * 2 ^ k < 2147483648) : zshl a k = ((a * 2 ^ k : Nat) : Int) := by
  unfold zshl
  have ha : a < 2147483648 := Nat.lt_of_le_of_lt (Nat.le_mul_of_pos_right a (Nat.two_pow_pos k)) h
  refine i32_nat ?_ h
  show ((Int32.ofInt a).toBitVec <<< ((Int32.ofInt k &&& 31).toBitVec.smod 32).toNat).toNat = _
  rw [sh32 k hk, BitVec.toNat_shiftLeft, b32, Nat.shiftLeft_eq, show ((a : Int) % 4294967296).toNat = a by omega]
  exact Nat.mod_eq_of_lt (by omega)
theorem zshr_int (x : Int) (k : Nat) (hk : k < 32) (hx : zI x) : zshr x k = x / 2 ^ k := by
  unfold zshr
  show ((Int32.ofInt x).toBitVec.sshiftRight ((Int32.ofInt k &&& 31).toBitVec.smod 32).toNat).toInt = _
  rw [sh32 k hk, BitVec.toInt_sshiftRight]
  show (Int32.ofInt x).toInt >>> k = _
  rw [zti hx, Int.shiftRight_eq_div_pow]
  rfl
theorem zushr_nat (a k : Nat) (ha : a < 2147483648) (hk : k < 32) : zushr a k = ((a / 2 ^ k : Nat) : Int) := by
  unfold zushr
  refine i32_nat ?_ (Nat.lt_of_le_of_lt (Nat.div_le_self _ _) ha)
  show ((Int32.ofInt a).toBitVec >>> ((((Int32.ofInt k).toUInt32 &&& Int32.toUInt32 31).toBitVec % 32).toNat)).toNat = _
  rw [shu32 k hk, BitVec.toNat_ushiftRight, b32, Nat.shiftRight_eq_div_pow, show ((a : Int) % 4294967296).toNat = a by omega]
theorem zshll_nat (a k : Nat) (hk : k < 64) (h : a * 2 ^ k < 9223372036854775808) : zshll a k = ((a * 2 ^ k : Nat) : Int) := by
  unfold zshll
  have ha : a < 9223372036854775808 := Nat.lt_of_le_of_lt (Nat.le_mul_of_pos_right a (Nat.two_pow_pos k)) h
  refine i64_nat ?_ h
  show ((Int64.ofInt a).toBitVec <<< (((Int32.ofInt k).toInt64 &&& 63).toBitVec.smod 64).toNat).toNat = _
  rw [sh64 k hk, BitVec.toNat_shiftLeft, b64, Nat.shiftLeft_eq, show ((a : Int) % 18446744073709551616).toNat = a by omega]
  exact Nat.mod_eq_of_lt (by omega)
theorem zshrl_int (x : Int) (k : Nat) (hk : k < 64) (hx : zJ x) : zshrl x k = x / 2 ^ k := by
  unfold zshrl
  show ((Int64.ofInt x).toBitVec.sshiftRight (((Int32.ofInt k).toInt64 &&& 63).toBitVec.smod 64).toNat).toInt = _
  rw [sh64 k hk, BitVec.toInt_sshiftRight]
  show (Int64.ofInt x).toInt >>> k = _
  rw [ztl hx, Int.shiftRight_eq_div_pow]
  rfl
theorem zushrl_nat (a k : Nat) (ha : a < 9223372036854775808) (hk : k < 64) : zushrl a k = ((a / 2 ^ k : Nat) : Int) := by
  unfold zushrl
  refine i64_nat ?_ (Nat.lt_of_le_of_lt (Nat.div_le_self _ _) ha)
  show ((Int64.ofInt a).toBitVec >>> ((((Int32.ofInt k).toInt64.toUInt64 &&& Int64.toUInt64 63).toBitVec % 64).toNat)).toNat = _
  rw [shu64 k hk, BitVec.toNat_ushiftRight, b64, Nat.shiftRight_eq_div_pow, show ((a : Int) % 18446744073709551616).toNat = a by omega]
theorem zorl_nat (a b : Nat) (ha : a < 9223372036854775808) (hb : b < 9223372036854775808) : zorl a b = ((a ||| b : Nat) : Int) := by
  unfold zorl
  refine i64_nat ?_ (Nat.or_lt_two_pow (n := 63) ha hb)
  show ((Int64.ofInt a).toBitVec ||| (Int64.ofInt b).toBitVec).toNat = _
  rw [BitVec.toNat_or, b64, b64]
  congr 1 <;> omega
/-! digits to the base B -/
def qB : Int := 1073741824
/-- the shape in which divisions meet their digits -/
theorem q_next (x y : Int) (hx : 0 ≤ x) (hx2 : x < 2147483648) (hy : 0 ≤ y) (hy2 : y < 1073741824) : zorl (zshll x 30) y = x * 1073741824 + y := by
  obtain ⟨a, rfl⟩ : ∃ a : Nat, x = a := ⟨x.toNat, by omega⟩
  obtain ⟨b, rfl⟩ : ∃ b : Nat, y = b := ⟨y.toNat, by omega⟩
  have e : zshll (a : Int) 30 = ((a * 2 ^ 30 : Nat) : Int) := zshll_nat a 30 (by omega) (by omega)
  rw [e, zorl_nat _ _ (by omega) (by omega)]
  have h := Nat.shiftLeft_add_eq_or_of_lt (i := 30) (b := b) (by omega) a
  rw [Nat.shiftLeft_eq] at h
  rw [← h]
  omega
theorem q_lo (x : Int) : zandl x 1073741823 = x % 1073741824 := zandl_mask x
theorem q_hi (x : Int) (h0 : 0 ≤ x) (h1 : x < 9223372036854775808) : zushrl x 30 = x / 1073741824 := by
  obtain ⟨a, rfl⟩ : ∃ a : Nat, x = a := ⟨x.toNat, by omega⟩
  have e : zushrl (a : Int) 30 = ((a / 2 ^ 30 : Nat) : Int) := zushrl_nat a 30 (by omega) (by omega)
  rw [e]
  omega
theorem q_his (x : Int) (h : zJ x) : zshrl x 30 = x / 1073741824 := by
  have e : zshrl x 30 = x / 2 ^ 30 := zshrl_int x 30 (by omega) h
  rw [e]
  rfl
