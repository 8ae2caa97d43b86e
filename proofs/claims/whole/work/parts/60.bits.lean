/-! BITS, as numbers -/
theorem wrN {z : Int} (h0 : -2147483648 ≤ z) (h1 : z < 2147483648) : wr z = z := by unfold wr; omega
theorem wlN {z : Int} (h0 : -9223372036854775808 ≤ z) (h1 : z < 9223372036854775808) : wl z = z := by unfold wl; omega
theorem bv32 {z : Int} (h0 : 0 ≤ z) (h1 : z < 4294967296) : (BitVec.ofInt 32 z).toNat = z.toNat := by
  rw [BitVec.toNat_ofInt, show ((2 ^ 32 : Nat) : Int) = 4294967296 from rfl]
  omega
theorem bv64 {z : Int} (h0 : 0 ≤ z) (h1 : z < 18446744073709551616) : (BitVec.ofInt 64 z).toNat = z.toNat := by
  rw [BitVec.toNat_ofInt, show ((2 ^ 64 : Nat) : Int) = 18446744073709551616 from rfl]
  omega
theorem bvI32 (x : BitVec 32) (h : x.toNat < 2147483648) : x.toInt = (x.toNat : Int) := BitVec.toInt_eq_toNat_of_lt (by omega)
theorem bvI64 (x : BitVec 64) (h : x.toNat < 9223372036854775808) : x.toInt = (x.toNat : Int) := BitVec.toInt_eq_toNat_of_lt (by omega)
theorem band_nn {a b : Int} (ha : 0 ≤ a) (ha' : a < 2147483648) (hb : 0 ≤ b) (hb' : b < 2147483648) : band a b = ((a.toNat &&& b.toNat : Nat) : Int) := by
  rw [band_eq]
  show (BitVec.ofInt 32 a &&& BitVec.ofInt 32 b).toInt = _
  have e : (BitVec.ofInt 32 a &&& BitVec.ofInt 32 b).toNat = a.toNat &&& b.toNat := by
    rw [BitVec.toNat_and, bv32 ha (by omega), bv32 hb (by omega)]
  have hl : a.toNat &&& b.toNat ≤ a.toNat := Nat.and_le_left
  rw [bvI32 _ (by rw [e]; omega), e]
theorem bor_nn {a b : Int} (ha : 0 ≤ a) (ha' : a < 2147483648) (hb : 0 ≤ b) (hb' : b < 2147483648) : bor a b = ((a.toNat ||| b.toNat : Nat) : Int) := by
  rw [bor_eq]
  show (BitVec.ofInt 32 a ||| BitVec.ofInt 32 b).toInt = _
  have e : (BitVec.ofInt 32 a ||| BitVec.ofInt 32 b).toNat = a.toNat ||| b.toNat := by
    rw [BitVec.toNat_or, bv32 ha (by omega), bv32 hb (by omega)]
  have hl : a.toNat ||| b.toNat < 2 ^ 31 := Nat.or_lt_two_pow (by omega) (by omega)
  rw [bvI32 _ (by rw [e]; omega), e]
theorem bxor_nn {a b : Int} (ha : 0 ≤ a) (ha' : a < 2147483648) (hb : 0 ≤ b) (hb' : b < 2147483648) : bxor a b = ((a.toNat ^^^ b.toNat : Nat) : Int) := by
  rw [bxor_eq]
  show (BitVec.ofInt 32 a ^^^ BitVec.ofInt 32 b).toInt = _
  have e : (BitVec.ofInt 32 a ^^^ BitVec.ofInt 32 b).toNat = a.toNat ^^^ b.toNat := by
    rw [BitVec.toNat_xor, bv32 ha (by omega), bv32 hb (by omega)]
  have hl : a.toNat ^^^ b.toNat < 2 ^ 31 := Nat.xor_lt_two_pow (by omega) (by omega)
  rw [bvI32 _ (by rw [e]; omega), e]
theorem band_pm (a : Int) (n : Nat) (hn : n ≤ 31) : band a ((2 ^ n - 1 : Nat) : Int) = a % ((2 ^ n : Nat) : Int) := by
  rw [band_eq]
  show (BitVec.ofInt 32 a &&& BitVec.ofInt 32 ((2 ^ n - 1 : Nat) : Int)).toInt = _
  have hp : (2 : Nat) ^ n ≤ 2 ^ 31 := Nat.pow_le_pow_right (by decide) hn
  have hp0 : 0 < (2 : Nat) ^ n := Nat.two_pow_pos n
  have e : (BitVec.ofInt 32 a &&& BitVec.ofInt 32 ((2 ^ n - 1 : Nat) : Int)).toNat = (a % 4294967296).toNat % 2 ^ n := by
    rw [BitVec.toNat_and, bv32 (z := ((2 ^ n - 1 : Nat) : Int)) (by omega) (by omega), BitVec.toNat_ofInt, show ((2 ^ 32 : Nat) : Int) = 4294967296 from rfl, Int.toNat_natCast, Nat.and_two_pow_sub_one_eq_mod]
  have hl : (a % 4294967296).toNat % 2 ^ n < 2 ^ n := Nat.mod_lt _ hp0
  rw [bvI32 _ (by rw [e]; omega), e, Int.natCast_emod, Int.toNat_of_nonneg (by omega)]
  have hd : ((2 ^ n : Nat) : Int) ∣ 4294967296 := by
    have : (2 : Nat) ^ n ∣ 2 ^ 32 := Nat.pow_dvd_pow 2 (by omega)
    exact Int.natCast_dvd_natCast.mpr this
  exact Int.emod_emod_of_dvd _ hd
theorem band_1 (a : Int) : band a 1 = a % 2 := band_pm a 1 (by decide)
theorem band_31 (a : Int) : band a 31 = a % 32 := band_pm a 5 (by decide)
theorem band_127 (a : Int) : band a 127 = a % 128 := band_pm a 7 (by decide)
theorem band_255 (a : Int) : band a 255 = a % 256 := band_pm a 8 (by decide)
theorem band_1023 (a : Int) : band a 1023 = a % 1024 := band_pm a 10 (by decide)
theorem band_2047 (a : Int) : band a 2047 = a % 2048 := band_pm a 11 (by decide)
theorem sh32 : ∀ b : Nat, b < 32 → ((BitVec.ofInt 32 (b : Int) &&& 31#32).smod 32#32).toNat = b := by decide +kernel
theorem shr_div {a k : Int} (ha0 : -2147483648 ≤ a) (ha1 : a < 2147483648) (hk0 : 0 ≤ k) (hk : k < 32) : shr a k = a / ((2 ^ k.toNat : Nat) : Int) := by
  rw [shr_eq]
  show ((BitVec.ofInt 32 a).sshiftRight' ((BitVec.ofInt 32 k &&& 31#32).smod 32#32)).toInt = _
  rw [BitVec.toInt_sshiftRight', show k = ((k.toNat : Nat) : Int) by omega, sh32 _ (by omega), Int.shiftRight_eq_div_pow]
  have : (BitVec.ofInt 32 a).toInt = a := BitVec.toInt_ofInt_eq_self (by decide) (by simpa using ha0) (by simpa using ha1)
  rw [this, Int.toNat_natCast]
theorem shl_mul {a k : Int} (ha0 : 0 ≤ a) (hk0 : 0 ≤ k) (hk : k < 31) (h : a.toNat * 2 ^ k.toNat < 2147483648) : shl a k = a * ((2 ^ k.toNat : Nat) : Int) := by
  rw [shl_eq]
  show (BitVec.ofInt 32 a <<< ((BitVec.ofInt 32 k &&& 31#32).smod 32#32)).toInt = _
  have hp0 : 0 < (2 : Nat) ^ k.toNat := Nat.two_pow_pos _
  have ha : a.toNat ≤ a.toNat * 2 ^ k.toNat := Nat.le_mul_of_pos_right _ hp0
  have e : (BitVec.ofInt 32 a <<< ((BitVec.ofInt 32 k &&& 31#32).smod 32#32)).toNat = a.toNat * 2 ^ k.toNat := by
    show (BitVec.ofInt 32 a <<< ((BitVec.ofInt 32 k &&& 31#32).smod 32#32).toNat).toNat = _
    rw [show k = ((k.toNat : Nat) : Int) by omega, sh32 _ (by omega), BitVec.toNat_shiftLeft, bv32 ha0 (by omega), Nat.shiftLeft_eq, Int.toNat_natCast]
    exact Nat.mod_eq_of_lt (by omega)
  rw [bvI32 _ (by rw [e]; exact h), e, Int.natCast_mul, Int.toNat_of_nonneg ha0]
theorem bxor_not {a : Int} (ha0 : -2147483648 ≤ a) (ha1 : a < 2147483648) : bxor a (-1) = -1 - a := by
  rw [bxor_eq]
  show (BitVec.ofInt 32 a ^^^ BitVec.ofInt 32 (-1)).toInt = _
  rw [show BitVec.ofInt 32 (-1) = BitVec.allOnes 32 from rfl, BitVec.xor_allOnes, BitVec.toInt_not, BitVec.toNat_ofInt, show ((2 ^ 32 : Nat) : Int) = 4294967296 from rfl]
  unfold Int.bmod
  dsimp only
  split <;> omega
/-- a bit of a set -/
def bt (x : Int) (k : Nat) : Int := x / ((2 ^ k : Nat) : Int) % 2
theorem bt_01 (x : Int) (k : Nat) : bt x k = 0 ∨ bt x k = 1 := by unfold bt; omega
theorem bt_of {x k : Int} (h0 : -2147483648 ≤ x) (h1 : x < 2147483648) (hk0 : 0 ≤ k) (hk : k < 32) : band (shr x k) 1 = bt x k.toNat := by
  rw [band_1, shr_div h0 h1 hk0 hk]; rfl
theorem bt_test (n k : Nat) : bt (n : Int) k = if n.testBit k then 1 else 0 := by
  unfold bt
  rw [Nat.testBit_eq_decide_div_mod_eq]
  have : ((n : Int) / ((2 ^ k : Nat) : Int)) = ((n / 2 ^ k : Nat) : Int) := (Int.natCast_ediv n (2 ^ k)).symm
  rw [this]
  by_cases h : n / 2 ^ k % 2 = 1
  · simp only [h, decide_true, if_true]; omega
  · rw [if_neg (by simpa using h)]; omega
theorem bt_xor {a b : Int} (ha : 0 ≤ a) (ha' : a < 2147483648) (hb : 0 ≤ b) (hb' : b < 2147483648) (k : Nat) : bt (bxor a b) k = (bt a k + bt b k) % 2 := by
  rw [bxor_nn ha ha' hb hb', bt_test, show a = (a.toNat : Int) by omega, show b = (b.toNat : Int) by omega, bt_test, bt_test, Nat.testBit_xor]
  simp only [Int.toNat_natCast]
  by_cases h1 : a.toNat.testBit k = true <;> by_cases h2 : b.toNat.testBit k = true <;> simp [h1, h2]
theorem bt_or {a b : Int} (ha : 0 ≤ a) (ha' : a < 2147483648) (hb : 0 ≤ b) (hb' : b < 2147483648) (k : Nat) : bt (bor a b) k = if bt a k = 1 ∨ bt b k = 1 then 1 else 0 := by
  rw [bor_nn ha ha' hb hb', bt_test, show a = (a.toNat : Int) by omega, show b = (b.toNat : Int) by omega, bt_test, bt_test, Nat.testBit_or]
  simp only [Int.toNat_natCast]
  by_cases h1 : a.toNat.testBit k = true <;> by_cases h2 : b.toNat.testBit k = true <;> simp [h1, h2]
theorem bt_and {a b : Int} (ha : 0 ≤ a) (ha' : a < 2147483648) (hb : 0 ≤ b) (hb' : b < 2147483648) (k : Nat) : bt (band a b) k = if bt a k = 1 ∧ bt b k = 1 then 1 else 0 := by
  rw [band_nn ha ha' hb hb', bt_test, show a = (a.toNat : Int) by omega, show b = (b.toNat : Int) by omega, bt_test, bt_test, Nat.testBit_and]
  simp only [Int.toNat_natCast]
  by_cases h1 : a.toNat.testBit k = true <;> by_cases h2 : b.toNat.testBit k = true <;> simp [h1, h2]
theorem bxor_lt {a b : Int} (n : Nat) (hn : n ≤ 31) (ha : 0 ≤ a) (ha' : a < ((2 ^ n : Nat) : Int)) (hb : 0 ≤ b) (hb' : b < ((2 ^ n : Nat) : Int)) : 0 ≤ bxor a b ∧ bxor a b < ((2 ^ n : Nat) : Int) := by
  have hp : (2 : Nat) ^ n ≤ 2 ^ 31 := Nat.pow_le_pow_right (by decide) hn
  rw [bxor_nn ha (by omega) hb (by omega)]
  have : a.toNat ^^^ b.toNat < 2 ^ n := Nat.xor_lt_two_pow (by omega) (by omega)
  omega
theorem bor_lt {a b : Int} (n : Nat) (hn : n ≤ 31) (ha : 0 ≤ a) (ha' : a < ((2 ^ n : Nat) : Int)) (hb : 0 ≤ b) (hb' : b < ((2 ^ n : Nat) : Int)) : 0 ≤ bor a b ∧ bor a b < ((2 ^ n : Nat) : Int) := by
  have hp : (2 : Nat) ^ n ≤ 2 ^ 31 := Nat.pow_le_pow_right (by decide) hn
  rw [bor_nn ha (by omega) hb (by omega)]
  have : a.toNat ||| b.toNat < 2 ^ n := Nat.or_lt_two_pow (by omega) (by omega)
  omega
theorem shl_1 {k : Int} (hk0 : 0 ≤ k) (hk : k < 31) : shl 1 k = ((2 ^ k.toNat : Nat) : Int) := by
  have hp : (2 : Nat) ^ k.toNat ≤ 2 ^ 30 := Nat.pow_le_pow_right (by decide) (by omega)
  rw [shl_mul (by decide) hk0 hk (by simp only [Int.toNat_one, Nat.one_mul]; omega), Int.one_mul]
theorem bt_pow (j k : Nat) : bt ((2 ^ j : Nat) : Int) k = if j = k then 1 else 0 := by
  rw [bt_test, Nat.testBit_two_pow]
  by_cases h : j = k <;> simp [h]
theorem pow_lt {j n : Nat} (h : j < n) : ((2 ^ j : Nat) : Int) < ((2 ^ n : Nat) : Int) := Int.ofNat_lt.mpr (Nat.pow_lt_pow_right (by decide) h)
/-- two sets of like bits are one -/
theorem bt_ext {a b : Int} (n : Nat) (ha : 0 ≤ a) (ha' : a < ((2 ^ n : Nat) : Int)) (hb : 0 ≤ b) (hb' : b < ((2 ^ n : Nat) : Int)) (h : ∀ k, k < n → bt a k = bt b k) : a = b := by
  have e : a.toNat = b.toNat := by
    apply Nat.eq_of_testBit_eq
    intro i
    by_cases hi : i < n
    · have := h i hi
      rw [show a = (a.toNat : Int) by omega, show b = (b.toNat : Int) by omega, bt_test, bt_test] at this
      revert this
      by_cases h1 : a.toNat.testBit i = true <;> by_cases h2 : b.toNat.testBit i = true <;> simp [h1, h2]
    · have hp : (2 : Nat) ^ n ≤ 2 ^ i := Nat.pow_le_pow_right (by decide) (by omega)
      rw [Nat.testBit_lt_two_pow (by omega), Nat.testBit_lt_two_pow (by omega)]
  omega
theorem bt_not {x : Int} (k : Nat) : bt (-1 - x) k = 1 - bt x k := by
  unfold bt
  have hp0 : (0 : Int) < ((2 ^ k : Nat) : Int) := by have := Nat.two_pow_pos k; omega
  have e : (-1 - x) / ((2 ^ k : Nat) : Int) = -1 - x / ((2 ^ k : Nat) : Int) := by
    generalize ((2 ^ k : Nat) : Int) = m at hp0 ⊢
    have h1 := Int.emod_add_mul_ediv x m
    have h2 := Int.emod_nonneg x (show m ≠ 0 by omega)
    have h3 := Int.emod_lt_of_pos x hp0
    have : -1 - x = (m - 1 - x % m) + m * (-1 - x / m) := by rw [Int.mul_sub, Int.mul_neg, Int.mul_one]; omega
    rw [this, Int.add_mul_ediv_left _ _ (by omega), Int.ediv_eq_zero_of_lt (by omega) (by omega), Int.zero_add]
  rw [e]
  omega
/-! long numbers: eight strengths of seven bits -/
theorem sh64 : ∀ b : Nat, b < 64 → ((BitVec.ofInt 32 (b : Int)).signExtend 64 &&& 63#64).toNat = b := by decide +kernel
def dg (F : Int) (o : Nat) : Int := F / ((2 ^ (7 * o) : Nat) : Int) % 128
theorem dg_lt (F : Int) (o : Nat) : 0 ≤ dg F o ∧ dg F o < 128 := by unfold dg; omega
theorem ushrL_div {a k : Int} (ha0 : 0 ≤ a) (ha1 : a < 9223372036854775808) (hk0 : 0 ≤ k) (hk : k < 64) : ushrL a k = a / ((2 ^ k.toNat : Nat) : Int) := by
  rw [ushrL_eq]
  show (BitVec.ofInt 64 a >>> (((BitVec.ofInt 32 k).signExtend 64 &&& 63#64) % 64#64).toNat).toInt = _
  have e0 : (((BitVec.ofInt 32 k).signExtend 64 &&& 63#64) % 64#64).toNat = k.toNat := by
    rw [BitVec.toNat_umod, show k = ((k.toNat : Nat) : Int) by omega, sh64 _ (by omega)]
    show k.toNat % 64 = _
    rw [Int.toNat_natCast]
    omega
  have e : (BitVec.ofInt 64 a >>> k.toNat).toNat = a.toNat / 2 ^ k.toNat := by
    rw [BitVec.toNat_ushiftRight, bv64 ha0 (by omega), Nat.shiftRight_eq_div_pow]
  have hl : a.toNat / 2 ^ k.toNat ≤ a.toNat := Nat.div_le_self _ _
  rw [e0, bvI64 _ (by rw [e]; omega), e, Int.natCast_ediv, Int.toNat_of_nonneg ha0]
theorem shlL_mul {a k : Int} (ha0 : 0 ≤ a) (hk0 : 0 ≤ k) (hk : k < 63) (h : a.toNat * 2 ^ k.toNat < 9223372036854775808) : shlL a k = a * ((2 ^ k.toNat : Nat) : Int) := by
  rw [shlL_eq]
  show (BitVec.ofInt 64 a <<< (((BitVec.ofInt 32 k).signExtend 64 &&& 63#64).smod 64#64).toNat).toInt = _
  have hp0 : 0 < (2 : Nat) ^ k.toNat := Nat.two_pow_pos _
  have ha : a.toNat ≤ a.toNat * 2 ^ k.toNat := Nat.le_mul_of_pos_right _ hp0
  have e0 : (((BitVec.ofInt 32 k).signExtend 64 &&& 63#64).smod 64#64).toNat = k.toNat := by
    have : ∀ b : Nat, b < 64 → (((BitVec.ofInt 32 (b : Int)).signExtend 64 &&& 63#64).smod 64#64).toNat = b := by decide +kernel
    rw [show k = ((k.toNat : Nat) : Int) by omega, this _ (by omega), Int.toNat_natCast]
  have e : (BitVec.ofInt 64 a <<< k.toNat).toNat = a.toNat * 2 ^ k.toNat := by
    rw [BitVec.toNat_shiftLeft, bv64 ha0 (by omega), Nat.shiftLeft_eq]
    exact Nat.mod_eq_of_lt (by omega)
  rw [e0, bvI64 _ (by rw [e]; exact h), e, Int.natCast_mul, Int.toNat_of_nonneg ha0]
theorem borL_nn {a b : Int} (ha : 0 ≤ a) (ha' : a < 9223372036854775808) (hb : 0 ≤ b) (hb' : b < 9223372036854775808) : borL a b = ((a.toNat ||| b.toNat : Nat) : Int) := by
  rw [borL_eq]
  show (BitVec.ofInt 64 a ||| BitVec.ofInt 64 b).toInt = _
  have e : (BitVec.ofInt 64 a ||| BitVec.ofInt 64 b).toNat = a.toNat ||| b.toNat := by
    rw [BitVec.toNat_or, bv64 ha (by omega), bv64 hb (by omega)]
  have hl : a.toNat ||| b.toNat < 2 ^ 63 := Nat.or_lt_two_pow (by omega) (by omega)
  rw [bvI64 _ (by rw [e]; omega), e]
/-- a without the bits of b -/
theorem bandL_not {a b : Int} (ha : 0 ≤ a) (ha' : a < 9223372036854775808) (hb : 0 ≤ b) (hb' : b < 9223372036854775808) : bandL a (bxorL b (-1)) = ((a.toNat &&& (18446744073709551616 - (b.toNat + 1)) : Nat) : Int) := by
  have e1 : bxorL b (-1) = -1 - b := by
    rw [bxorL_eq]
    show (BitVec.ofInt 64 b ^^^ BitVec.ofInt 64 (-1)).toInt = _
    rw [show BitVec.ofInt 64 (-1) = BitVec.allOnes 64 from rfl, BitVec.xor_allOnes, BitVec.toInt_not, BitVec.toNat_ofInt, show ((2 ^ 64 : Nat) : Int) = 18446744073709551616 from rfl]
    unfold Int.bmod
    dsimp only
    split <;> omega
  rw [e1, bandL_eq]
  show (BitVec.ofInt 64 a &&& BitVec.ofInt 64 (-1 - b)).toInt = _
  have e : (BitVec.ofInt 64 a &&& BitVec.ofInt 64 (-1 - b)).toNat = a.toNat &&& (18446744073709551616 - (b.toNat + 1)) := by
    rw [BitVec.toNat_and, bv64 ha (by omega), BitVec.toNat_ofInt, show ((2 ^ 64 : Nat) : Int) = 18446744073709551616 from rfl]
    congr 1
    omega
  have hl : a.toNat &&& (18446744073709551616 - (b.toNat + 1)) ≤ a.toNat := Nat.and_le_left
  rw [bvI64 _ (by rw [e]; omega), e]
theorem dg_nat (n o : Nat) : dg (n : Int) o = ((n / 2 ^ (7 * o) % 2 ^ 7 : Nat) : Int) := by
  unfold dg
  rw [← Int.natCast_ediv]
  rfl
theorem dg_test (n o i : Nat) : (n / 2 ^ (7 * o) % 2 ^ 7).testBit i = (decide (i < 7) && n.testBit (7 * o + i)) := by
  rw [Nat.testBit_mod_two_pow, Nat.testBit_div_two_pow, Nat.add_comm]
theorem strengthIn_dg {F o : Int} (h0 : 0 ≤ F) (h1 : F < 9223372036854775808) (ho0 : 0 ≤ o) (ho : o < 8) : band (wr (ushrL F (wr (7 * o)))) 127 = dg F o.toNat := by
  rw [band_127, wrN (z := 7 * o) (by omega) (by omega), ushrL_div h0 h1 (by omega) (by omega)]
  unfold dg wr
  rw [show (7 * o).toNat = 7 * o.toNat by omega]
  omega
theorem pack_add {acc v : Int} {o : Nat} (h0 : 0 ≤ acc) (h1 : acc < ((2 ^ (7 * o) : Nat) : Int)) (hv0 : 0 ≤ v) (hv : v < 128) (ho : o < 8) : borL acc (shlL v (wr (7 * (o : Int)))) = acc + v * ((2 ^ (7 * o) : Nat) : Int) ∧ acc + v * ((2 ^ (7 * o) : Nat) : Int) < ((2 ^ (7 * (o + 1)) : Nat) : Int) := by
  have hp : (2 : Nat) ^ (7 * o) ≤ 2 ^ 49 := Nat.pow_le_pow_right (by decide) (by omega)
  have hp0 : 0 < (2 : Nat) ^ (7 * o) := Nat.two_pow_pos _
  have hs : (2 : Nat) ^ (7 * (o + 1)) = 128 * 2 ^ (7 * o) := by rw [show 7 * (o + 1) = 7 * o + 7 by omega, Nat.pow_add, Nat.mul_comm]
  have hm : v.toNat * 2 ^ (7 * o) ≤ 127 * 2 ^ (7 * o) := Nat.mul_le_mul_right _ (by omega)
  have hm2 : (127 : Nat) * 2 ^ (7 * o) ≤ 127 * 2 ^ 49 := Nat.mul_le_mul_left _ hp
  have hw : (wr (7 * (o : Int))).toNat = 7 * o := by rw [wrN (by omega) (by omega)]; omega
  have es : shlL v (wr (7 * (o : Int))) = v * ((2 ^ (7 * o) : Nat) : Int) := by
    rw [shlL_mul hv0 (by rw [wrN (by omega) (by omega)]; omega) (by rw [wrN (by omega) (by omega)]; omega) (by rw [hw]; omega), hw]
  have em : v * ((2 ^ (7 * o) : Nat) : Int) = ((v.toNat * 2 ^ (7 * o) : Nat) : Int) := by rw [Int.natCast_mul, Int.toNat_of_nonneg hv0]
  rw [es, em, borL_nn h0 (by omega) (by omega) (by omega), Int.toNat_natCast]
  have e2 : acc.toNat ||| v.toNat * 2 ^ (7 * o) = v.toNat * 2 ^ (7 * o) + acc.toNat := by
    rw [Nat.or_comm, ← Nat.shiftLeft_eq, ← Nat.shiftLeft_add_eq_or_of_lt (by omega)]
  rw [e2]
  omega
theorem dg_pack {acc v : Int} {o j : Nat} (h0 : 0 ≤ acc) (h1 : acc < ((2 ^ (7 * o) : Nat) : Int)) (hv0 : 0 ≤ v) (hv : v < 128) (hj : j ≤ o) : dg (acc + v * ((2 ^ (7 * o) : Nat) : Int)) j = if j = o then v else dg acc j := by
  have hp0 : 0 < (2 : Nat) ^ (7 * o) := Nat.two_pow_pos _
  unfold dg
  by_cases e : j = o
  · subst e
    rw [if_pos rfl, Int.add_mul_ediv_right _ _ (by omega), Int.ediv_eq_zero_of_lt h0 h1]
    omega
  · rw [if_neg e]
    have hs : (2 : Nat) ^ (7 * o) = 2 ^ (7 * j) * (128 * 2 ^ (7 * o - 7 * j - 7)) := by
      rw [show (128 : Nat) = 2 ^ 7 from rfl, ← Nat.pow_add, ← Nat.pow_add]
      congr 1
      omega
    rw [hs, Int.natCast_mul, Int.natCast_mul, Int.mul_comm v, Int.mul_assoc, Int.add_mul_ediv_left _ _ (by have := Nat.two_pow_pos (7 * j); omega), Int.mul_assoc]
    generalize ((2 ^ (7 * o - 7 * j - 7) : Nat) : Int) * v = q
    generalize acc / ((2 ^ (7 * j) : Nat) : Int) = r
    omega
theorem dg_set {F v o : Int} (h0 : 0 ≤ F) (h1 : F < ((2 ^ 56 : Nat) : Int)) (hv0 : 0 ≤ v) (hv : v < 128) (ho0 : 0 ≤ o) (ho : o < 8) :
    (0 ≤ borL (bandL F (bxorL (shlL 127 (wr (7 * o))) (-1))) (shlL v (wr (7 * o))) ∧ borL (bandL F (bxorL (shlL 127 (wr (7 * o))) (-1))) (shlL v (wr (7 * o))) < ((2 ^ 56 : Nat) : Int)) ∧
    ∀ j : Nat, j < 8 → dg (borL (bandL F (bxorL (shlL 127 (wr (7 * o))) (-1))) (shlL v (wr (7 * o)))) j = if (j : Int) = o then v else dg F j := by
  have h56 : ((2 ^ 56 : Nat) : Int) = 72057594037927936 := rfl
  obtain ⟨n, rfl⟩ : ∃ n : Nat, o = (n : Int) := ⟨o.toNat, by omega⟩
  have hp : (2 : Nat) ^ (7 * n) ≤ 2 ^ 49 := Nat.pow_le_pow_right (by decide) (by omega)
  have hp0 : 0 < (2 : Nat) ^ (7 * n) := Nat.two_pow_pos _
  have hm : v.toNat * 2 ^ (7 * n) ≤ 127 * 2 ^ (7 * n) := Nat.mul_le_mul_right _ (by omega)
  have hw : (wr (7 * (n : Int))).toNat = 7 * n := by rw [wrN (by omega) (by omega)]; omega
  have hw2 : 0 ≤ wr (7 * (n : Int)) ∧ wr (7 * (n : Int)) < 63 := by rw [wrN (by omega) (by omega)]; omega
  have es : shlL v (wr (7 * (n : Int))) = ((v.toNat * 2 ^ (7 * n) : Nat) : Int) := by
    rw [shlL_mul hv0 hw2.1 hw2.2 (by rw [hw]; omega), hw, Int.natCast_mul, Int.toNat_of_nonneg hv0]
  have et : shlL 127 (wr (7 * (n : Int))) = ((127 * 2 ^ (7 * n) : Nat) : Int) := by
    rw [shlL_mul (by decide) hw2.1 hw2.2 (by rw [hw]; show 127 * _ < _; omega), hw, Int.natCast_mul]
    rfl
  rw [es, et, bandL_not h0 (by omega) (by omega) (by omega), Int.toNat_natCast]
  have hl : F.toNat &&& (18446744073709551616 - (127 * 2 ^ (7 * n) + 1)) ≤ F.toNat := Nat.and_le_left
  rw [borL_nn (by omega) (by omega) (by omega) (by omega), Int.toNat_natCast, Int.toNat_natCast]
  have hl2 : (F.toNat &&& (18446744073709551616 - (127 * 2 ^ (7 * n) + 1))) ||| v.toNat * 2 ^ (7 * n) < 2 ^ 56 := by
    refine Nat.or_lt_two_pow (by omega) ?_
    have : v.toNat * 2 ^ (7 * n) < 128 * 2 ^ (7 * n) := Nat.mul_lt_mul_of_pos_right (by omega) hp0
    have h49 : (128 : Nat) * 2 ^ (7 * n) ≤ 128 * 2 ^ 49 := Nat.mul_le_mul_left _ hp
    omega
  refine ⟨by omega, fun j hj => ?_⟩
  rw [dg_nat]
  have key : ∀ i, i < 7 → ((F.toNat &&& (18446744073709551616 - (127 * 2 ^ (7 * n) + 1))) ||| v.toNat * 2 ^ (7 * n)).testBit (7 * j + i) = if j = n then v.toNat.testBit i else F.toNat.testBit (7 * j + i) := by
    intro i hi
    rw [Nat.testBit_or, Nat.testBit_and, show (18446744073709551616 : Nat) = 2 ^ 64 from rfl, Nat.testBit_two_pow_sub_succ (by omega), Nat.testBit_mul_two_pow, Nat.testBit_mul_two_pow]
    by_cases e : j = n
    · subst e
      have : (127 : Nat).testBit (7 * j + i - 7 * j) = true := by
        rw [show 7 * j + i - 7 * j = i by omega, show (127 : Nat) = 2 ^ 7 - 1 from rfl, Nat.testBit_two_pow_sub_one]
        simp [hi]
      rw [this, if_pos rfl, show 7 * j + i - 7 * j = i by omega]
      simp
    · rw [if_neg e]
      by_cases h : j < n
      · simp [show ¬ (7 * n ≤ 7 * j + i) by omega, show 7 * j + i < 64 by omega]
      · have hb : (127 : Nat).testBit (7 * j + i - 7 * n) = false := Nat.testBit_lt_two_pow (Nat.lt_of_lt_of_le (show 127 < 2 ^ 7 by decide) (Nat.pow_le_pow_right (by decide) (by omega)))
        have hb2 : v.toNat.testBit (7 * j + i - 7 * n) = false := Nat.testBit_lt_two_pow (Nat.lt_of_lt_of_le (show v.toNat < 2 ^ 7 by omega) (Nat.pow_le_pow_right (by decide) (by omega)))
        rw [hb, hb2]
        simp [show 7 * j + i < 64 by omega]
  by_cases e : j = n
  · subst e
    rw [if_pos rfl]
    have : ((F.toNat &&& (18446744073709551616 - (127 * 2 ^ (7 * j) + 1))) ||| v.toNat * 2 ^ (7 * j)) / 2 ^ (7 * j) % 2 ^ 7 = v.toNat := by
      apply Nat.eq_of_testBit_eq
      intro i
      rw [dg_test]
      by_cases hi : i < 7
      · rw [key i hi, if_pos rfl]; simp [hi]
      · rw [Nat.testBit_lt_two_pow (x := v.toNat) (Nat.lt_of_lt_of_le (show v.toNat < 2 ^ 7 by omega) (Nat.pow_le_pow_right (by decide) (by omega)))]
        simp [hi]
    rw [this]
    omega
  · rw [if_neg (by omega), show F = (F.toNat : Int) by omega, dg_nat]
    have : ((F.toNat &&& (18446744073709551616 - (127 * 2 ^ (7 * n) + 1))) ||| v.toNat * 2 ^ (7 * n)) / 2 ^ (7 * j) % 2 ^ 7 = F.toNat / 2 ^ (7 * j) % 2 ^ 7 := by
      apply Nat.eq_of_testBit_eq
      intro i
      rw [dg_test, dg_test]
      by_cases hi : i < 7
      · rw [key i hi, if_neg e]
      · simp [hi]
    simp only [Int.toNat_natCast]
    rw [this]
/-- two of like digits are one -/
theorem dg_ext {F G : Int} (hF0 : 0 ≤ F) (hF : F < ((2 ^ 56 : Nat) : Int)) (hG0 : 0 ≤ G) (hG : G < ((2 ^ 56 : Nat) : Int)) (h : ∀ j : Nat, j < 8 → dg F j = dg G j) : F = G := by
  have key : ∀ k : Nat, k ≤ 8 → F / ((2 ^ (7 * (8 - k)) : Nat) : Int) = G / ((2 ^ (7 * (8 - k)) : Nat) : Int) := by
    intro k
    induction k with
    | zero => intro _; rw [Int.ediv_eq_zero_of_lt hF0 hF, Int.ediv_eq_zero_of_lt hG0 hG]
    | succ k ih =>
      intro hk
      have h1 := ih (by omega)
      have h2 := h (8 - (k + 1)) (by omega)
      unfold dg at h2
      have hs : (2 : Nat) ^ (7 * (8 - k)) = 2 ^ (7 * (8 - (k + 1))) * 128 := by
        rw [show (128 : Nat) = 2 ^ 7 from rfl, ← Nat.pow_add]
        congr 1
        omega
      rw [hs, Int.natCast_mul, ← Int.ediv_ediv_of_nonneg (by omega), ← Int.ediv_ediv_of_nonneg (by omega)] at h1
      generalize F / ((2 ^ (7 * (8 - (k + 1))) : Nat) : Int) = x at h1 h2 ⊢
      generalize G / ((2 ^ (7 * (8 - (k + 1))) : Nat) : Int) = y at h1 h2 ⊢
      omega
  have := key 8 (by omega)
  simpa using this
theorem lcp_0 {a b : Int} : lcp a b = 0 ↔ a = b := by
  rw [lcp_eq]
  split
  · constructor
    · intro h; omega
    · intro h; omega
  · split
    · rename_i h; exact ⟨fun _ => h, fun _ => rfl⟩
    · rename_i h; exact ⟨fun h2 => by omega, fun h2 => absurd h2 h⟩
theorem lcp_pos {a b : Int} : 0 < lcp a b ↔ b < a := by
  rw [lcp_eq]
  split
  · rename_i h; exact ⟨fun _ => h, fun _ => by omega⟩
  · split <;> (rename_i h1 h2; constructor <;> intro h <;> omega)
theorem lcp_neg {a b : Int} : lcp a b < 0 ↔ a < b := by
  rw [lcp_eq]
  split
  · rename_i h; constructor <;> intro h2 <;> omega
  · split <;> (rename_i h1 h2; constructor <;> intro h <;> omega)
/-- a stamp of what is kept, with seven bits below -/
theorem stamp_or {s v : Int} (hs0 : 0 ≤ s) (hs : s < 16777216) (hv0 : 0 ≤ v) (hv : v < 128) : bor (shl s 7) v = s * 128 + v := by
  have es : shl s 7 = s * 128 := shl_mul hs0 (by decide) (by decide) (by show s.toNat * 128 < _; omega)
  rw [es, bor_nn (by omega) (by omega) hv0 (by omega)]
  have e2 : (s * 128).toNat ||| v.toNat = s.toNat * 128 + v.toNat := by
    rw [show (s * 128).toNat = s.toNat * 2 ^ 7 by omega, ← Nat.shiftLeft_eq, ← Nat.shiftLeft_add_eq_or_of_lt (by omega), Nat.shiftLeft_eq]
  rw [e2]
  omega
theorem stamp_shr {s v : Int} (hs0 : 0 ≤ s) (hs : s < 16777216) (hv0 : 0 ≤ v) (hv : v < 128) : shr (s * 128 + v) 7 = s ∧ band (s * 128 + v) 127 = v := by
  rw [shr_div (by omega) (by omega) (by decide) (by decide), band_127]
  show (s * 128 + v) / 128 = s ∧ _
  omega
theorem imn_le {a b : Int} (h : a ≤ b) : imn a b = a := by rw [imn_eq]; split <;> omega
theorem imn_ge {a b : Int} (h : b ≤ a) : imn a b = b := by rw [imn_eq]; split <;> omega
theorem imx_le {a b : Int} (h : a ≤ b) : imx a b = b := by rw [imx_eq]; split <;> omega
theorem imx_ge {a b : Int} (h : b ≤ a) : imx a b = a := by rw [imx_eq]; split <;> omega
