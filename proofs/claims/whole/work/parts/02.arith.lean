/-! ints of the machine as integers -/
abbrev InR (x : Int) : Prop := -2147483648 ≤ x ∧ x ≤ 2147483647
abbrev InL (x : Int) : Prop := -9223372036854775808 ≤ x ∧ x ≤ 9223372036854775807
theorem o32 {x : Int} (h : InR x) : (Int32.ofInt x).toInt = x := by
  have e : Int32.size = 4294967296 := rfl
  rw [Int32.toInt_ofInt, e]
  exact Int.bmod_eq_of_le (by omega) (by omega)
theorem o64 {x : Int} (h : InL x) : (Int64.ofInt x).toInt = x := by
  have e : Int64.size = 18446744073709551616 := rfl
  rw [Int64.toInt_ofInt, e]
  exact Int.bmod_eq_of_le (by omega) (by omega)
theorem o32_inj {x y : Int} (hx : InR x) (hy : InR y) : Int32.ofInt x = Int32.ofInt y ↔ x = y := by
  constructor
  · intro h
    have := congrArg Int32.toInt h
    rwa [o32 hx, o32 hy] at this
  · intro h; rw [h]
theorem o32_lt {x y : Int} (hx : InR x) (hy : InR y) : Int32.ofInt x < Int32.ofInt y ↔ x < y := by
  rw [Int32.lt_iff_toInt_lt, o32 hx, o32 hy]
theorem o32_le {x y : Int} (hx : InR x) (hy : InR y) : Int32.ofInt x ≤ Int32.ofInt y ↔ x ≤ y := by
  rw [Int32.le_iff_toInt_le, o32 hx, o32 hy]
theorem o32_0 : (0 : Int32) = Int32.ofInt 0 := rfl
theorem o32_of {x : Int32} : Int32.ofInt x.toInt = x := by
  apply Int32.toInt_inj.mp
  exact o32 ⟨by have := Int32.le_toInt x; omega, by have := Int32.toInt_lt x; omega⟩
theorem i32_in (x : Int32) : InR x.toInt := ⟨by have := Int32.le_toInt x; omega, by have := Int32.toInt_lt x; omega⟩
theorem o32_cl {x : Int} (h : InR x) : (Int32.ofInt x).toNatClampNeg = x.toNat := by
  show (Int32.ofInt x).toInt.toNat = x.toNat
  rw [o32 h]
theorem o32_in {x : Int} {n : Nat} (h : InR x) (h0 : 0 ≤ x) (h1 : x < n) : vp_in (Int32.ofInt x) n := by
  rw [vp_in_iff, o32 h]
  exact ⟨h0, h1⟩
def shlI (x y : Int) : Int := x * 2 ^ y.toNat
def shrI (x y : Int) : Int := x / 2 ^ y.toNat
def andI (x y : Int) : Int := (Int32.ofInt x &&& Int32.ofInt y).toInt
def orI (x y : Int) : Int := (Int32.ofInt x ||| Int32.ofInt y).toInt
def xorI (x y : Int) : Int := (Int32.ofInt x ^^^ Int32.ofInt y).toInt
def i2bI (x : Int) : Int := Int.bmod x 256
def ushI (x y : Int) : Int := (((Int32.ofInt x).toUInt32 >>> ((Int32.ofInt y).toUInt32 &&& Int32.toUInt32 31)).toInt32).toInt
def cmpI (x y : Int) : Int := if y < x then 1 else if x = y then 0 else -1
theorem sh_amt : ∀ n : Nat, n < 32 → ((Int32.ofNat n &&& 31).toBitVec.smod 32).toNat = n := by decide +kernel
theorem o32_nat {y : Int} (h : 0 ≤ y) : Int32.ofInt y = Int32.ofNat y.toNat := by
  obtain ⟨n, rfl⟩ := Int.eq_ofNat_of_zero_le h
  rfl
theorem o32_shr {x y : Int} (hx : InR x) (h0 : 0 ≤ y) (h1 : y < 32) : Int32.ofInt x >>> (Int32.ofInt y &&& 31) = Int32.ofInt (shrI x y) := by
  have hs : ((Int32.ofInt y &&& 31).toBitVec.smod 32).toNat = y.toNat := by
    rw [o32_nat h0]; exact sh_amt _ (by omega)
  apply Int32.toInt_inj.mp
  rw [pk_shr _ _ _ hs, o32 hx]
  have e : x >>> y.toNat = shrI x y := by rw [Int.shiftRight_eq_div_pow]; rfl
  rw [e]
  refine (o32 ?_).symm
  unfold shrI
  have hp : (0 : Int) < 2 ^ y.toNat := Int.pow_pos (by decide)
  constructor
  · exact Int.le_ediv_of_mul_le hp (by
      have h2 : (1 : Int) ≤ 2 ^ y.toNat := hp
      have := Int.mul_le_mul_of_nonneg_left h2 (show (0 : Int) ≤ 2147483648 by decide)
      omega)
  · by_cases hx0 : 0 ≤ x
    · exact Int.le_trans (Int.ediv_le_self _ hx0) hx.2
    · have : x / 2 ^ y.toNat < 0 := Int.ediv_neg_of_neg_of_pos (by omega) hp
      omega
theorem o32_shl {x y : Int} (h0 : 0 ≤ y) (h1 : y < 32) : Int32.ofInt x <<< (Int32.ofInt y &&& 31) = Int32.ofInt (shlI x y) := by
  have hs : ((Int32.ofInt y &&& 31).toBitVec.smod 32) = BitVec.ofNat 32 y.toNat := by
    apply BitVec.eq_of_toNat_eq
    rw [o32_nat h0, sh_amt _ (by omega), BitVec.toNat_ofNat, Nat.mod_eq_of_lt (by omega)]
  apply Int32.toBitVec_inj.mp
  rw [Int32.toBitVec_shiftLeft, hs, Int32.toBitVec_ofInt, Int32.toBitVec_ofInt]
  unfold shlI
  rw [BitVec.ofInt_mul, BitVec.shiftLeft_eq', BitVec.shiftLeft_eq_mul_twoPow]
  congr 1
  rw [BitVec.toNat_ofNat, Nat.mod_eq_of_lt (by omega)]
  apply BitVec.eq_of_toNat_eq
  rw [BitVec.toNat_twoPow]
  have e : (2 : Int) ^ y.toNat = ((2 ^ y.toNat : Nat) : Int) := by simp
  rw [BitVec.toNat_ofInt, e, ← Int.natCast_emod, Int.toNat_natCast]
theorem o32_i2b (x : Int) (hx : InR x) : (Int32.ofInt x).toInt8.toInt32 = Int32.ofInt (i2bI x) := by
  apply Int32.toInt_inj.mp
  have h1 := Int.bmod_lt (x := x) (m := 256) (by decide)
  have h2 := Int.le_bmod (x := x) (m := 256) (by decide)
  rw [Int8.toInt_toInt32, Int32.toInt_toInt8, o32 hx, o32 (by unfold i2bI; omega)]
  rfl
theorem o32_div {x y : Int} (hx : InR x) (hy : InR y) : Int32.ofInt x / Int32.ofInt y = Int32.ofInt (Int.tdiv x y) := by
  apply Int32.toInt_inj.mp
  rw [Int32.toInt_div, o32 hx, o32 hy, Int32.toInt_ofInt]
theorem o32_rem {x y : Int} (hx : InR x) (hy : InR y) : Int32.ofInt x - Int32.ofInt x / Int32.ofInt y * Int32.ofInt y = Int32.ofInt (Int.tmod x y) := by
  rw [o32_div hx hy, ← Int32.ofInt_mul, ← Int32.ofInt_sub]
  congr 1
  have := Int.mul_tdiv_add_tmod x y
  rw [Int.mul_comm] at this
  omega
theorem o32_bip {n : Int} (h : -128 ≤ n ∧ n ≤ 127) : (Int8.ofInt n).toInt32 = Int32.ofInt n := by
  apply Int32.toInt_inj.mp
  have e : Int8.size = 256 := rfl
  rw [Int8.toInt_toInt32, Int8.toInt_ofInt, o32 (by omega), e]
  exact Int.bmod_eq_of_le (by omega) (by omega)
theorem o32_sip {n : Int} (h : -32768 ≤ n ∧ n ≤ 32767) : (Int16.ofInt n).toInt32 = Int32.ofInt n := by
  apply Int32.toInt_inj.mp
  have e : Int16.size = 65536 := rfl
  rw [Int16.toInt_toInt32, Int16.toInt_ofInt, o32 (by omega), e]
  exact Int.bmod_eq_of_le (by omega) (by omega)
theorem o32_i2l {x : Int} (h : InR x) : (Int32.ofInt x).toInt64 = Int64.ofInt x := by
  apply Int64.toInt_inj.mp
  rw [Int32.toInt_toInt64, o32 h, o64 (by omega)]
theorem o64_cmp {x y : Int} (hx : InL x) (hy : InL y) : lg_cmp (Int64.ofInt x) (Int64.ofInt y) = Int32.ofInt (cmpI x y) := by
  have e1 : Int64.ofInt y < Int64.ofInt x ↔ y < x := by rw [Int64.lt_iff_toInt_lt, o64 hx, o64 hy]
  have e2 : Int64.ofInt x = Int64.ofInt y ↔ x = y := by rw [← Int64.toInt_inj, o64 hx, o64 hy]
  unfold lg_cmp cmpI
  by_cases h1 : y < x
  · simp [e1, h1]
  · by_cases h2 : x = y
    · simp [h2]
    · simp [e1, e2, h1, h2]
