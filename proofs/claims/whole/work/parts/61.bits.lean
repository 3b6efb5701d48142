theorem and2 {k h l mh ml : Nat} (hl : l < 2 ^ k) (hm : ml < 2 ^ k) : (h * 2 ^ k + l) &&& (mh * 2 ^ k + ml) = (h &&& mh) * 2 ^ k + (l &&& ml) := by
  have hp : 0 < 2 ^ k := Nat.two_pow_pos k
  have e1 : ((h * 2 ^ k + l) &&& (mh * 2 ^ k + ml)) / 2 ^ k = h &&& mh := by
    rw [Nat.and_div_two_pow, Nat.mul_comm h, Nat.mul_comm mh, Nat.mul_add_div hp, Nat.mul_add_div hp, Nat.div_eq_of_lt hl, Nat.div_eq_of_lt hm, Nat.add_zero, Nat.add_zero]
  have e2 : ((h * 2 ^ k + l) &&& (mh * 2 ^ k + ml)) % 2 ^ k = l &&& ml := by
    rw [Nat.and_mod_two_pow, Nat.mul_comm h, Nat.mul_comm mh, Nat.mul_add_mod, Nat.mul_add_mod, Nat.mod_eq_of_lt hl, Nat.mod_eq_of_lt hm]
  have e3 := Nat.div_add_mod ((h * 2 ^ k + l) &&& (mh * 2 ^ k + ml)) (2 ^ k)
  rw [e1, e2, Nat.mul_comm] at e3
  exact e3.symm
theorem and4 {x0 x1 x2 x3 m0 m1 m2 m3 : Nat} (h0 : x0 < 256) (h1 : x1 < 256) (h2 : x2 < 256) (g0 : m0 < 256) (g1 : m1 < 256) (g2 : m2 < 256) :
    (x0 + 256 * x1 + 65536 * x2 + 16777216 * x3) &&& (m0 + 256 * m1 + 65536 * m2 + 16777216 * m3) = (x0 &&& m0) + 256 * (x1 &&& m1) + 65536 * (x2 &&& m2) + 16777216 * (x3 &&& m3) := by
  have a1 := and2 (k := 8) (h := x1 + 256 * x2 + 65536 * x3) (l := x0) (mh := m1 + 256 * m2 + 65536 * m3) (ml := m0) (by omega) (by omega)
  have a2 := and2 (k := 8) (h := x2 + 256 * x3) (l := x1) (mh := m2 + 256 * m3) (ml := m1) (by omega) (by omega)
  have a3 := and2 (k := 8) (h := x3) (l := x2) (mh := m3) (ml := m2) (by omega) (by omega)
  rw [show (x1 + 256 * x2 + 65536 * x3) = (x2 + 256 * x3) * 2 ^ 8 + x1 by omega, show (m1 + 256 * m2 + 65536 * m3) = (m2 + 256 * m3) * 2 ^ 8 + m1 by omega, a2, show (x2 + 256 * x3) = x3 * 2 ^ 8 + x2 by omega, show (m2 + 256 * m3) = m3 * 2 ^ 8 + m2 by omega, a3] at a1
  rw [show x0 + 256 * x1 + 65536 * x2 + 16777216 * x3 = ((x3 * 2 ^ 8 + x2) * 2 ^ 8 + x1) * 2 ^ 8 + x0 by omega, show m0 + 256 * m1 + 65536 * m2 + 16777216 * m3 = ((m3 * 2 ^ 8 + m2) * 2 ^ 8 + m1) * 2 ^ 8 + m0 by omega, a1]
  omega
def sw1 (x : Nat) : Nat := x - ((x / 2) &&& 85)
def sw2 (x : Nat) : Nat := (x &&& 51) + ((x / 4) &&& 51)
def sw3 (x : Nat) : Nat := (x + x / 16) &&& 15
def pop8 (x : Nat) : Nat := x % 2 + x / 2 % 2 + x / 4 % 2 + x / 8 % 2 + x / 16 % 2 + x / 32 % 2 + x / 64 % 2 + x / 128 % 2
theorem byte1 : ∀ b : Fin 256, ∀ t : Fin 2, ((b.val / 2 + 128 * t.val) &&& 85) = ((b.val / 2) &&& 85) := by decide +kernel
theorem byte2 : ∀ b : Fin 256, ∀ t : Fin 4, ((b.val / 4 + 64 * t.val) &&& 51) = ((b.val / 4) &&& 51) := by decide +kernel
theorem byteA : ∀ b : Fin 256, (b.val / 2) &&& 85 ≤ b.val ∧ sw1 b.val < 256 ∧ sw2 (sw1 b.val) < 69 ∧ sw2 (sw1 b.val) % 16 ≤ 4 ∧ sw2 (sw1 b.val) / 16 ≤ 4 ∧ sw3 (sw2 (sw1 b.val)) = pop8 b.val := by decide +kernel
theorem byte3 : ∀ d : Fin 69, ∀ t : Fin 16, ((d.val + d.val / 16 + 16 * t.val) &&& 15) = ((d.val + d.val / 16) &&& 15) := by decide +kernel
theorem low6 : ∀ x : Fin 64, x.val &&& 63 = x.val := by decide +kernel
/-- four bytes -/
def by4 (x0 x1 x2 x3 : Nat) : Nat := x0 + 256 * x1 + 65536 * x2 + 16777216 * x3
theorem sw_1 {b0 b1 b2 b3 : Nat} (h0 : b0 < 256) (h1 : b1 < 256) (h2 : b2 < 256) (h3 : b3 < 256) : ((by4 b0 b1 b2 b3 / 2) &&& 1431655765) = by4 ((b0 / 2) &&& 85) ((b1 / 2) &&& 85) ((b2 / 2) &&& 85) ((b3 / 2) &&& 85) := by
  have e : by4 b0 b1 b2 b3 / 2 = (b0 / 2 + 128 * (b1 % 2)) + 256 * (b1 / 2 + 128 * (b2 % 2)) + 65536 * (b2 / 2 + 128 * (b3 % 2)) + 16777216 * (b3 / 2) := by unfold by4; omega
  have k0 := byte1 ⟨b0, h0⟩ ⟨b1 % 2, by omega⟩
  have k1 := byte1 ⟨b1, h1⟩ ⟨b2 % 2, by omega⟩
  have k2 := byte1 ⟨b2, h2⟩ ⟨b3 % 2, by omega⟩
  rw [e, show (1431655765 : Nat) = 85 + 256 * 85 + 65536 * 85 + 16777216 * 85 by omega, and4 (by omega) (by omega) (by omega) (by omega) (by omega) (by omega)]
  simp only at k0 k1 k2
  rw [k0, k1, k2]
  rfl
theorem sw_2 {b0 b1 b2 b3 : Nat} (h0 : b0 < 256) (h1 : b1 < 256) (h2 : b2 < 256) (h3 : b3 < 256) : (by4 b0 b1 b2 b3 &&& 858993459) + ((by4 b0 b1 b2 b3 / 4) &&& 858993459) = by4 (sw2 b0) (sw2 b1) (sw2 b2) (sw2 b3) := by
  have e : by4 b0 b1 b2 b3 / 4 = (b0 / 4 + 64 * (b1 % 4)) + 256 * (b1 / 4 + 64 * (b2 % 4)) + 65536 * (b2 / 4 + 64 * (b3 % 4)) + 16777216 * (b3 / 4) := by unfold by4; omega
  have k0 := byte2 ⟨b0, h0⟩ ⟨b1 % 4, by omega⟩
  have k1 := byte2 ⟨b1, h1⟩ ⟨b2 % 4, by omega⟩
  have k2 := byte2 ⟨b2, h2⟩ ⟨b3 % 4, by omega⟩
  rw [e, show (858993459 : Nat) = 51 + 256 * 51 + 65536 * 51 + 16777216 * 51 by omega, and4 (by omega) (by omega) (by omega) (by omega) (by omega) (by omega)]
  unfold by4
  rw [and4 (by omega) (by omega) (by omega) (by omega) (by omega) (by omega)]
  simp only at k0 k1 k2
  rw [k0, k1, k2]
  unfold sw2
  generalize b0 &&& 51 = p0
  generalize b1 &&& 51 = p1
  generalize b2 &&& 51 = p2
  generalize b3 &&& 51 = p3
  generalize b0 / 4 &&& 51 = r0
  generalize b1 / 4 &&& 51 = r1
  generalize b2 / 4 &&& 51 = r2
  generalize b3 / 4 &&& 51 = r3
  clear k0 k1 k2 e
  omega
theorem sw_3 {b0 b1 b2 b3 : Nat} (h0 : b0 < 69) (h1 : b1 < 69) (h2 : b2 < 69) (h3 : b3 < 69) (g1 : b1 % 16 ≤ 4) (g2 : b2 % 16 ≤ 4) (g3 : b3 % 16 ≤ 4) : ((by4 b0 b1 b2 b3 + by4 b0 b1 b2 b3 / 16) &&& 252645135) = by4 (sw3 b0) (sw3 b1) (sw3 b2) (sw3 b3) := by
  have e : by4 b0 b1 b2 b3 + by4 b0 b1 b2 b3 / 16 = (b0 + b0 / 16 + 16 * (b1 % 16)) + 256 * (b1 + b1 / 16 + 16 * (b2 % 16)) + 65536 * (b2 + b2 / 16 + 16 * (b3 % 16)) + 16777216 * (b3 + b3 / 16) := by unfold by4; omega
  have k0 := byte3 ⟨b0, h0⟩ ⟨b1 % 16, by omega⟩
  have k1 := byte3 ⟨b1, h1⟩ ⟨b2 % 16, by omega⟩
  have k2 := byte3 ⟨b2, h2⟩ ⟨b3 % 16, by omega⟩
  rw [e, show (252645135 : Nat) = 15 + 256 * 15 + 65536 * 15 + 16777216 * 15 by omega, and4 (by omega) (by omega) (by omega) (by omega) (by omega) (by omega)]
  simp only at k0 k1 k2
  rw [k0, k1, k2]
  rfl
theorem sw_4 {b0 b1 b2 b3 : Nat} (h0 : b0 ≤ 8) (h1 : b1 ≤ 8) (h2 : b2 ≤ 8) (h3 : b3 ≤ 8) : by4 b0 b1 b2 b3 + by4 b0 b1 b2 b3 / 256 = by4 (b0 + b1) (b1 + b2) (b2 + b3) b3 := by unfold by4; omega
theorem sw_5 {b0 b1 b2 b3 : Nat} (h0 : b0 ≤ 8) (h1 : b1 ≤ 8) (h2 : b2 ≤ 8) (h3 : b3 ≤ 8) : ((by4 (b0 + b1) (b1 + b2) (b2 + b3) b3 + by4 (b0 + b1) (b1 + b2) (b2 + b3) b3 / 65536) &&& 63) = b0 + b1 + b2 + b3 := by
  have e : by4 (b0 + b1) (b1 + b2) (b2 + b3) b3 + by4 (b0 + b1) (b1 + b2) (b2 + b3) b3 / 65536 = (b1 + b2 + b3 + 256 * (b2 + b3) + 65536 * b3) * 2 ^ 8 + (b0 + b1 + b2 + b3) := by unfold by4; omega
  have k := and2 (k := 8) (h := b1 + b2 + b3 + 256 * (b2 + b3) + 65536 * b3) (l := b0 + b1 + b2 + b3) (mh := 0) (ml := 63) (by omega) (by omega)
  have k2 := low6 ⟨b0 + b1 + b2 + b3, by omega⟩
  simp only at k2
  rw [e, show (63 : Nat) = 0 * 2 ^ 8 + 63 by omega, k, k2, Nat.and_zero, Nat.zero_mul, Nat.zero_add]
theorem ush_nat {x : Int} {k : Nat} (h0 : 0 ≤ x) (h1 : x < 2147483648) (hk : k < 32) : ushI x k = ((x.toNat / 2 ^ k : Nat) : Int) := by
  have key : ((Int32.ofInt x).toUInt32 >>> ((Int32.ofInt (k : Int)).toUInt32 &&& Int32.toUInt32 31)).toNat = x.toNat / 2 ^ k := by
    rw [o32_nat h0, show Int32.ofInt (k : Int) = Int32.ofNat k from rfl]
    have e1 : (Int32.ofNat x.toNat).toUInt32.toNat = x.toNat := by
      show (BitVec.ofNat 32 x.toNat).toNat = _
      rw [BitVec.toNat_ofNat]
      omega
    have e2 : ((Int32.ofNat k).toUInt32 &&& Int32.toUInt32 31).toNat = k := by
      rw [UInt32.toNat_and]
      show (BitVec.ofNat 32 k).toNat &&& 31 = k
      rw [BitVec.toNat_ofNat, Nat.mod_eq_of_lt (by omega), show (31 : Nat) = 2 ^ 5 - 1 by omega, Nat.and_two_pow_sub_one_eq_mod]
      omega
    rw [UInt32.toNat_shiftRight, e1, e2, Nat.shiftRight_eq_div_pow, Nat.mod_eq_of_lt hk]
  unfold ushI
  have hlt : x.toNat / 2 ^ k < 2147483648 := Nat.lt_of_le_of_lt (Nat.div_le_self _ _) (by omega)
  generalize ((Int32.ofInt x).toUInt32 >>> ((Int32.ofInt (k : Int)).toUInt32 &&& Int32.toUInt32 31)) = u at key
  rw [← key] at hlt ⊢
  show u.toBitVec.toInt = _
  rw [BitVec.toInt_eq_toNat_of_lt]
  · rfl
  · show 2 * u.toNat < _
    omega
