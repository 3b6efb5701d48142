theorem and2 {k h l mh ml : Nat} (hl : l < 2 ^ k) (hm : ml < 2 ^ k) : (h * 2 ^ k + l) &&& (mh * 2 ^ k + ml) = (h &&& mh) * 2 ^ k + (l &&& ml) := by
  have hp : 0 < 2 ^ k := Nat.two_pow_pos k
  have e1 : ((h * 2 ^ k + l) &&& (mh * 2 ^ k + ml)) / 2 ^ k = h &&& mh := by
    rw [Nat.and_div_two_pow, Nat.mul_comm h, Nat.mul_comm mh, Nat.mul_add_div hp, Nat.mul_add_div hp, Nat.div_eq_of_lt hl, Nat.div_eq_of_lt hm, Nat.add_zero, Nat.add_zero]
  have e2 : ((h * 2 ^ k + l) &&& (mh * 2 ^ k + ml)) % 2 ^ k = l &&& ml := by
    rw [Nat.and_mod_two_pow, Nat.mul_comm h, Nat.mul_comm mh, Nat.mul_add_mod, Nat.mul_add_mod, Nat.mod_eq_of_lt hl, Nat.mod_eq_of_lt hm]
  have e3 := Nat.div_add_mod ((h * 2 ^ k + l) &&& (mh * 2 ^ k + ml)) (2 ^ k)
  rw [e1, e2, Nat.mul_comm] at e3
  exact e3.symm
theorem and4 {x0 x1 x2 x3 m0 m1 m2 m3 : Nat} (h0 : x0 < 256) (h1 : x1 < 256) (h2 : x2 < 256) (g0 : m0 < 256) (g1 : m1 < 256) (g2 : m2 < 256) :
    (x0 + 256 * x1 + 65536 * x2 + 16777216 * x3) &&& (m0 + 256 * m1 + 65536 * m2 + 16777216 * m3) = (x0 &&& m0) + 256 * (x1 &&& m1) + 65536 * (x2 &&& m2) + 16777216 * (x3 &&& m3) := by
  have a1 := and2 (k := 8) (h := x1 + 256 * x2 + 65536 * x3) (l := x0) (mh := m1 + 256 * m2 + 65536 * m3) (ml := m0) (by omega) (by omega)
  have a2 := and2 (k := 8) (h := x2 + 256 * x3) (l := x1) (mh := m2 + 256 * m3) (ml := m1) (by omega) (by omega)
  have a3 := and2 (k := 8) (h := x3) (l := x2) (mh := m3) (ml := m2) (by omega) (by omega)
  rw [show (x1 + 256 * x2 + 65536 * x3) = (x2 + 256 * x3) * 2 ^ 8 + x1 by omega, show (m1 + 256 * m2 + 65536 * m3) = (m2 + 256 * m3) * 2 ^ 8 + m1 by omega, a2, show (x2 + 256 * x3) = x3 * 2 ^ 8 + x2 by omega, show (m2 + 256 * m3) = m3 * 2 ^ 8 + m2 by omega, a3] at a1
  rw [show x0 + 256 * x1 + 65536 * x2 + 16777216 * x3 = ((x3 * 2 ^ 8 + x2) * 2 ^ 8 + x1) * 2 ^ 8 + x0 by omega, show m0 + 256 * m1 + 65536 * m2 + 16777216 * m3 = ((m3 * 2 ^ 8 + m2) * 2 ^ 8 + m1) * 2 ^ 8 + m0 by omega, a1]
  omega
def sw1 (x : Nat) : Nat := x - ((x / 2) &&& 85)
def sw2 (x : Nat) : Nat := (x &&& 51) + ((x / 4) &&& 51)
def sw3 (x : Nat) : Nat := (x + x / 16) &&& 15
def pop8 (x : Nat) : Nat := x % 2 + x / 2 % 2 + x / 4 % 2 + x / 8 % 2 + x / 16 % 2 + x / 32 % 2 + x / 64 % 2 + x / 128 % 2
theorem byte1 : ∀ b : Fin 256, ∀ t : Fin 2, ((b.val / 2 + 128 * t.val) &&& 85) = ((b.val / 2) &&& 85) := by decide +kernel
theorem byte2 : ∀ b : Fin 256, ∀ t : Fin 4, ((b.val / 4 + 64 * t.val) &&& 51) = ((b.val / 4) &&& 51) := by decide +kernel
theorem byteA : ∀ b : Fin 256, (b.val / 2) &&& 85 ≤ b.val ∧ sw1 b.val < 256 ∧ sw2 (sw1 b.val) < 69 ∧ sw2 (sw1 b.val) % 16 ≤ 4 ∧ sw2 (sw1 b.val) / 16 ≤ 4 ∧ sw3 (sw2 (sw1 b.val)) = pop8 b.val := by decide +kernel
