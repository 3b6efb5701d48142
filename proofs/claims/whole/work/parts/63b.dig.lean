theorem zz4 {y : Nat} (h : y < 4) : y / 4 % 2 = 0 := by omega
theorem zz8 {y : Nat} (h : y < 4) : y / 8 % 2 = 0 := by omega
theorem zz16 {y : Nat} (h : y < 4) : y / 16 % 2 = 0 := by omega
theorem zz32 {y : Nat} (h : y < 4) : y / 32 % 2 = 0 := by omega
theorem zz64 {y : Nat} (h : y < 4) : y / 64 % 2 = 0 := by omega
theorem zz128 {y : Nat} (h : y < 4) : y / 128 % 2 = 0 := by omega
theorem cnt26 {P : Int → Prop} : cntZ P 0 26 = 0 + bi (P 0) + bi (P 1) + bi (P 2) + bi (P 3) + bi (P 4) + bi (P 5) + bi (P 6) + bi (P 7) + bi (P 8) + bi (P 9) + bi (P 10) + bi (P 11) + bi (P 12) + bi (P 13) + bi (P 14) + bi (P 15) + bi (P 16) + bi (P 17) + bi (P 18) + bi (P 19) + bi (P 20) + bi (P 21) + bi (P 22) + bi (P 23) + bi (P 24) + bi (P 25) := rfl
theorem bit_dig {a : Int} {j : Nat} (h0 : 0 ≤ a) : bi (bitI a j) = ((a.toNat / 2 ^ j % 2 : Nat) : Int) := by
  have e : bitI a j ↔ a.toNat / 2 ^ j % 2 = 1 := by
    unfold bitI
    rw [Int.toNat_natCast, Nat.testBit_eq_decide_div_mod_eq, decide_eq_true_iff]
  by_cases h : a.toNat / 2 ^ j % 2 = 1
  · rw [bi_1 (e.mpr h), h]; rfl
  · rw [bi_0 (fun z => h (e.mp z))]
    omega
set_option maxHeartbeats 4000000 in
theorem pop_dig {n : Nat} (h : n < 67108864) : popN n = n / 1 % 2 + n / 2 % 2 + n / 4 % 2 + n / 8 % 2 + n / 16 % 2 + n / 32 % 2 + n / 64 % 2 + n / 128 % 2 + n / 256 % 2 + n / 512 % 2 + n / 1024 % 2 + n / 2048 % 2 + n / 4096 % 2 + n / 8192 % 2 + n / 16384 % 2 + n / 32768 % 2 + n / 65536 % 2 + n / 131072 % 2 + n / 262144 % 2 + n / 524288 % 2 + n / 1048576 % 2 + n / 2097152 % 2 + n / 4194304 % 2 + n / 8388608 % 2 + n / 16777216 % 2 + n / 33554432 % 2 := by
  have h0 : n % 256 % 2 = n / 1 % 2 := by clear h; omega
  have h1 : n % 256 / 2 % 2 = n / 2 % 2 := by clear h; omega
  have h2 : n % 256 / 4 % 2 = n / 4 % 2 := by clear h; omega
  have h3 : n % 256 / 8 % 2 = n / 8 % 2 := by clear h; omega
  have h4 : n % 256 / 16 % 2 = n / 16 % 2 := by clear h; omega
  have h5 : n % 256 / 32 % 2 = n / 32 % 2 := by clear h; omega
  have h6 : n % 256 / 64 % 2 = n / 64 % 2 := by clear h; omega
  have h7 : n % 256 / 128 % 2 = n / 128 % 2 := by clear h; omega
  have h8 : n / 256 % 256 % 2 = n / 256 % 2 := (show ∀ x, x % 256 % 2 = x % 2 by intro x; omega) (n / 256)
  have h9 : n / 256 % 256 / 2 % 2 = n / 512 % 2 := ((show ∀ x, x % 256 / 2 % 2 = x / 2 % 2 by intro x; omega) (n / 256)).trans (by rw [Nat.div_div_eq_div_mul])
  have h10 : n / 256 % 256 / 4 % 2 = n / 1024 % 2 := ((show ∀ x, x % 256 / 4 % 2 = x / 4 % 2 by intro x; omega) (n / 256)).trans (by rw [Nat.div_div_eq_div_mul])
  have h11 : n / 256 % 256 / 8 % 2 = n / 2048 % 2 := ((show ∀ x, x % 256 / 8 % 2 = x / 8 % 2 by intro x; omega) (n / 256)).trans (by rw [Nat.div_div_eq_div_mul])
  have h12 : n / 256 % 256 / 16 % 2 = n / 4096 % 2 := ((show ∀ x, x % 256 / 16 % 2 = x / 16 % 2 by intro x; omega) (n / 256)).trans (by rw [Nat.div_div_eq_div_mul])
  have h13 : n / 256 % 256 / 32 % 2 = n / 8192 % 2 := ((show ∀ x, x % 256 / 32 % 2 = x / 32 % 2 by intro x; omega) (n / 256)).trans (by rw [Nat.div_div_eq_div_mul])
  have h14 : n / 256 % 256 / 64 % 2 = n / 16384 % 2 := ((show ∀ x, x % 256 / 64 % 2 = x / 64 % 2 by intro x; omega) (n / 256)).trans (by rw [Nat.div_div_eq_div_mul])
  have h15 : n / 256 % 256 / 128 % 2 = n / 32768 % 2 := ((show ∀ x, x % 256 / 128 % 2 = x / 128 % 2 by intro x; omega) (n / 256)).trans (by rw [Nat.div_div_eq_div_mul])
  have h16 : n / 65536 % 256 % 2 = n / 65536 % 2 := (show ∀ x, x % 256 % 2 = x % 2 by intro x; omega) (n / 65536)
  have h17 : n / 65536 % 256 / 2 % 2 = n / 131072 % 2 := ((show ∀ x, x % 256 / 2 % 2 = x / 2 % 2 by intro x; omega) (n / 65536)).trans (by rw [Nat.div_div_eq_div_mul])
  have h18 : n / 65536 % 256 / 4 % 2 = n / 262144 % 2 := ((show ∀ x, x % 256 / 4 % 2 = x / 4 % 2 by intro x; omega) (n / 65536)).trans (by rw [Nat.div_div_eq_div_mul])
  have h19 : n / 65536 % 256 / 8 % 2 = n / 524288 % 2 := ((show ∀ x, x % 256 / 8 % 2 = x / 8 % 2 by intro x; omega) (n / 65536)).trans (by rw [Nat.div_div_eq_div_mul])
  have h20 : n / 65536 % 256 / 16 % 2 = n / 1048576 % 2 := ((show ∀ x, x % 256 / 16 % 2 = x / 16 % 2 by intro x; omega) (n / 65536)).trans (by rw [Nat.div_div_eq_div_mul])
  have h21 : n / 65536 % 256 / 32 % 2 = n / 2097152 % 2 := ((show ∀ x, x % 256 / 32 % 2 = x / 32 % 2 by intro x; omega) (n / 65536)).trans (by rw [Nat.div_div_eq_div_mul])
  have h22 : n / 65536 % 256 / 64 % 2 = n / 4194304 % 2 := ((show ∀ x, x % 256 / 64 % 2 = x / 64 % 2 by intro x; omega) (n / 65536)).trans (by rw [Nat.div_div_eq_div_mul])
  have h23 : n / 65536 % 256 / 128 % 2 = n / 8388608 % 2 := ((show ∀ x, x % 256 / 128 % 2 = x / 128 % 2 by intro x; omega) (n / 65536)).trans (by rw [Nat.div_div_eq_div_mul])
  have h24 : n / 16777216 % 2 = n / 16777216 % 2 := rfl
  have h25 : n / 16777216 / 2 % 2 = n / 33554432 % 2 := by rw [Nat.div_div_eq_div_mul]
  have z0 : n / 16777216 / 4 % 2 = 0 := zz4 (Nat.div_lt_of_lt_mul h)
  have z1 : n / 16777216 / 8 % 2 = 0 := zz8 (Nat.div_lt_of_lt_mul h)
  have z2 : n / 16777216 / 16 % 2 = 0 := zz16 (Nat.div_lt_of_lt_mul h)
  have z3 : n / 16777216 / 32 % 2 = 0 := zz32 (Nat.div_lt_of_lt_mul h)
  have z4 : n / 16777216 / 64 % 2 = 0 := zz64 (Nat.div_lt_of_lt_mul h)
  have z5 : n / 16777216 / 128 % 2 = 0 := zz128 (Nat.div_lt_of_lt_mul h)
  unfold popN pop8
  rw [h0, h1, h2, h3, h4, h5, h6, h7, h8, h9, h10, h11, h12, h13, h14, h15, h16, h17, h18, h19, h20, h21, h22, h23, h24, h25, z0, z1, z2, z3, z4, z5]
  clear h0 h1 h2 h3 h4 h5 h6 h7 h8 h9 h10 h11 h12 h13 h14 h15 h16 h17 h18 h19 h20 h21 h22 h23 h24 h25 z0 z1 z2 z3 z4 z5 h
  generalize n / 1 % 2 = d0
  generalize n / 2 % 2 = d1
  generalize n / 4 % 2 = d2
  generalize n / 8 % 2 = d3
  generalize n / 16 % 2 = d4
  generalize n / 32 % 2 = d5
  generalize n / 64 % 2 = d6
  generalize n / 128 % 2 = d7
  generalize n / 256 % 2 = d8
  generalize n / 512 % 2 = d9
  generalize n / 1024 % 2 = d10
  generalize n / 2048 % 2 = d11
  generalize n / 4096 % 2 = d12
  generalize n / 8192 % 2 = d13
  generalize n / 16384 % 2 = d14
  generalize n / 32768 % 2 = d15
  generalize n / 65536 % 2 = d16
  generalize n / 131072 % 2 = d17
  generalize n / 262144 % 2 = d18
  generalize n / 524288 % 2 = d19
  generalize n / 1048576 % 2 = d20
  generalize n / 2097152 % 2 = d21
  generalize n / 4194304 % 2 = d22
  generalize n / 8388608 % 2 = d23
  generalize n / 16777216 % 2 = d24
  generalize n / 33554432 % 2 = d25
  omega
theorem pop_cnt {a : Int} (h0 : 0 ≤ a) (h1 : a < 2 ^ 26) : (popN a.toNat : Int) = cntZ (bitI a) 0 26 := by
  rw [cnt26, pop_dig (by omega)]
  rw [show bi (bitI a 0) = ((a.toNat / 1 % 2 : Nat) : Int) from bit_dig (j := 0) h0]
  rw [show bi (bitI a 1) = ((a.toNat / 2 % 2 : Nat) : Int) from bit_dig (j := 1) h0]
  rw [show bi (bitI a 2) = ((a.toNat / 4 % 2 : Nat) : Int) from bit_dig (j := 2) h0]
  rw [show bi (bitI a 3) = ((a.toNat / 8 % 2 : Nat) : Int) from bit_dig (j := 3) h0]
  rw [show bi (bitI a 4) = ((a.toNat / 16 % 2 : Nat) : Int) from bit_dig (j := 4) h0]
  rw [show bi (bitI a 5) = ((a.toNat / 32 % 2 : Nat) : Int) from bit_dig (j := 5) h0]
  rw [show bi (bitI a 6) = ((a.toNat / 64 % 2 : Nat) : Int) from bit_dig (j := 6) h0]
  rw [show bi (bitI a 7) = ((a.toNat / 128 % 2 : Nat) : Int) from bit_dig (j := 7) h0]
  rw [show bi (bitI a 8) = ((a.toNat / 256 % 2 : Nat) : Int) from bit_dig (j := 8) h0]
  rw [show bi (bitI a 9) = ((a.toNat / 512 % 2 : Nat) : Int) from bit_dig (j := 9) h0]
  rw [show bi (bitI a 10) = ((a.toNat / 1024 % 2 : Nat) : Int) from bit_dig (j := 10) h0]
  rw [show bi (bitI a 11) = ((a.toNat / 2048 % 2 : Nat) : Int) from bit_dig (j := 11) h0]
  rw [show bi (bitI a 12) = ((a.toNat / 4096 % 2 : Nat) : Int) from bit_dig (j := 12) h0]
  rw [show bi (bitI a 13) = ((a.toNat / 8192 % 2 : Nat) : Int) from bit_dig (j := 13) h0]
  rw [show bi (bitI a 14) = ((a.toNat / 16384 % 2 : Nat) : Int) from bit_dig (j := 14) h0]
  rw [show bi (bitI a 15) = ((a.toNat / 32768 % 2 : Nat) : Int) from bit_dig (j := 15) h0]
  rw [show bi (bitI a 16) = ((a.toNat / 65536 % 2 : Nat) : Int) from bit_dig (j := 16) h0]
  rw [show bi (bitI a 17) = ((a.toNat / 131072 % 2 : Nat) : Int) from bit_dig (j := 17) h0]
  rw [show bi (bitI a 18) = ((a.toNat / 262144 % 2 : Nat) : Int) from bit_dig (j := 18) h0]
  rw [show bi (bitI a 19) = ((a.toNat / 524288 % 2 : Nat) : Int) from bit_dig (j := 19) h0]
  rw [show bi (bitI a 20) = ((a.toNat / 1048576 % 2 : Nat) : Int) from bit_dig (j := 20) h0]
  rw [show bi (bitI a 21) = ((a.toNat / 2097152 % 2 : Nat) : Int) from bit_dig (j := 21) h0]
  rw [show bi (bitI a 22) = ((a.toNat / 4194304 % 2 : Nat) : Int) from bit_dig (j := 22) h0]
  rw [show bi (bitI a 23) = ((a.toNat / 8388608 % 2 : Nat) : Int) from bit_dig (j := 23) h0]
  rw [show bi (bitI a 24) = ((a.toNat / 16777216 % 2 : Nat) : Int) from bit_dig (j := 24) h0]
  rw [show bi (bitI a 25) = ((a.toNat / 33554432 % 2 : Nat) : Int) from bit_dig (j := 25) h0]
  generalize a.toNat / 1 % 2 = d0
  generalize a.toNat / 2 % 2 = d1
  generalize a.toNat / 4 % 2 = d2
  generalize a.toNat / 8 % 2 = d3
  generalize a.toNat / 16 % 2 = d4
  generalize a.toNat / 32 % 2 = d5
  generalize a.toNat / 64 % 2 = d6
  generalize a.toNat / 128 % 2 = d7
  generalize a.toNat / 256 % 2 = d8
  generalize a.toNat / 512 % 2 = d9
  generalize a.toNat / 1024 % 2 = d10
  generalize a.toNat / 2048 % 2 = d11
  generalize a.toNat / 4096 % 2 = d12
  generalize a.toNat / 8192 % 2 = d13
  generalize a.toNat / 16384 % 2 = d14
  generalize a.toNat / 32768 % 2 = d15
  generalize a.toNat / 65536 % 2 = d16
  generalize a.toNat / 131072 % 2 = d17
  generalize a.toNat / 262144 % 2 = d18
  generalize a.toNat / 524288 % 2 = d19
  generalize a.toNat / 1048576 % 2 = d20
  generalize a.toNat / 2097152 % 2 = d21
  generalize a.toNat / 4194304 % 2 = d22
  generalize a.toNat / 8388608 % 2 = d23
  generalize a.toNat / 16777216 % 2 = d24
  generalize a.toNat / 33554432 % 2 = d25
  omega
