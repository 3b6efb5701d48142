theorem andN {m k : Nat} (hm : m < 2147483648) (hk : k < 2147483648) : andI (m : Int) (k : Int) = ((m &&& k : Nat) : Int) := by
  have := andI_nat (a := (m : Int)) (b := (k : Int)) (by omega) (by omega) (by omega) (by omega)
  rw [this, Int.toNat_natCast, Int.toNat_natCast]
theorem ushN {m k : Nat} (hm : m < 2147483648) (hk : k < 32) : ushI (m : Int) (k : Int) = ((m / 2 ^ k : Nat) : Int) := by
  have := ush_nat (x := (m : Int)) (k := k) (by omega) (by omega) hk
  rw [this, Int.toNat_natCast]
def popN (n : Nat) : Nat := pop8 (n % 256) + pop8 (n / 256 % 256) + pop8 (n / 65536 % 256) + pop8 (n / 16777216)
def S_In_bitCount : GS := fun as σ K => match as with
  | [some (.inl a0)] => (0 ≤ a0 ∧ a0 < 2 ^ 26) ∧ K (vI (popN a0.toNat : Int)) σ
  | _ => False
def VE_In_bitCount (a0 : Int) (σ : SS) (K : AV → SS → Prop) : Prop :=
  (InR (a0 - (andI (ushI a0 1) 1431655765)) ∧
  (InR ((andI (a0 - (andI (ushI a0 1) 1431655765)) 858993459) + (andI (ushI (a0 - (andI (ushI a0 1) 1431655765)) 2) 858993459)) ∧
  (InR (((andI (a0 - (andI (ushI a0 1) 1431655765)) 858993459) + (andI (ushI (a0 - (andI (ushI a0 1) 1431655765)) 2) 858993459)) + (ushI ((andI (a0 - (andI (ushI a0 1) 1431655765)) 858993459) + (andI (ushI (a0 - (andI (ushI a0 1) 1431655765)) 2) 858993459)) 4)) ∧
  (InR ((andI (((andI (a0 - (andI (ushI a0 1) 1431655765)) 858993459) + (andI (ushI (a0 - (andI (ushI a0 1) 1431655765)) 2) 858993459)) + (ushI ((andI (a0 - (andI (ushI a0 1) 1431655765)) 858993459) + (andI (ushI (a0 - (andI (ushI a0 1) 1431655765)) 2) 858993459)) 4)) 252645135) + (ushI (andI (((andI (a0 - (andI (ushI a0 1) 1431655765)) 858993459) + (andI (ushI (a0 - (andI (ushI a0 1) 1431655765)) 2) 858993459)) + (ushI ((andI (a0 - (andI (ushI a0 1) 1431655765)) 858993459) + (andI (ushI (a0 - (andI (ushI a0 1) 1431655765)) 2) 858993459)) 4)) 252645135) 8)) ∧
  (InR (((andI (((andI (a0 - (andI (ushI a0 1) 1431655765)) 858993459) + (andI (ushI (a0 - (andI (ushI a0 1) 1431655765)) 2) 858993459)) + (ushI ((andI (a0 - (andI (ushI a0 1) 1431655765)) 858993459) + (andI (ushI (a0 - (andI (ushI a0 1) 1431655765)) 2) 858993459)) 4)) 252645135) + (ushI (andI (((andI (a0 - (andI (ushI a0 1) 1431655765)) 858993459) + (andI (ushI (a0 - (andI (ushI a0 1) 1431655765)) 2) 858993459)) + (ushI ((andI (a0 - (andI (ushI a0 1) 1431655765)) 858993459) + (andI (ushI (a0 - (andI (ushI a0 1) 1431655765)) 2) 858993459)) 4)) 252645135) 8)) + (ushI ((andI (((andI (a0 - (andI (ushI a0 1) 1431655765)) 858993459) + (andI (ushI (a0 - (andI (ushI a0 1) 1431655765)) 2) 858993459)) + (ushI ((andI (a0 - (andI (ushI a0 1) 1431655765)) 858993459) + (andI (ushI (a0 - (andI (ushI a0 1) 1431655765)) 2) 858993459)) 4)) 252645135) + (ushI (andI (((andI (a0 - (andI (ushI a0 1) 1431655765)) 858993459) + (andI (ushI (a0 - (andI (ushI a0 1) 1431655765)) 2) 858993459)) + (ushI ((andI (a0 - (andI (ushI a0 1) 1431655765)) 858993459) + (andI (ushI (a0 - (andI (ushI a0 1) 1431655765)) 2) 858993459)) 4)) 252645135) 8)) 16)) ∧
  (K (vI (andI (((andI (((andI (a0 - (andI (ushI a0 1) 1431655765)) 858993459) + (andI (ushI (a0 - (andI (ushI a0 1) 1431655765)) 2) 858993459)) + (ushI ((andI (a0 - (andI (ushI a0 1) 1431655765)) 858993459) + (andI (ushI (a0 - (andI (ushI a0 1) 1431655765)) 2) 858993459)) 4)) 252645135) + (ushI (andI (((andI (a0 - (andI (ushI a0 1) 1431655765)) 858993459) + (andI (ushI (a0 - (andI (ushI a0 1) 1431655765)) 2) 858993459)) + (ushI ((andI (a0 - (andI (ushI a0 1) 1431655765)) 858993459) + (andI (ushI (a0 - (andI (ushI a0 1) 1431655765)) 2) 858993459)) 4)) 252645135) 8)) + (ushI ((andI (((andI (a0 - (andI (ushI a0 1) 1431655765)) 858993459) + (andI (ushI (a0 - (andI (ushI a0 1) 1431655765)) 2) 858993459)) + (ushI ((andI (a0 - (andI (ushI a0 1) 1431655765)) 858993459) + (andI (ushI (a0 - (andI (ushI a0 1) 1431655765)) 2) 858993459)) 4)) 252645135) + (ushI (andI (((andI (a0 - (andI (ushI a0 1) 1431655765)) 858993459) + (andI (ushI (a0 - (andI (ushI a0 1) 1431655765)) 2) 858993459)) + (ushI ((andI (a0 - (andI (ushI a0 1) 1431655765)) 858993459) + (andI (ushI (a0 - (andI (ushI a0 1) 1431655765)) 2) 858993459)) 4)) 252645135) 8)) 16)) 63)) σ))))))
theorem e_In_bitCount (a0 : Int) (σ : SS) (K : AV → SS → Prop) (ha0 : InR a0) (hs : okS σ) (hG : S_In_bitCount [vI a0] σ K) : VE_In_bitCount a0 σ K := by
  unfold VE_In_bitCount
  obtain ⟨⟨h0, h1⟩, hG⟩ := hG
  unfold popN at hG
  have B0 := byteA ⟨a0.toNat % 256, by omega⟩
  have B1 := byteA ⟨a0.toNat / 256 % 256, by omega⟩
  have B2 := byteA ⟨a0.toNat / 65536 % 256, by omega⟩
  have B3 := byteA ⟨a0.toNat / 16777216, by omega⟩
  simp only at B0 B1 B2 B3
  have eN : a0 = ((by4 (a0.toNat % 256) (a0.toNat / 256 % 256) (a0.toNat / 65536 % 256) (a0.toNat / 16777216) : Nat) : Int) := by unfold by4; omega
  have l0 : a0.toNat % 256 < 256 := by omega
  have l1 : a0.toNat / 256 % 256 < 256 := by omega
  have l2 : a0.toNat / 65536 % 256 < 256 := by omega
  have l3 : a0.toNat / 16777216 < 4 := by omega
  generalize a0.toNat % 256 = b0 at *
  generalize a0.toNat / 256 % 256 = b1 at *
  generalize a0.toNat / 65536 % 256 = b2 at *
  generalize a0.toNat / 16777216 = b3 at *
  have c3 : sw1 b3 ≤ b3 := Nat.sub_le _ _
  have hA : by4 b0 b1 b2 b3 < 2147483648 := by unfold by4; omega
  have X1 : a0 - andI (ushI a0 1) 1431655765 = ((by4 (sw1 b0) (sw1 b1) (sw1 b2) (sw1 b3) : Nat) : Int) := by
    have u : ushI a0 1 = ((by4 b0 b1 b2 b3 / 2 : Nat) : Int) := by rw [eN]; exact ushN (k := 1) hA (by omega)
    have v : andI ((by4 b0 b1 b2 b3 / 2 : Nat) : Int) 1431655765 = ((by4 b0 b1 b2 b3 / 2 &&& 1431655765 : Nat) : Int) := andN (k := 1431655765) (by omega) (by omega)
    rw [u, v, sw_1 l0 l1 l2 (by omega), eN]
    have z0 := B0.1
    have z1 := B1.1
    have z2 := B2.1
    have z3 := B3.1
    unfold by4 sw1
    omega
  have m0 := B0.2.1
  have m1 := B1.2.1
  have m2 := B2.2.1
  have m3 := B3.2.1
  have hA1 : by4 (sw1 b0) (sw1 b1) (sw1 b2) (sw1 b3) < 2147483648 := by unfold by4; omega
  have X2 : andI ((by4 (sw1 b0) (sw1 b1) (sw1 b2) (sw1 b3) : Nat) : Int) 858993459 + andI (ushI ((by4 (sw1 b0) (sw1 b1) (sw1 b2) (sw1 b3) : Nat) : Int) 2) 858993459 = ((by4 (sw2 (sw1 b0)) (sw2 (sw1 b1)) (sw2 (sw1 b2)) (sw2 (sw1 b3)) : Nat) : Int) := by
    have u : ushI ((by4 (sw1 b0) (sw1 b1) (sw1 b2) (sw1 b3) : Nat) : Int) 2 = ((by4 (sw1 b0) (sw1 b1) (sw1 b2) (sw1 b3) / 4 : Nat) : Int) := ushN (k := 2) hA1 (by omega)
    have v : andI ((by4 (sw1 b0) (sw1 b1) (sw1 b2) (sw1 b3) / 4 : Nat) : Int) 858993459 = ((by4 (sw1 b0) (sw1 b1) (sw1 b2) (sw1 b3) / 4 &&& 858993459 : Nat) : Int) := andN (k := 858993459) (by omega) (by omega)
    have v2 : andI ((by4 (sw1 b0) (sw1 b1) (sw1 b2) (sw1 b3) : Nat) : Int) 858993459 = ((by4 (sw1 b0) (sw1 b1) (sw1 b2) (sw1 b3) &&& 858993459 : Nat) : Int) := andN (k := 858993459) hA1 (by omega)
    rw [u, v, v2, ← sw_2 m0 m1 m2 m3]
    rfl
  have d0 := B0.2.2
  have d1 := B1.2.2
  have d2 := B2.2.2
  have d3 := B3.2.2
  have q3 : sw2 (sw1 b3) ≤ 17 := by
    have : ∀ x : Fin 4, sw2 (sw1 x.val) ≤ 17 := by decide
    exact this ⟨b3, l3⟩
  have hA2 : by4 (sw2 (sw1 b0)) (sw2 (sw1 b1)) (sw2 (sw1 b2)) (sw2 (sw1 b3)) < 300000000 := by unfold by4; omega
  have U3 : ushI ((by4 (sw2 (sw1 b0)) (sw2 (sw1 b1)) (sw2 (sw1 b2)) (sw2 (sw1 b3)) : Nat) : Int) 4 = ((by4 (sw2 (sw1 b0)) (sw2 (sw1 b1)) (sw2 (sw1 b2)) (sw2 (sw1 b3)) / 16 : Nat) : Int) := ushN (k := 4) (by omega) (by omega)
  have X3 : andI ((by4 (sw2 (sw1 b0)) (sw2 (sw1 b1)) (sw2 (sw1 b2)) (sw2 (sw1 b3)) : Nat) + ((by4 (sw2 (sw1 b0)) (sw2 (sw1 b1)) (sw2 (sw1 b2)) (sw2 (sw1 b3)) / 16 : Nat) : Int)) 252645135 = ((by4 (pop8 b0) (pop8 b1) (pop8 b2) (pop8 b3) : Nat) : Int) := by
    rw [← d0.2.2.2, ← d1.2.2.2, ← d2.2.2.2, ← d3.2.2.2, ← sw_3 d0.1 d1.1 d2.1 d3.1 d1.2.1 d2.2.1 d3.2.1]
    exact andN (k := 252645135) (m := by4 (sw2 (sw1 b0)) (sw2 (sw1 b1)) (sw2 (sw1 b2)) (sw2 (sw1 b3)) + by4 (sw2 (sw1 b0)) (sw2 (sw1 b1)) (sw2 (sw1 b2)) (sw2 (sw1 b3)) / 16) (by omega) (by omega)
  have p8 : ∀ x, pop8 x ≤ 8 := fun x => by unfold pop8; omega
  have p0 := p8 b0
  have p1 := p8 b1
  have p2 := p8 b2
  have p3 := p8 b3
  have hA3 : by4 (pop8 b0) (pop8 b1) (pop8 b2) (pop8 b3) < 150000000 := by unfold by4; omega
  have U4 : ushI ((by4 (pop8 b0) (pop8 b1) (pop8 b2) (pop8 b3) : Nat) : Int) 8 = ((by4 (pop8 b0) (pop8 b1) (pop8 b2) (pop8 b3) / 256 : Nat) : Int) := ushN (k := 8) (by omega) (by omega)
  have s4 := sw_4 p0 p1 p2 p3
  have X4 : ((by4 (pop8 b0) (pop8 b1) (pop8 b2) (pop8 b3) : Nat) : Int) + ((by4 (pop8 b0) (pop8 b1) (pop8 b2) (pop8 b3) / 256 : Nat) : Int) = ((by4 (pop8 b0 + pop8 b1) (pop8 b1 + pop8 b2) (pop8 b2 + pop8 b3) (pop8 b3) : Nat) : Int) := by omega
  have hA4 : by4 (pop8 b0 + pop8 b1) (pop8 b1 + pop8 b2) (pop8 b2 + pop8 b3) (pop8 b3) < 300000000 := by omega
  have U5 : ushI ((by4 (pop8 b0 + pop8 b1) (pop8 b1 + pop8 b2) (pop8 b2 + pop8 b3) (pop8 b3) : Nat) : Int) 16 = ((by4 (pop8 b0 + pop8 b1) (pop8 b1 + pop8 b2) (pop8 b2 + pop8 b3) (pop8 b3) / 65536 : Nat) : Int) := ushN (k := 16) (by omega) (by omega)
  have X5 : andI ((by4 (pop8 b0 + pop8 b1) (pop8 b1 + pop8 b2) (pop8 b2 + pop8 b3) (pop8 b3) : Nat) + ((by4 (pop8 b0 + pop8 b1) (pop8 b1 + pop8 b2) (pop8 b2 + pop8 b3) (pop8 b3) / 65536 : Nat) : Int)) 63 = ((pop8 b0 + pop8 b1 + pop8 b2 + pop8 b3 : Nat) : Int) := by
    rw [← sw_5 p0 p1 p2 p3]
    exact andN (k := 63) (m := by4 (pop8 b0 + pop8 b1) (pop8 b1 + pop8 b2) (pop8 b2 + pop8 b3) (pop8 b3) + by4 (pop8 b0 + pop8 b1) (pop8 b1 + pop8 b2) (pop8 b2 + pop8 b3) (pop8 b3) / 65536) (by omega) (by omega)
  rw [X1, X2, U3, X3, U4, X4, U5, X5]
  exact ⟨by omega, by omega, by omega, by omega, by omega, hG⟩
theorem H_In_bitCount {d : Nat} (hd : 1 ≤ d) : Holds d I_In_bitCount S_In_bitCount := by
  refine holds_of (d' := d - 1) (rt := 1) (cal := []) (C := C_In_bitCount) m_In_bitCount o_In_bitCount rfl rfl (by omega) ?_ ?_
  · intro x hx
    cases hx
  · intro as σ K has hσ hG
    have hG2 := hG
    unfold S_In_bitCount at hG2
    split at hG2
    · next a0 =>
      refine ⟨Nat.le_of_ble_eq_true rfl, (fun _ => none), ?_, 1000, ?_⟩
      · intro k n z L σ' hk hL hs hP
        cases hk
      · exact e_In_bitCount a0 σ K (has _ (List.mem_of_getElem? (i := 0) rfl)) hσ hG
    · exact hG2.elim
