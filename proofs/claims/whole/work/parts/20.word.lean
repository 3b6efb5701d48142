/-! frames, bits; Words and tallies -/
def Fr (l : List (Nat × Nat)) (σ σ' : SS) : Prop := ∀ f i, (f, i) ∉ l → σ' f i = σ f i
theorem Fr_refl {l : List (Nat × Nat)} {σ : SS} : Fr l σ σ := fun _ _ _ => rfl
theorem Fr_trans {l : List (Nat × Nat)} {σ σ1 σ2 : SS} (h1 : Fr l σ σ1) (h2 : Fr l σ1 σ2) : Fr l σ σ2 := fun f i h => (h2 f i h).trans (h1 f i h)
theorem Fr_mono {l l' : List (Nat × Nat)} {σ σ' : SS} (h : Fr l σ σ') (hl : ∀ q ∈ l, q ∈ l') : Fr l' σ σ' := fun f i hf => h f i (fun z => hf (hl _ z))
theorem Fr_u3 {l : List (Nat × Nat)} {σ : SS} {f i : Nat} {k v : Int} (h : (f, i) ∈ l) : Fr l σ (u3 σ f i k v) := by
  intro f' i' hf
  funext k'
  unfold u3
  rw [if_neg]
  rintro ⟨rfl, rfl, -⟩
  exact hf h
def bitI (r c : Int) : Prop := r.toNat.testBit c.toNat = true
theorem andI_nat {a b : Int} (ha : 0 ≤ a) (ha2 : a < 2147483648) (hb : 0 ≤ b) (hb2 : b < 2147483648) : andI a b = ((a.toNat &&& b.toNat : Nat) : Int) := by
  unfold andI
  rw [o32_nat ha, o32_nat hb]
  have e : Int32.ofNat a.toNat &&& Int32.ofNat b.toNat = Int32.ofNat (a.toNat &&& b.toNat) := by
    apply Int32.toBitVec_inj.mp
    simp [Int32.toBitVec_and, Int32.toBitVec_ofNat, BitVec.ofNat_and]
  have h1 : a.toNat &&& b.toNat ≤ a.toNat := Nat.and_le_left
  rw [e, show Int32.ofNat (a.toNat &&& b.toNat) = Int32.ofInt ((a.toNat &&& b.toNat : Nat) : Int) from rfl, o32 (by omega)]
theorem orI_nat {a b : Int} (ha : 0 ≤ a) (ha2 : a < 2147483648) (hb : 0 ≤ b) (hb2 : b < 2147483648) : orI a b = ((a.toNat ||| b.toNat : Nat) : Int) := by
  unfold orI
  rw [o32_nat ha, o32_nat hb]
  have e : Int32.ofNat a.toNat ||| Int32.ofNat b.toNat = Int32.ofNat (a.toNat ||| b.toNat) := by
    apply Int32.toBitVec_inj.mp
    simp [Int32.toBitVec_or, Int32.toBitVec_ofNat, BitVec.ofNat_or]
  have h1 : a.toNat ||| b.toNat < 2 ^ 31 := Nat.or_lt_two_pow (by omega) (by omega)
  rw [e, show Int32.ofNat (a.toNat ||| b.toNat) = Int32.ofInt ((a.toNat ||| b.toNat : Nat) : Int) from rfl, o32 (by omega)]
theorem shl1 {c : Int} (h0 : 0 ≤ c) (h : c < 31) : shlI 1 c = ((2 ^ c.toNat : Nat) : Int) ∧ 0 < shlI 1 c ∧ shlI 1 c < 2147483648 := by
  have h2 : 2 ^ c.toNat < 2 ^ 31 := Nat.pow_lt_pow_right (by omega) (by omega)
  have h3 : 0 < 2 ^ c.toNat := Nat.pow_pos (by omega)
  have e : shlI 1 c = ((2 ^ c.toNat : Nat) : Int) := by
    unfold shlI
    simp
  rw [e]
  exact ⟨rfl, by omega, by omega⟩
/-- setting a bit -/
theorem or_bit {a c : Int} {m : Nat} (ha : 0 ≤ a) (ha2 : a < 2 ^ m) (hm : m ≤ 31) (h0 : 0 ≤ c) (h : c < m) : 0 ≤ orI a (shlI 1 c) ∧ orI a (shlI 1 c) < 2 ^ m ∧ ∀ d, 0 ≤ d → (bitI (orI a (shlI 1 c)) d ↔ bitI a d ∨ d = c) := by
  have hp : (2 : Int) ^ m ≤ 2147483648 := by
    have : 2 ^ m ≤ 2 ^ 31 := Nat.pow_le_pow_right (by omega) hm
    have e : (2 : Int) ^ m = ((2 ^ m : Nat) : Int) := by simp
    rw [e]; omega
  by_cases hc31 : c < 31
  · obtain ⟨e1, e2, e3⟩ := shl1 h0 hc31
    have e := orI_nat ha (by omega) (Int.le_of_lt e2) e3
    have h1 : a.toNat ||| (shlI 1 c).toNat < 2 ^ m := by
      refine Nat.or_lt_two_pow ?_ ?_
      · have e4 : (2 : Int) ^ m = ((2 ^ m : Nat) : Int) := by simp
        rw [e4] at ha2; omega
      · rw [e1, Int.toNat_natCast]; exact Nat.pow_lt_pow_right (by omega) (by omega)
    refine ⟨by rw [e]; omega, by
      have e4 : (2 : Int) ^ m = ((2 ^ m : Nat) : Int) := by simp
      rw [e, e4]; omega, fun d hd => ?_⟩
    rw [e]
    unfold bitI
    rw [Int.toNat_natCast, Nat.testBit_or, e1, Int.toNat_natCast, Nat.testBit_two_pow, Bool.or_eq_true, decide_eq_true_eq]
    constructor
    · rintro (h | h)
      · exact Or.inl h
      · exact Or.inr (by omega)
    · rintro (h | h)
      · exact Or.inl h
      · exact Or.inr (by rw [h])
  · omega
theorem shr_bit {a c : Int} (ha : 0 ≤ a) (ha2 : a < 2147483648) (h0 : 0 ≤ c) (h : c < 32) : InR (shrI a c) ∧ (andI (shrI a c) 1 = 0 ∨ andI (shrI a c) 1 = 1) ∧ (andI (shrI a c) 1 ≠ 0 ↔ bitI a c) := by
  have e : shrI a c = ((a.toNat / 2 ^ c.toNat : Nat) : Int) := by
    unfold shrI
    have e4 : (2 : Int) ^ c.toNat = ((2 ^ c.toNat : Nat) : Int) := by simp
    rw [e4, show a = ((a.toNat : Nat) : Int) by omega]
    simp
  have h1 : a.toNat / 2 ^ c.toNat ≤ a.toNat := Nat.div_le_self _ _
  unfold bitI
  rw [Nat.testBit_eq_decide_div_mod_eq, decide_eq_true_eq]
  generalize a.toNat / 2 ^ c.toNat = q at *
  have h2 := andI_nat (a := shrI a c) (b := 1) (by omega) (by omega) (by omega) (by omega)
  have h3 : (shrI a c).toNat = q := by omega
  rw [h3] at h2
  have h4 : q &&& (1 : Int).toNat = q % 2 := Nat.and_one_is_mod _
  rw [h4] at h2
  refine ⟨by omega, by omega, ?_⟩
  omega
theorem bit_0 {d : Int} : ¬ bitI 0 d := by unfold bitI; simp
def atW (w : Int → Int) (n p : Int) : Int := if 0 ≤ p ∧ p < n then w p else -1
/-- Word i is the letters w of 0 .. n - 1 -/
def Wd (σ : SS) (i : Nat) (w : Int → Int) (n : Int) : Prop := (0 ≤ n ∧ n ≤ 120) ∧ σ 501 i 0 = n ∧ ∀ x, 0 ≤ x → x < n → σ 20 i x = w x ∧ 0 ≤ w x ∧ w x < 26
theorem Wd_fr {σ σ' : SS} {i : Nat} {w : Int → Int} {n : Int} (h : Wd σ i w n) (h1 : σ' 501 i = σ 501 i) (h2 : σ' 20 i = σ 20 i) : Wd σ' i w n := by
  unfold Wd at *
  rw [h1, h2]
  exact h
theorem Wd_at {σ : SS} {i : Nat} {w : Int → Int} {n p : Int} (h : Wd σ i w n) : atW (σ 20 i) (σ 501 i 0) p = atW w n p := by
  obtain ⟨h1, h2, h3⟩ := h
  unfold atW
  rw [h2]
  split
  · next hp => exact (h3 p hp.1 hp.2).1
  · rfl
theorem atW_in {w : Int → Int} {n p : Int} (h0 : 0 ≤ p) (h : p < n) : atW w n p = w p := if_pos ⟨h0, h⟩
/-- the class's word, with -1 outside; the reference's -/
def cW (σ : SS) : Int → Int := atW (σ 20 0) (σ 501 0 0)
def mW (σ : SS) : Int → Int := atW (fun x => σ 40 0 (1 + x)) (σ 40 0 0)
def catW (u : Int → Int) (p : Int) (v : Int → Int) (x : Int) : Int := if x < p then u x else v (x - p)
def S_Wo_size : GS := fun as σ K => match as with
  | [some (.inr (.inr (10, i)))] => K (vI (σ 501 i 0)) σ
  | _ => False
def VE_Wo_size (i : Nat) (σ : SS) (K : AV → SS → Prop) : Prop :=
  (K (vI (σ 501 i 0)) σ)
theorem e_Wo_size (i : Nat) (σ : SS) (K : AV → SS → Prop) (hi : i < 14) (hs : okS σ) (hG : S_Wo_size [vR 10 i] σ K) : VE_Wo_size i σ K := by
  unfold VE_Wo_size
  exact hG
theorem H_Wo_size {d : Nat} (hd : 1 ≤ d) : Holds d I_Wo_size S_Wo_size := by
  refine holds_of (d' := d - 1) (rt := 1) (cal := []) (C := C_Wo_size) m_Wo_size o_Wo_size rfl rfl (by omega) ?_ ?_
  · intro x hx
    cases hx
  · intro as σ K has hσ hG
    have hG2 := hG
    unfold S_Wo_size at hG2
    split at hG2
    · next i =>
      refine ⟨Nat.le_of_ble_eq_true rfl, (fun _ => none), ?_, 1000, ?_⟩
      · intro k n z L σ' hk hL hs hP
        cases hk
      · exact e_Wo_size i σ K (has _ (List.mem_of_getElem? (i := 0) rfl)) hσ hG
    · exact hG2.elim
def S_Wo_at : GS := fun as σ K => match as with
  | [some (.inr (.inr (10, i))), some (.inl a1)] => σ 501 i 0 ≤ 120 ∧ K (vI (atW (σ 20 i) (σ 501 i 0) a1)) σ
  | _ => False
def VE_Wo_at (i : Nat) (a1 : Int) (σ : SS) (K : AV → SS → Prop) : Prop :=
  ((a1 < 0 →
    (K (vI (-1)) σ)) ∧
  ((0 : Int) ≤ a1 →
    (((σ 501 i 0) ≤ a1 →
      (K (vI (-1)) σ)) ∧
    (a1 < (σ 501 i 0) →
      ((0 ≤ (a1 : Int) ∧ (a1 : Int) < 120) ∧
      (K (vI (σ 20 i a1)) σ))))))
theorem e_Wo_at (i : Nat) (a1 : Int) (σ : SS) (K : AV → SS → Prop) (hi : i < 14) (ha1 : InR a1) (hs : okS σ) (hG : S_Wo_at [vR 10 i, vI a1] σ K) : VE_Wo_at i a1 σ K := by
  unfold VE_Wo_at
  obtain ⟨h1, h2⟩ := hG
  unfold atW at h2
  repeat' (first
    | (refine And.intro ?_ ?_)
    | (intro _)
    | omega)
  all_goals grind
theorem H_Wo_at {d : Nat} (hd : 1 ≤ d) : Holds d I_Wo_at S_Wo_at := by
  refine holds_of (d' := d - 1) (rt := 1) (cal := []) (C := C_Wo_at) m_Wo_at o_Wo_at rfl rfl (by omega) ?_ ?_
  · intro x hx
    cases hx
  · intro as σ K has hσ hG
    have hG2 := hG
    unfold S_Wo_at at hG2
    split at hG2
    · next i a1 =>
      refine ⟨Nat.le_of_ble_eq_true rfl, (fun _ => none), ?_, 1000, ?_⟩
      · intro k n z L σ' hk hL hs hP
        cases hk
      · exact e_Wo_at i a1 σ K (has _ (List.mem_of_getElem? (i := 0) rfl)) (has _ (List.mem_of_getElem? (i := 1) rfl)) hσ hG
    · exact hG2.elim
def S_Wo_clear : GS := fun as σ K => match as with
  | [some (.inr (.inr (10, i)))] => K none (u3 σ 501 i 0 0)
  | _ => False
def VE_Wo_clear (i : Nat) (σ : SS) (K : AV → SS → Prop) : Prop :=
  (∀ σ1 : SS, σ1 = u3 σ 501 i 0 0 →
  (K none σ1))
theorem e_Wo_clear (i : Nat) (σ : SS) (K : AV → SS → Prop) (hi : i < 14) (hs : okS σ) (hG : S_Wo_clear [vR 10 i] σ K) : VE_Wo_clear i σ K := by
  unfold VE_Wo_clear
  intro σ1 h
  subst h
  exact hG
theorem H_Wo_clear {d : Nat} (hd : 1 ≤ d) : Holds d I_Wo_clear S_Wo_clear := by
  refine holds_of (d' := d - 1) (rt := 0) (cal := []) (C := C_Wo_clear) m_Wo_clear o_Wo_clear rfl rfl (by omega) ?_ ?_
  · intro x hx
    cases hx
  · intro as σ K has hσ hG
    have hG2 := hG
    unfold S_Wo_clear at hG2
    split at hG2
    · next i =>
      refine ⟨Nat.le_of_ble_eq_true rfl, (fun _ => none), ?_, 1000, ?_⟩
      · intro k n z L σ' hk hL hs hP
        cases hk
      · exact e_Wo_clear i σ K (has _ (List.mem_of_getElem? (i := 0) rfl)) hσ hG
    · exact hG2.elim
def S_Wo_set : GS := fun as σ K => match as with
  | [some (.inr (.inr (10, i))), some (.inl a1), some (.inl a2)] => (σ 501 i 0 ≤ 120 ∧ 0 ≤ a2 ∧ a2 ≤ 127) ∧ (0 ≤ a1 ∧ a1 < σ 501 i 0 → K none (u3 σ 20 i a1 a2)) ∧ (¬ (0 ≤ a1 ∧ a1 < σ 501 i 0) → K none σ)
  | _ => False
def VE_Wo_set (i : Nat) (a1 : Int) (a2 : Int) (σ : SS) (K : AV → SS → Prop) : Prop :=
  ((a1 < 0 →
    (K none σ)) ∧
  ((0 : Int) ≤ a1 →
    (((σ 501 i 0) ≤ a1 →
      (K none σ)) ∧
    (a1 < (σ 501 i 0) →
      (((0 ≤ (a1 : Int) ∧ (a1 : Int) < 120) ∧ -128 ≤ (i2bI a2 : Int) ∧ (i2bI a2 : Int) ≤ 127) ∧ ∀ σ1 : SS, σ1 = u3 σ 20 i a1 (i2bI a2) →
      (K none σ1))))))
theorem e_Wo_set (i : Nat) (a1 : Int) (a2 : Int) (σ : SS) (K : AV → SS → Prop) (hi : i < 14) (ha1 : InR a1) (ha2 : InR a2) (hs : okS σ) (hG : S_Wo_set [vR 10 i, vI a1, vI a2] σ K) : VE_Wo_set i a1 a2 σ K := by
  unfold VE_Wo_set
  obtain ⟨h1, h2, h3⟩ := hG
  have e : i2bI a2 = a2 := Int.bmod_eq_of_le (by omega) (by omega)
  rw [e]
  refine ⟨fun _ => h3 (by omega), fun _ => ⟨fun _ => h3 (by omega), fun _ => ⟨by omega, fun σ1 h => ?_⟩⟩⟩
  subst h
  exact h2 (by omega)
theorem H_Wo_set {d : Nat} (hd : 1 ≤ d) : Holds d I_Wo_set S_Wo_set := by
  refine holds_of (d' := d - 1) (rt := 0) (cal := []) (C := C_Wo_set) m_Wo_set o_Wo_set rfl rfl (by omega) ?_ ?_
  · intro x hx
    cases hx
  · intro as σ K has hσ hG
    have hG2 := hG
    unfold S_Wo_set at hG2
    split at hG2
    · next i a1 a2 =>
      refine ⟨Nat.le_of_ble_eq_true rfl, (fun _ => none), ?_, 1000, ?_⟩
      · intro k n z L σ' hk hL hs hP
        cases hk
      · exact e_Wo_set i a1 a2 σ K (has _ (List.mem_of_getElem? (i := 0) rfl)) (has _ (List.mem_of_getElem? (i := 1) rfl)) (has _ (List.mem_of_getElem? (i := 2) rfl)) hσ hG
    · exact hG2.elim
def S_Wo_append : GS := fun as σ K => match as with
  | [some (.inr (.inr (10, i))), some (.inl a1)] => (0 ≤ σ 501 i 0 ∧ 0 ≤ a1 ∧ a1 ≤ 127) ∧ (σ 501 i 0 < 120 → K none (u3 (u3 σ 20 i (σ 501 i 0) a1) 501 i 0 (σ 501 i 0 + 1))) ∧ (120 ≤ σ 501 i 0 → K none σ)
  | _ => False
def VE_Wo_append (i : Nat) (a1 : Int) (σ : SS) (K : AV → SS → Prop) : Prop :=
  (((120 : Int) ≤ (σ 501 i 0) →
    (K none σ)) ∧
  ((σ 501 i 0) < 120 →
    (((0 ≤ (σ 501 i 0 : Int) ∧ (σ 501 i 0 : Int) < 120) ∧ -128 ≤ (i2bI a1 : Int) ∧ (i2bI a1 : Int) ≤ 127) ∧ ∀ σ1 : SS, σ1 = u3 σ 20 i (σ 501 i 0) (i2bI a1) →
    (InR ((σ1 501 i 0) + 1) ∧
    (∀ σ2 : SS, σ2 = u3 σ1 501 i 0 ((σ1 501 i 0) + 1) →
    (K none σ2))))))
theorem e_Wo_append (i : Nat) (a1 : Int) (σ : SS) (K : AV → SS → Prop) (hi : i < 14) (ha1 : InR a1) (hs : okS σ) (hG : S_Wo_append [vR 10 i, vI a1] σ K) : VE_Wo_append i a1 σ K := by
  unfold VE_Wo_append
  obtain ⟨h1, h2, h3⟩ := hG
  have e : i2bI a1 = a1 := Int.bmod_eq_of_le (by omega) (by omega)
  rw [e]
  refine ⟨fun h => h3 h, fun h => ⟨by omega, fun σ1 hσ1 => ?_⟩⟩
  have e1 : σ1 501 i 0 = σ 501 i 0 := by rw [hσ1, u3_f (by decide)]
  refine ⟨by omega, fun σ2 hσ2 => ?_⟩
  rw [e1, hσ1] at hσ2
  rw [hσ2]
  exact h2 h
theorem H_Wo_append {d : Nat} (hd : 1 ≤ d) : Holds d I_Wo_append S_Wo_append := by
  refine holds_of (d' := d - 1) (rt := 0) (cal := []) (C := C_Wo_append) m_Wo_append o_Wo_append rfl rfl (by omega) ?_ ?_
  · intro x hx
    cases hx
  · intro as σ K has hσ hG
    have hG2 := hG
    unfold S_Wo_append at hG2
    split at hG2
    · next i a1 =>
      refine ⟨Nat.le_of_ble_eq_true rfl, (fun _ => none), ?_, 1000, ?_⟩
      · intro k n z L σ' hk hL hs hP
        cases hk
      · exact e_Wo_append i a1 σ K (has _ (List.mem_of_getElem? (i := 0) rfl)) (has _ (List.mem_of_getElem? (i := 1) rfl)) hσ hG
    · exact hG2.elim
def S_Wo_appendPart : GS := fun as σ K => match as with
  | [some (.inr (.inr (10, i))), some (.inr (.inr (10, w1))), some (.inl a2), some (.inl a3)] => i ≠ w1 ∧ ∃ (u v : Int → Int) (p q : Int), Wd σ i u p ∧ Wd σ w1 v q ∧ 0 ≤ a2 ∧ a2 ≤ a3 ∧ a3 ≤ q ∧ p + (a3 - a2) ≤ 120 ∧ ∀ σ', Fr [(20, i), (501, i)] σ σ' → Wd σ' i (catW u p (fun x => v (a2 + x))) (p + (a3 - a2)) → K none σ'
  | _ => False
abbrev Lp_Wo_appendPart_2 (i : Nat) (w1 : Nat) (a2 : Int) (a3 : Int) (σ0 : SS) (n : Nat) (L : List AV) (σ : SS) : Prop := ∃ (v4 : Int), L = [vR 10 i, vR 10 w1, vI a2, vI a3, vI v4] ∧ n = (a3 - v4).toNat ∧ ((a2 ≤ v4) ∧ (v4 ≤ a3) ∧ (Fr [(20, i), (501, i)] σ0 σ) ∧ (∀ (u : Int → Int) (p : Int), Wd σ0 i u p → Wd σ i (catW u p (fun x => σ0 20 w1 (a2 + x))) (p + (v4 - a2))))
def Iv_Wo_appendPart (i : Nat) (w1 : Nat) (a2 : Int) (a3 : Int) (σ0 : SS) (k : Nat) : Option (List Nat × (Nat → List AV → SS → Prop)) := match k with
  | 2 => some ([], Lp_Wo_appendPart_2 i w1 a2 a3 σ0)
  | _ => none
def VE_Wo_appendPart (i : Nat) (w1 : Nat) (a2 : Int) (a3 : Int) (σ : SS) (K : AV → SS → Prop) : Prop :=
  (∃ n', Lp_Wo_appendPart_2 i w1 a2 a3 σ n' [vR 10 i, vR 10 w1, vI a2, vI a3, vI a2] σ)
def VL_Wo_appendPart_2 (i : Nat) (w1 : Nat) (a2 : Int) (a3 : Int) (σ0 : SS) (K : AV → SS → Prop) (v4 : Int) (σ : SS) (n : Nat) : Prop :=
  ((a3 ≤ v4 →
    (K none σ)) ∧
  (v4 < a3 →
    (S_Wo_at [vR 10 w1, vI v4] σ (kI fun r1 σ1 =>
      (S_Wo_append [vR 10 i, vI r1] σ1 (kV fun σ2 =>
        (InR (v4 + 1) ∧
        (∃ n', n' < n ∧ Lp_Wo_appendPart_2 i w1 a2 a3 σ0 n' [vR 10 i, vR 10 w1, vI a2, vI a3, vI (v4 + 1)] σ2))))))))
theorem l_Wo_appendPart_2 (i : Nat) (w1 : Nat) (a2 : Int) (a3 : Int) (σ0 : SS) (K : AV → SS → Prop) (hi : i < 14) (hw1 : w1 < 14) (ha2 : InR a2) (ha3 : InR a3) (hs0 : okS σ0) (hG : S_Wo_appendPart [vR 10 i, vR 10 w1, vI a2, vI a3] σ0 K) (v4 : Int) (σ : SS) (hv4 : InR v4) (hs : okS σ) (n : Nat) (hn : n = (a3 - v4).toNat) (hQ : (a2 ≤ v4) ∧ (v4 ≤ a3) ∧ (Fr [(20, i), (501, i)] σ0 σ) ∧ (∀ (u : Int → Int) (p : Int), Wd σ0 i u p → Wd σ i (catW u p (fun x => σ0 20 w1 (a2 + x))) (p + (v4 - a2)))) : VL_Wo_appendPart_2 i w1 a2 a3 σ0 K v4 σ n := by
  unfold VL_Wo_appendPart_2
  obtain ⟨h0, u, v, p, q, hu, hv, h1, h2, h3, h4, h5⟩ := hG
  obtain ⟨q1, q2, q3, q4⟩ := hQ
  have q5 := q4 u p hu
  have e1 : σ 501 w1 = σ0 501 w1 := q3 _ _ (by simp; omega)
  have e2 : σ 20 w1 = σ0 20 w1 := q3 _ _ (by simp; omega)
  obtain ⟨v1, v2, v3⟩ := hv
  refine ⟨fun h => h5 σ q3 ?_, fun h => ?_⟩
  · have e : v4 = a3 := by omega
    subst e
    obtain ⟨g1, g2, g3⟩ := q5
    refine ⟨g1, g2, fun x hx hx2 => ?_⟩
    have := g3 x hx hx2
    unfold catW at *
    split
    · next hp => rw [if_pos hp] at this; exact this
    · next hp =>
      rw [if_neg hp] at this
      dsimp only at this ⊢
      rwa [(v3 (a2 + (x - p)) (by omega) (by omega)).1] at this
  · have hv4 := v3 v4 (by omega) (by omega)
    refine ⟨by rw [e1]; omega, ?_⟩
    rw [e1, e2, atW_in (by omega) (by omega)]
    intro _ _
    obtain ⟨g1, g2, g3⟩ := q5
    refine ⟨by omega, fun h6 => ?_, fun h6 => by omega⟩
    intro _
    refine ⟨by omega, _, ?_, _, rfl, rfl, by omega, by omega, ?_, ?_⟩
    · omega
    · exact Fr_trans q3 (Fr_trans (Fr_u3 (by simp)) (Fr_u3 (by simp)))
    · intro u' p' hu'
      obtain ⟨k1, k2, k3⟩ := q4 u' p' hu'
      have hp' : p' = p := by
        obtain ⟨-, z1, -⟩ := hu
        obtain ⟨-, z2, -⟩ := hu'
        omega
      subst hp'
      refine ⟨by omega, by rw [u3_s]; omega, fun x hx hx2 => ?_⟩
      rw [u3_f (by decide), u3_e]
      split
      · next hx3 =>
        rw [catW, if_neg (by omega), show a2 + (x - p') = v4 by omega]
        omega
      · next hx3 => exact k3 x hx (by omega)
theorem e_Wo_appendPart (i : Nat) (w1 : Nat) (a2 : Int) (a3 : Int) (σ : SS) (K : AV → SS → Prop) (hi : i < 14) (hw1 : w1 < 14) (ha2 : InR a2) (ha3 : InR a3) (hs : okS σ) (hG : S_Wo_appendPart [vR 10 i, vR 10 w1, vI a2, vI a3] σ K) : VE_Wo_appendPart i w1 a2 a3 σ K := by
  unfold VE_Wo_appendPart
  obtain ⟨h0, u, v, p, q, hu, hv, h1, h2, h3, h4, h5⟩ := hG
  exact ⟨_, a2, rfl, rfl, by omega, h2, Fr_refl, fun u p h => by
    rw [show a2 - a2 = 0 by omega]
    obtain ⟨g1, g2, g3⟩ := h
    exact ⟨by omega, by omega, fun x hx hx2 => by rw [catW, if_pos (by omega)]; exact g3 x hx (by omega)⟩⟩
theorem H_Wo_appendPart {d : Nat} (hd : 2 ≤ d) : Holds d I_Wo_appendPart S_Wo_appendPart := by
  refine holds_of (d' := d - 1) (rt := 0) (cal := [(I_Wo_at, S_Wo_at), (I_Wo_append, S_Wo_append)]) (C := C_Wo_appendPart) m_Wo_appendPart o_Wo_appendPart rfl rfl (by omega) ?_ ?_
  · intro x hx
    simp only [List.mem_cons, List.not_mem_nil, or_false] at hx
    rcases hx with rfl | rfl
    · exact H_Wo_at (by omega)
    · exact H_Wo_append (by omega)
  · intro as σ K has hσ hG
    have hG2 := hG
    unfold S_Wo_appendPart at hG2
    split at hG2
    · next i w1 a2 a3 =>
      refine ⟨Nat.le_of_ble_eq_true rfl, (Iv_Wo_appendPart i w1 a2 a3 σ), ?_, 1000, ?_⟩
      · intro k n z L σ' hk hL hs hP
        unfold Iv_Wo_appendPart at hk
        split at hk
        · cases hk
          obtain ⟨v4, rfl, hn, hQ⟩ := hP
          exact ⟨1000, l_Wo_appendPart_2 i w1 a2 a3 σ K (has _ (List.mem_of_getElem? (i := 0) rfl)) (has _ (List.mem_of_getElem? (i := 1) rfl)) (has _ (List.mem_of_getElem? (i := 2) rfl)) (has _ (List.mem_of_getElem? (i := 3) rfl)) hσ hG v4 σ' (hL _ (List.mem_of_getElem? (i := 4) rfl)) hs n hn hQ⟩
        · cases hk
      · exact e_Wo_appendPart i w1 a2 a3 σ K (has _ (List.mem_of_getElem? (i := 0) rfl)) (has _ (List.mem_of_getElem? (i := 1) rfl)) (has _ (List.mem_of_getElem? (i := 2) rfl)) (has _ (List.mem_of_getElem? (i := 3) rfl)) hσ hG
    · exact hG2.elim
def S_Wo_copy : GS := fun as σ K => match as with
  | [some (.inr (.inr (10, i))), some (.inr (.inr (10, w1)))] => i ≠ w1 ∧ ∃ (v : Int → Int) (q : Int), Wd σ w1 v q ∧ ∀ σ', Fr [(20, i), (501, i)] σ σ' → Wd σ' i v q → K none σ'
  | _ => False
def VE_Wo_copy (i : Nat) (w1 : Nat) (σ : SS) (K : AV → SS → Prop) : Prop :=
  (S_Wo_clear [vR 10 i] σ (kV fun σ1 =>
    (S_Wo_size [vR 10 w1] σ1 (kI fun r2 σ2 =>
      (S_Wo_appendPart [vR 10 i, vR 10 w1, vI 0, vI r2] σ2 (kV fun σ3 =>
        (K none σ3)))))))
theorem e_Wo_copy (i : Nat) (w1 : Nat) (σ : SS) (K : AV → SS → Prop) (hi : i < 14) (hw1 : w1 < 14) (hs : okS σ) (hG : S_Wo_copy [vR 10 i, vR 10 w1] σ K) : VE_Wo_copy i w1 σ K := by
  unfold VE_Wo_copy
  obtain ⟨h0, v, q, hv, h5⟩ := hG
  intro _
  have e1 : u3 σ 501 i 0 0 501 w1 = σ 501 w1 := by funext k; exact u3_i (fun z => h0 z.symm)
  have e2 : u3 σ 501 i 0 0 20 w1 = σ 20 w1 := by funext k; exact u3_f (by decide)
  have hv1 : Wd (u3 σ 501 i 0 0) w1 v q := Wd_fr hv e1 e2
  show InR _ → okS _ → _
  intro _ _
  have e3 := hv1.2.1
  rw [e3]
  have hq := hv.1
  refine ⟨h0, fun _ => 0, v, 0, q, ⟨by omega, u3_s, fun x h1 h2 => by omega⟩, hv1, by omega, by omega, by omega, by omega, fun σ' hF hW => ?_⟩
  intro _
  refine h5 σ' (Fr_trans (Fr_u3 (by simp)) hF) ?_
  obtain ⟨g1, g2, g3⟩ := hW
  rw [show 0 + (q - 0) = q by omega] at g1 g2 g3
  refine ⟨g1, g2, fun x hx hx2 => ?_⟩
  have := g3 x hx hx2
  rwa [catW, if_neg (by omega), show 0 + (x - 0) = x by omega] at this
theorem H_Wo_copy {d : Nat} (hd : 3 ≤ d) : Holds d I_Wo_copy S_Wo_copy := by
  refine holds_of (d' := d - 1) (rt := 0) (cal := [(I_Wo_clear, S_Wo_clear), (I_Wo_size, S_Wo_size), (I_Wo_appendPart, S_Wo_appendPart)]) (C := C_Wo_copy) m_Wo_copy o_Wo_copy rfl rfl (by omega) ?_ ?_
  · intro x hx
    simp only [List.mem_cons, List.not_mem_nil, or_false] at hx
    rcases hx with rfl | rfl | rfl
    · exact H_Wo_clear (by omega)
    · exact H_Wo_size (by omega)
    · exact H_Wo_appendPart (by omega)
  · intro as σ K has hσ hG
    have hG2 := hG
    unfold S_Wo_copy at hG2
    split at hG2
    · next i w1 =>
      refine ⟨Nat.le_of_ble_eq_true rfl, (fun _ => none), ?_, 1000, ?_⟩
      · intro k n z L σ' hk hL hs hP
        cases hk
      · exact e_Wo_copy i w1 σ K (has _ (List.mem_of_getElem? (i := 0) rfl)) (has _ (List.mem_of_getElem? (i := 1) rfl)) hσ hG
    · exact hG2.elim
def S_Wo_unlikePlaces : GS := fun as σ K => match as with
  | [some (.inr (.inr (10, i))), some (.inr (.inr (10, w1)))] => ∃ (u v : Int → Int) (p q : Int), Wd σ i u p ∧ Wd σ w1 v q ∧ K (vI (cntZ (fun x => u x ≠ atW v q x) 0 p)) σ
  | _ => False
abbrev Lp_Wo_unlikePlaces_4 (i : Nat) (w1 : Nat) (σ0 : SS) (n : Nat) (L : List AV) (σ : SS) : Prop := ∃ (v2 : Int) (v3 : Int), L = [vR 10 i, vR 10 w1, vI v2, vI v3] ∧ n = (σ0 501 i 0 - v3).toNat ∧ ((σ = σ0) ∧ (0 ≤ v3) ∧ (v3 ≤ σ0 501 i 0) ∧ (∀ (u v : Int → Int) (p q : Int), Wd σ0 i u p → Wd σ0 w1 v q → v2 = cntZ (fun x => u x ≠ atW v q x) 0 v3))
def Iv_Wo_unlikePlaces (i : Nat) (w1 : Nat) (σ0 : SS) (k : Nat) : Option (List Nat × (Nat → List AV → SS → Prop)) := match k with
  | 4 => some ([], Lp_Wo_unlikePlaces_4 i w1 σ0)
  | _ => none
def VE_Wo_unlikePlaces (i : Nat) (w1 : Nat) (σ : SS) (K : AV → SS → Prop) : Prop :=
  (∃ n', Lp_Wo_unlikePlaces_4 i w1 σ n' [vR 10 i, vR 10 w1, vI 0, vI 0] σ)
def VL_Wo_unlikePlaces_4 (i : Nat) (w1 : Nat) (σ0 : SS) (K : AV → SS → Prop) (v2 : Int) (v3 : Int) (σ : SS) (n : Nat) : Prop :=
  (((σ 501 i 0) ≤ v3 →
    (K (vI v2) σ)) ∧
  (v3 < (σ 501 i 0) →
    (S_Wo_at [vR 10 i, vI v3] σ (kI fun r1 σ1 =>
      (S_Wo_at [vR 10 w1, vI v3] σ1 (kI fun r2 σ2 =>
        ((r1 = r2 →
          (InR (v3 + 1) ∧
          (∃ n', n' < n ∧ Lp_Wo_unlikePlaces_4 i w1 σ0 n' [vR 10 i, vR 10 w1, vI v2, vI (v3 + 1)] σ2))) ∧
        (r1 ≠ r2 →
          (InR (v2 + 1) ∧
          (InR (v3 + 1) ∧
          (∃ n', n' < n ∧ Lp_Wo_unlikePlaces_4 i w1 σ0 n' [vR 10 i, vR 10 w1, vI (v2 + 1), vI (v3 + 1)] σ2)))))))))))
theorem l_Wo_unlikePlaces_4 (i : Nat) (w1 : Nat) (σ0 : SS) (K : AV → SS → Prop) (hi : i < 14) (hw1 : w1 < 14) (hs0 : okS σ0) (hG : S_Wo_unlikePlaces [vR 10 i, vR 10 w1] σ0 K) (v2 : Int) (v3 : Int) (σ : SS) (hv2 : InR v2) (hv3 : InR v3) (hs : okS σ) (n : Nat) (hn : n = (σ0 501 i 0 - v3).toNat) (hQ : (σ = σ0) ∧ (0 ≤ v3) ∧ (v3 ≤ σ0 501 i 0) ∧ (∀ (u v : Int → Int) (p q : Int), Wd σ0 i u p → Wd σ0 w1 v q → v2 = cntZ (fun x => u x ≠ atW v q x) 0 v3)) : VL_Wo_unlikePlaces_4 i w1 σ0 K v2 v3 σ n := by
  unfold VL_Wo_unlikePlaces_4
  obtain ⟨u, v, p, q, hu, hv, h5⟩ := hG
  obtain ⟨rfl, q1, q2, q3⟩ := hQ
  have q4 := q3 u v p q hu hv
  have hb := cntZ_in (P := fun x => u x ≠ atW v q x) (a := 0) (b := v3)
  have hu2 := hu.2.1
  have hv2 := hv.2.1
  have hu1 := hu.1
  have hv1 := hv.1
  refine ⟨fun h => ?_, fun h => ?_⟩
  · have e : v3 = p := by omega
    subst e
    rw [q4]
    exact h5
  · refine ⟨by omega, ?_⟩
    rw [Wd_at hu]
    intro _ _
    refine ⟨by omega, ?_⟩
    rw [Wd_at hv]
    intro _ _
    rw [atW_in q1 (by omega)]
    refine ⟨fun hc => ⟨by omega, _, ?_, _, _, rfl, rfl, rfl, by omega, by omega, ?_⟩, fun hc => ⟨by omega, by omega, _, ?_, _, _, rfl, rfl, rfl, by omega, by omega, ?_⟩⟩
    · omega
    · intro u' v' p' q' hu' hv'
      have hp' : p' = p := by have := hu'.2.1; omega
      have hq' : q' = q := by have := hv'.2.1; omega
      subst hp' hq'
      have ha := Wd_at (p := v3) hv
      rw [Wd_at (p := v3) hv'] at ha
      have hb := (hu'.2.2 v3 q1 (by omega)).1.symm.trans (hu.2.2 v3 q1 (by omega)).1
      rw [cntZ_no q1 (by rw [ha, hb]; omega)]
      exact q3 u' v' p' q' hu' hv'
    · omega
    · intro u' v' p' q' hu' hv'
      have hp' : p' = p := by have := hu'.2.1; omega
      have hq' : q' = q := by have := hv'.2.1; omega
      subst hp' hq'
      have ha := Wd_at (p := v3) hv
      rw [Wd_at (p := v3) hv'] at ha
      have hb := (hu'.2.2 v3 q1 (by omega)).1.symm.trans (hu.2.2 v3 q1 (by omega)).1
      rw [cntZ_yes q1 (by rw [ha, hb]; omega), q3 u' v' p' q' hu' hv']
theorem e_Wo_unlikePlaces (i : Nat) (w1 : Nat) (σ : SS) (K : AV → SS → Prop) (hi : i < 14) (hw1 : w1 < 14) (hs : okS σ) (hG : S_Wo_unlikePlaces [vR 10 i, vR 10 w1] σ K) : VE_Wo_unlikePlaces i w1 σ K := by
  unfold VE_Wo_unlikePlaces
  obtain ⟨u, v, p, q, hu, hv, h5⟩ := hG
  exact ⟨_, _, _, rfl, rfl, rfl, by omega, hu.2.1 ▸ hu.1.1, fun u v p q hu hv => (cntZ_nil (by omega)).symm⟩
theorem H_Wo_unlikePlaces {d : Nat} (hd : 2 ≤ d) : Holds d I_Wo_unlikePlaces S_Wo_unlikePlaces := by
  refine holds_of (d' := d - 1) (rt := 1) (cal := [(I_Wo_at, S_Wo_at)]) (C := C_Wo_unlikePlaces) m_Wo_unlikePlaces o_Wo_unlikePlaces rfl rfl (by omega) ?_ ?_
  · intro x hx
    simp only [List.mem_cons, List.not_mem_nil, or_false] at hx
    subst hx
    exact H_Wo_at (by omega)
  · intro as σ K has hσ hG
    have hG2 := hG
    unfold S_Wo_unlikePlaces at hG2
    split at hG2
    · next i w1 =>
      refine ⟨Nat.le_of_ble_eq_true rfl, (Iv_Wo_unlikePlaces i w1 σ), ?_, 1000, ?_⟩
      · intro k n z L σ' hk hL hs hP
        unfold Iv_Wo_unlikePlaces at hk
        split at hk
        · cases hk
          obtain ⟨v2, v3, rfl, hn, hQ⟩ := hP
          exact ⟨1000, l_Wo_unlikePlaces_4 i w1 σ K (has _ (List.mem_of_getElem? (i := 0) rfl)) (has _ (List.mem_of_getElem? (i := 1) rfl)) hσ hG v2 v3 σ' (hL _ (List.mem_of_getElem? (i := 2) rfl)) (hL _ (List.mem_of_getElem? (i := 3) rfl)) hs n hn hQ⟩
        · cases hk
      · exact e_Wo_unlikePlaces i w1 σ K (has _ (List.mem_of_getElem? (i := 0) rfl)) (has _ (List.mem_of_getElem? (i := 1) rfl)) hσ hG
    · exact hG2.elim
/-! a boolean answer; counting up to the k-th -/
def bS (P : Prop) (K : AV → SS → Prop) (σ : SS) : Prop := (P → K (vI 1) σ) ∧ (¬ P → K (vI 0) σ)
theorem bS_y {P : Prop} {K : AV → SS → Prop} {σ : SS} (h : bS P K σ) (hp : P) : (0 ≤ (1 : Int) ∧ (1 : Int) ≤ 1) ∧ K (vI 1) σ := ⟨by omega, h.1 hp⟩
theorem bS_n {P : Prop} {K : AV → SS → Prop} {σ : SS} (h : bS P K σ) (hp : ¬ P) : (0 ≤ (0 : Int) ∧ (0 : Int) ≤ 1) ∧ K (vI 0) σ := ⟨by omega, h.2 hp⟩
theorem bS_b0 {P : Prop} {A B : SS → Prop} {σ : SS} (hy : P → okS σ → B σ) (hn : ¬ P → okS σ → A σ) : bS P (kI fun r σ => (r = 0 → A σ) ∧ (r ≠ 0 → B σ)) σ :=
  ⟨fun h => fun _ hs => ⟨fun z => absurd z (by decide), fun _ => hy h hs⟩, fun h => fun _ hs => ⟨fun _ => hn h hs, fun z => absurd rfl z⟩⟩
theorem bS_b1 {P : Prop} {A B : SS → Prop} {σ : SS} (hy : P → okS σ → B σ) (hn : ¬ P → okS σ → A σ) : bS P (kI fun r σ => (r ≠ 0 → B σ) ∧ (r = 0 → A σ)) σ :=
  ⟨fun h => fun _ hs => ⟨fun _ => hy h hs, fun z => absurd z (by decide)⟩, fun h => fun _ hs => ⟨fun z => absurd rfl z, fun _ => hn h hs⟩⟩
theorem bS_r {P : Prop} {f : Int → SS → Prop} {σ : SS} (hy : P → okS σ → f 1 σ) (hn : ¬ P → okS σ → f 0 σ) : bS P (kI f) σ :=
  ⟨fun h => fun _ hs => hy h hs, fun h => fun _ hs => hn h hs⟩
def kL (P : Int → Prop) (a k many x : Int) : Prop := many = cntZ P a x ∧ (0 ≤ k → many ≤ k)
theorem kL_0 {P : Int → Prop} {a k : Int} : kL P a k 0 a := ⟨(cntZ_nil (Int.le_refl _)).symm, fun h => h⟩
theorem kL_in {P : Int → Prop} {a k m x : Int} (h : kL P a k m x) : 0 ≤ m ∧ m ≤ max 0 (x - a) := by
  rw [h.1]; exact cntZ_in
theorem kL_no {P : Int → Prop} {a k m x : Int} (h : kL P a k m x) (hx : a ≤ x) (hp : ¬ P x) : kL P a k m (x + 1) := ⟨by rw [cntZ_no hx hp]; exact h.1, h.2⟩
theorem kL_yes {P : Int → Prop} {a k m x : Int} (h : kL P a k m x) (hx : a ≤ x) (hp : P x) (hk : m ≠ k) : kL P a k (m + 1) (x + 1) := ⟨by rw [cntZ_yes hx hp, ← h.1], fun h0 => by have := h.2 h0; omega⟩
theorem kL_hit {P : Int → Prop} {a b k m x : Int} (h : kL P a k m x) (hx : a ≤ x) (hb : x < b) (hp : P x) (hk : m = k) : kthIs P a b k x := by
  have := kL_in h
  exact Or.inr (Or.inl ⟨by omega, hx, hb, hp, by rw [← h.1]; exact hk⟩)
theorem kL_all {P : Int → Prop} {a b k m : Int} (h : kL P a k m b) (hk : k = -1) : kthIs P a b k m := Or.inl ⟨hk, h.1⟩
theorem kL_end {P : Int → Prop} {a b k m : Int} (h : kL P a k m b) (h1 : -1 ≤ k) (hk : k ≠ -1) : kthIs P a b k (-2) := Or.inr (Or.inr ⟨by omega, rfl, by rw [← h.1]; exact h.2 (by omega)⟩)
theorem kthIs_in {P : Int → Prop} {a b k r : Int} (h : kthIs P a b k r) (ha : 0 ≤ a) (hab : a ≤ b) : -2 ≤ r ∧ r ≤ b := by
  rcases h with ⟨-, h⟩ | ⟨-, h1, h2, -⟩ | ⟨-, h, -⟩
  · have := cntZ_in (P := P) (a := a) (b := b); omega
  · omega
  · omega
def isP (w : Int → Int) (i j p : Int) : Prop := eqs w i (i + p) (j - i - p)
theorem isP_end {w : Int → Int} {i j p : Int} (h : j - i ≤ p) : isP w i j p := eqs_0 (by omega)
/-- r is the least P from a on -/
def leastIs (P : Int → Prop) (a r : Int) : Prop := a ≤ r ∧ P r ∧ ∀ q, a ≤ q → q < r → ¬ P q
theorem leastIs_uniq {P : Int → Prop} {a r r' : Int} (h : leastIs P a r) (h' : leastIs P a r') : r = r' := by
  obtain ⟨h1, h2, h3⟩ := h
  obtain ⟨g1, g2, g3⟩ := h'
  rcases (by omega : r = r' ∨ r < r' ∨ r' < r) with z | z | z
  · exact z
  · exact absurd h2 (g3 r h1 z)
  · exact absurd g2 (h3 r' g1 z)
def isRt (w : Int → Int) (i j p : Int) : Prop := Int.tmod (j - i) p = 0 ∧ isP w i j p
theorem isRt_end {w : Int → Int} {i j : Int} : isRt w i j (j - i) := ⟨Int.tmod_self, isP_end (Int.le_refl _)⟩
/-- first letters of a part, so many, cover it -/
def isCv (w : Int → Int) (i j L : Int) : Prop := ∀ x, i ≤ x → x < j → ∃ o, i ≤ o ∧ o + L ≤ j ∧ o ≤ x ∧ x < o + L ∧ eqs w i o L
