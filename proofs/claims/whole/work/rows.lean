section
/-! ints of the machine as integers -/
abbrev InR (x : Int) : Prop := -2147483648 ≤ x ∧ x ≤ 2147483647
abbrev InL (x : Int) : Prop := -9223372036854775808 ≤ x ∧ x ≤ 9223372036854775807
theorem o32 {x : Int} (h : InR x) : (Int32.ofInt x).toInt = x := by
  have e : Int32.size = 4294967296 := rfl
  rw [Int32.toInt_ofInt, e]
  exact Int.bmod_eq_of_le (by omega) (by omega)
theorem o64 {x : Int} (h : InL x) : (Int64.ofInt x).toInt = x := by
  have e : Int64.size = 18446744073709551616 := rfl
  rw [Int64.toInt_ofInt, e]
  exact Int.bmod_eq_of_le (by omega) (by omega)
theorem o32_inj {x y : Int} (hx : InR x) (hy : InR y) : Int32.ofInt x = Int32.ofInt y ↔ x = y := by
  constructor
  · intro h
    have := congrArg Int32.toInt h
    rwa [o32 hx, o32 hy] at this
  · intro h; rw [h]
theorem o32_lt {x y : Int} (hx : InR x) (hy : InR y) : Int32.ofInt x < Int32.ofInt y ↔ x < y := by
  rw [Int32.lt_iff_toInt_lt, o32 hx, o32 hy]
theorem o32_le {x y : Int} (hx : InR x) (hy : InR y) : Int32.ofInt x ≤ Int32.ofInt y ↔ x ≤ y := by
  rw [Int32.le_iff_toInt_le, o32 hx, o32 hy]
theorem o32_0 : (0 : Int32) = Int32.ofInt 0 := rfl
theorem o32_of {x : Int32} : Int32.ofInt x.toInt = x := by
  apply Int32.toInt_inj.mp
  exact o32 ⟨by have := Int32.le_toInt x; omega, by have := Int32.toInt_lt x; omega⟩
theorem i32_in (x : Int32) : InR x.toInt := ⟨by have := Int32.le_toInt x; omega, by have := Int32.toInt_lt x; omega⟩
theorem o32_cl {x : Int} (h : InR x) : (Int32.ofInt x).toNatClampNeg = x.toNat := by
  show (Int32.ofInt x).toInt.toNat = x.toNat
  rw [o32 h]
theorem o32_in {x : Int} {n : Nat} (h : InR x) (h0 : 0 ≤ x) (h1 : x < n) : vp_in (Int32.ofInt x) n := by
  rw [vp_in_iff, o32 h]
  exact ⟨h0, h1⟩
def shlI (x y : Int) : Int := x * 2 ^ y.toNat
def shrI (x y : Int) : Int := x / 2 ^ y.toNat
def andI (x y : Int) : Int := (Int32.ofInt x &&& Int32.ofInt y).toInt
def orI (x y : Int) : Int := (Int32.ofInt x ||| Int32.ofInt y).toInt
def xorI (x y : Int) : Int := (Int32.ofInt x ^^^ Int32.ofInt y).toInt
def i2bI (x : Int) : Int := Int.bmod x 256
def ushI (x y : Int) : Int := (((Int32.ofInt x).toUInt32 >>> ((Int32.ofInt y).toUInt32 &&& Int32.toUInt32 31)).toInt32).toInt
def cmpI (x y : Int) : Int := if y < x then 1 else if x = y then 0 else -1
theorem sh_amt : ∀ n : Nat, n < 32 → ((Int32.ofNat n &&& 31).toBitVec.smod 32).toNat = n := by decide +kernel
theorem o32_nat {y : Int} (h : 0 ≤ y) : Int32.ofInt y = Int32.ofNat y.toNat := by
  obtain ⟨n, rfl⟩ := Int.eq_ofNat_of_zero_le h
  rfl
theorem o32_shr {x y : Int} (hx : InR x) (h0 : 0 ≤ y) (h1 : y < 32) : Int32.ofInt x >>> (Int32.ofInt y &&& 31) = Int32.ofInt (shrI x y) := by
  have hs : ((Int32.ofInt y &&& 31).toBitVec.smod 32).toNat = y.toNat := by
    rw [o32_nat h0]; exact sh_amt _ (by omega)
  apply Int32.toInt_inj.mp
  rw [pk_shr _ _ _ hs, o32 hx]
  have e : x >>> y.toNat = shrI x y := by rw [Int.shiftRight_eq_div_pow]; rfl
  rw [e]
  refine (o32 ?_).symm
  unfold shrI
  have hp : (0 : Int) < 2 ^ y.toNat := Int.pow_pos (by decide)
  constructor
  · exact Int.le_ediv_of_mul_le hp (by
      have h2 : (1 : Int) ≤ 2 ^ y.toNat := hp
      have := Int.mul_le_mul_of_nonneg_left h2 (show (0 : Int) ≤ 2147483648 by decide)
      omega)
  · by_cases hx0 : 0 ≤ x
    · exact Int.le_trans (Int.ediv_le_self _ hx0) hx.2
    · have : x / 2 ^ y.toNat < 0 := Int.ediv_neg_of_neg_of_pos (by omega) hp
      omega
theorem o32_shl {x y : Int} (h0 : 0 ≤ y) (h1 : y < 32) : Int32.ofInt x <<< (Int32.ofInt y &&& 31) = Int32.ofInt (shlI x y) := by
  have hs : ((Int32.ofInt y &&& 31).toBitVec.smod 32) = BitVec.ofNat 32 y.toNat := by
    apply BitVec.eq_of_toNat_eq
    rw [o32_nat h0, sh_amt _ (by omega), BitVec.toNat_ofNat, Nat.mod_eq_of_lt (by omega)]
  apply Int32.toBitVec_inj.mp
  rw [Int32.toBitVec_shiftLeft, hs, Int32.toBitVec_ofInt, Int32.toBitVec_ofInt]
  unfold shlI
  rw [BitVec.ofInt_mul, BitVec.shiftLeft_eq', BitVec.shiftLeft_eq_mul_twoPow]
  congr 1
  rw [BitVec.toNat_ofNat, Nat.mod_eq_of_lt (by omega)]
  apply BitVec.eq_of_toNat_eq
  rw [BitVec.toNat_twoPow]
  have e : (2 : Int) ^ y.toNat = ((2 ^ y.toNat : Nat) : Int) := by simp
  rw [BitVec.toNat_ofInt, e, ← Int.natCast_emod, Int.toNat_natCast]
theorem o32_i2b (x : Int) (hx : InR x) : (Int32.ofInt x).toInt8.toInt32 = Int32.ofInt (i2bI x) := by
  apply Int32.toInt_inj.mp
  have h1 := Int.bmod_lt (x := x) (m := 256) (by decide)
  have h2 := Int.le_bmod (x := x) (m := 256) (by decide)
  rw [Int8.toInt_toInt32, Int32.toInt_toInt8, o32 hx, o32 (by unfold i2bI; omega)]
  rfl
theorem o32_div {x y : Int} (hx : InR x) (hy : InR y) : Int32.ofInt x / Int32.ofInt y = Int32.ofInt (Int.tdiv x y) := by
  apply Int32.toInt_inj.mp
  rw [Int32.toInt_div, o32 hx, o32 hy, Int32.toInt_ofInt]
theorem o32_rem {x y : Int} (hx : InR x) (hy : InR y) : Int32.ofInt x - Int32.ofInt x / Int32.ofInt y * Int32.ofInt y = Int32.ofInt (Int.tmod x y) := by
  rw [o32_div hx hy, ← Int32.ofInt_mul, ← Int32.ofInt_sub]
  congr 1
  have := Int.mul_tdiv_add_tmod x y
  rw [Int.mul_comm] at this
  omega
theorem o32_bip {n : Int} (h : -128 ≤ n ∧ n ≤ 127) : (Int8.ofInt n).toInt32 = Int32.ofInt n := by
  apply Int32.toInt_inj.mp
  have e : Int8.size = 256 := rfl
  rw [Int8.toInt_toInt32, Int8.toInt_ofInt, o32 (by omega), e]
  exact Int.bmod_eq_of_le (by omega) (by omega)
theorem o32_sip {n : Int} (h : -32768 ≤ n ∧ n ≤ 32767) : (Int16.ofInt n).toInt32 = Int32.ofInt n := by
  apply Int32.toInt_inj.mp
  have e : Int16.size = 65536 := rfl
  rw [Int16.toInt_toInt32, Int16.toInt_ofInt, o32 (by omega), e]
  exact Int.bmod_eq_of_le (by omega) (by omega)
theorem o32_i2l {x : Int} (h : InR x) : (Int32.ofInt x).toInt64 = Int64.ofInt x := by
  apply Int64.toInt_inj.mp
  rw [Int32.toInt_toInt64, o32 h, o64 (by omega)]
theorem o64_cmp {x y : Int} (hx : InL x) (hy : InL y) : lg_cmp (Int64.ofInt x) (Int64.ofInt y) = Int32.ofInt (cmpI x y) := by
  have e1 : Int64.ofInt y < Int64.ofInt x ↔ y < x := by rw [Int64.lt_iff_toInt_lt, o64 hx, o64 hy]
  have e2 : Int64.ofInt x = Int64.ofInt y ↔ x = y := by rw [← Int64.toInt_inj, o64 hx, o64 hy]
  unfold lg_cmp cmpI
  by_cases h1 : y < x
  · simp [e1, h1]
  · by_cases h2 : x = y
    · simp [h2]
    · simp [e1, e2, h1, h2]
end
section
/-! THE SMALL WORLD: values, cells by (family, instance), contents by (family, instance, place); it never grows.
Families: 0..12 objects of the class of that place in vwCl; 20..58 arrays; 60 String constants; 61 the script. A field's contents have the code fc class slot. -/
abbrev AV : Type := Option (Int ⊕ Int ⊕ (Nat × Nat))
abbrev SS : Type := Nat → Nat → Int → Int
abbrev vI (x : Int) : AV := some (.inl x)
abbrev vL (x : Int) : AV := some (.inr (.inl x))
abbrev vR (t i : Nat) : AV := some (.inr (.inr (t, i)))
def u3 (σ : SS) (f i : Nat) (k v : Int) : SS := fun f' i' k' => if f' = f ∧ i' = i ∧ k' = k then v else σ f' i' k'
theorem u3_s {σ : SS} {f i : Nat} {k v : Int} : u3 σ f i k v f i k = v := by simp [u3]
theorem u3_f {σ : SS} {f i f' i' : Nat} {k v k' : Int} (h : f' ≠ f) : u3 σ f i k v f' i' k' = σ f' i' k' := by simp [u3, h]
theorem u3_F {σ : SS} {f i f' : Nat} {k v : Int} (h : f' ≠ f) : u3 σ f i k v f' = σ f' := by funext i' k'; simp [u3, h]
theorem u3_i {σ : SS} {f i i' : Nat} {k v k' : Int} (h : i' ≠ i) : u3 σ f i k v f i' k' = σ f i' k' := by simp [u3, h]
theorem u3_k {σ : SS} {f i i' : Nat} {k v k' : Int} (h : k' ≠ k) : u3 σ f i k v f i' k' = σ f i' k' := by simp [u3, h]
theorem u3_e {σ : SS} {f i : Nat} {k v k' : Int} : u3 σ f i k v f i k' = if k' = k then v else σ f i k' := by simp [u3]
def cntL : List Nat := [1,1,1,1,1,2,1,2,1,1,14,1,1, 0,0,0,0,0,0,0, 14,1,1,1,1,1,1,1,1,1,1,1,1,1,1,2,2,2,1,1, 1,1,1,1,1,1,1,1,1,1,1,1,1,1,1,1,1,1,1, 0, 4,1]
def cnt (t : Nat) : Nat := cntL.getD t 0
def alenL : List Int := [0,0,0,0,0,0,0,0,0,0,0,0,0, 0,0,0,0,0,0,0, 120,10,2,300,840,480,4,4,7381,121,26,121,26,121,120,120,120,120,121,240, 121,1210,242,2,720,14520,121,120,26,300,100000,4,4,4,480,121,26,26,676, 0,0,0]
def alen (t : Nat) : Int := alenL.getD t 0
/-- 0 int, 1 byte, 2 boolean, 3 Word references -/
def atyL : List Nat := [9,9,9,9,9,9,9,9,9,9,9,9,9, 9,9,9,9,9,9,9, 1,3,3,1,1,1,0,0,1,1,0,0,0,0,0,0,0,0,0,0, 0,0,0,2,0,0,0,0,0,1,0,0,0,0,0,0,2,2,2, 9,9,9]
def aty (t : Nat) : Nat := atyL.getD t 9
def nflL : List Nat := [5,4,3,10,5,4,2,3,4,10,2,15,33]
def nfl (t : Nat) : Nat := nflL.getD t 0
/-- where a reference field leads: a family, and one instance of it (none: the same instance) -/
def rfL : List (List (Option (Nat × Option Nat))) := [
 [some (10,some 0), some (8,some 0), some (7,some 1), some (38,none), some (39,none)],
 [some (10,some 0), some (8,some 0), some (34,none), none],
 [some (21,none), none, none],
 [some (23,none), none, some (24,none), none, some (25,none), some (26,none), some (27,none), none, none, none],
 [some (10,some 0), some (8,some 0), some (6,some 0), some (7,some 0), some (30,none)],
 [some (35,none), some (36,none), some (37,none), none],
 [some (10,some 0), some (8,some 0)],
 [none, none, none],
 [some (10,some 0), some (28,none), some (29,none), none],
 [some (10,some 0), some (8,some 0), some (31,none), none, none, some (32,none), some (33,none), none, none, none],
 [some (20,none), none],
 [some (10,some 0), some (10,some 1), some (2,some 0), some (22,none), some (3,some 0), some (8,some 0), some (6,some 0), some (4,some 0), some (9,some 0), some (1,some 0), some (0,some 0), some (5,some 0), some (5,some 1), none, none],
 [some (40,none), some (41,none), none, some (42,none), some (43,none), some (44,none), none, none, some (45,none), none, none, some (46,none), some (47,none), some (48,none), some (55,none), some (49,none), none, none, none, none, some (50,none), none, none, some (51,none), some (52,none), some (53,none), some (54,none), none, none, none, some (56,none), some (57,none), some (58,none)]]
def rfo (t k : Nat) : Option (Nat × Option Nat) := (rfL.getD t []).getD k none
/-- a field that is no reference: is it boolean -/
def isZ (t k : Nat) : Bool := [(1,3),(8,3),(9,4),(11,13),(12,7),(12,10)].contains (t, k)
/-- the first of the Words that an array of them holds -/
def atg (t : Nat) : Nat := if t = 21 then 4 else 2
def fc (t k : Nat) : Nat := 100 + 40 * t + k
def HL : List (Nat × Nat) := (List.range 60).flatMap fun t => (List.range (cnt t)).map fun i => (t, i)
theorem HL_mem {t i : Nat} : (t, i) ∈ HL ↔ t < 60 ∧ i < cnt t := by
  simp only [HL, List.mem_flatMap, List.mem_range, List.mem_map, Prod.mk.injEq]
  constructor
  · rintro ⟨a, h1, b, h2, rfl, rfl⟩; exact ⟨h1, h2⟩
  · rintro ⟨h1, h2⟩; exact ⟨t, h1, i, h2, rfl, rfl⟩
theorem HL_nd : HL.Nodup := by decide +kernel
/-- each reference leads to an instance that there is -/
def rfB (t k : Nat) : Bool := match rfo t k with
  | none => true
  | some (tt, none) => decide (tt < 60) && decide (cnt t ≤ cnt tt)
  | some (tt, some c) => decide (tt < 60) && decide (c < cnt tt)
theorem rfB_ok : ∀ t, t < 13 → ∀ k, k < 33 → rfB t k = true := by decide +kernel
theorem rfo_ok {t k tt i : Nat} {oi : Option Nat} (ht : t < 13) (hk : k < 33) (hr : rfo t k = some (tt, oi)) (hi : i < cnt t) : tt < 60 ∧ oi.getD i < cnt tt := by
  have h := rfB_ok t ht k hk
  unfold rfB at h
  rw [hr] at h
  cases oi with
  | none => simp at h; exact ⟨h.1, by simp; omega⟩
  | some c => simp at h; exact ⟨h.1, by simpa using h.2⟩
theorem cnt_obj : ∀ t, t < 60 → cnt t ≠ 0 → (t < 13 ∨ 20 ≤ t) := by decide +kernel
theorem nfl_le : ∀ t, t < 13 → nfl t ≤ 33 := by decide +kernel
theorem aty_lt : ∀ t, t < 60 → cnt t ≠ 0 → ¬ t < 13 → aty t < 4 := by decide +kernel
theorem alen_ok : ∀ t, t < 60 → 0 ≤ alen t ∧ alen t < 2147483648 := by decide +kernel
def okV (v : AV) : Prop := match v with
  | some (.inl x) => InR x
  | some (.inr (.inl x)) => InL x
  | some (.inr (.inr (t, i))) => i < cnt t
  | none => True
def okS (σ : SS) : Prop := ∀ f i k, InR (σ f i k)
theorem okS_u3 {σ : SS} {f i : Nat} {k v : Int} (h : okS σ) (hv : InR v) : okS (u3 σ f i k v) := by
  intro f' i' k'
  unfold u3
  split
  · exact hv
  · exact h _ _ _
def cv (ad : Nat → Nat → Nat) (v : AV) : Value := match v with
  | some (.inl x) => .int (Int32.ofInt x)
  | some (.inr (.inl x)) => .long (Int64.ofInt x)
  | some (.inr (.inr (t, i))) => .ref (ad t i)
  | none => .null
def rv (ad : Nat → Nat → Nat) (v : AV) : Option Value := match v with
  | none => none
  | v => some (cv ad v)
def fvW (ad : Nat → Nat → Nat) (σ : SS) (t i k : Nat) : Value := match rfo t k with
  | some (tt, oi) => .ref (ad tt (oi.getD i))
  | none => .int (Int32.ofInt (σ (fc t k) i 0))
def cellW (ad : Nat → Nat → Nat) (cA : Nat → ClassId) (σ : SS) (t i : Nat) : va_E :=
  if t < 13 then .inr (t, (List.range (nfl t)).map (fun k => fvW ad σ t i k))
  else if aty t = 3 then .inl (cA 3, (alen t).toNat, .inr (.inr (.inr (.inr (fun j => some (ad 10 (atg t + j)))))))
  else .inl (cA (aty t), (alen t).toNat, .inl (fun j => Int32.ofInt (σ t i (j : Int))))
def wsW (ad : Nat → Nat → Nat) (cA : Nat → ClassId) (σ : SS) : va_W := HL.map (fun h => (ad h.1 h.2, cellW ad cA σ h.1 h.2))
def tysW (cA : Nat → ClassId) : List (ClassId × FieldType) := [(cA 0, .int), (cA 1, .byte), (cA 2, .boolean), (cA 3, .object "WordRuns$Word")]
def adI (ad : Nat → Nat → Nat) : Prop := ∀ h, h ∈ HL → ∀ h', h' ∈ HL → ad h.1 h.2 = ad h'.1 h'.2 → h = h'
def Aad (ad : Nat → Nat → Nat) : Nat → Prop := fun q => ∃ h, h ∈ HL ∧ q = ad h.1 h.2
theorem wsW_at {ad : Nat → Nat → Nat} {cA : Nat → ClassId} {σ : SS} {t i : Nat} (ht : t < 60) (hi : i < cnt t) : ∃ k : Nat, HL[k]? = some (t, i) ∧ (wsW ad cA σ)[k]? = some (ad t i, cellW ad cA σ t i) := by
  obtain ⟨k, hk⟩ := List.mem_iff_getElem?.mp (HL_mem.mpr ⟨ht, hi⟩)
  exact ⟨k, hk, by simp [wsW, hk]⟩
theorem wsW_D {ad : Nat → Nat → Nat} {cA : Nat → ClassId} {σ : SS} (hI : adI ad) : va_D (Aad ad) (wsW ad cA σ) := by
  refine ⟨fun i j p q hp hq e => ?_, fun k q hq => ?_⟩
  · simp only [wsW, List.getElem?_map, Option.map_eq_some_iff] at hp hq
    obtain ⟨h, h1, rfl⟩ := hp
    obtain ⟨h', h2, rfl⟩ := hq
    have := hI h (List.mem_of_getElem? h1) h' (List.mem_of_getElem? h2) e
    subst this
    exact (List.getElem?_inj (List.getElem?_eq_some_iff.mp h1).1 HL_nd).mp (h1.trans h2.symm)
  · simp only [wsW, List.getElem?_map, Option.map_eq_some_iff] at hq
    obtain ⟨h, h1, rfl⟩ := hq
    exact ⟨h, List.mem_of_getElem? h1, rfl⟩
/-- one cell's contents change -/
theorem wsW_set {ad : Nat → Nat → Nat} {cA : Nat → ClassId} {σ σ' : SS} {t i k : Nat} {e : va_E} (hk : HL[k]? = some (t, i)) (he : e = cellW ad cA σ' t i) (ho : ∀ t' i', (t', i') ∈ HL → (t', i') ≠ (t, i) → cellW ad cA σ' t' i' = cellW ad cA σ t' i') :
    (wsW ad cA σ).set k (ad t i, e) = wsW ad cA σ' := by
  have hl : k < HL.length := (List.getElem?_eq_some_iff.mp hk).1
  apply List.ext_getElem?
  intro j
  rw [List.getElem?_set]
  by_cases hj : k = j
  · subst hj
    have e2 : HL[k] = (t, i) := (List.getElem?_eq_some_iff.mp hk).2
    simp [wsW, he, hl]
    exact ⟨by rw [e2], by rw [e2]⟩
  · simp only [hj, if_false, wsW, List.getElem?_map]
    cases hq : HL[j]? with
    | none => rfl
    | some h =>
      obtain ⟨t', i'⟩ := h
      have hne : (t', i') ≠ (t, i) := by
        intro e2
        rw [e2] at hq
        exact hj ((List.getElem?_inj hl HL_nd).mp (hk.trans hq.symm))
      simp [ho t' i' (List.mem_of_getElem? hq) hne]
theorem cellW_f {ad : Nat → Nat → Nat} {cA : Nat → ClassId} {σ : SS} {t i k : Nat} {v : Int} (ht : t < 13) (hk : k < nfl t) (hn : rfo t k = none) :
    (Sum.inr (t, ((List.range (nfl t)).map (fun k => fvW ad σ t i k)).set k (.int (Int32.ofInt v))) : va_E) = cellW ad cA (u3 σ (fc t k) i 0 v) t i := by
  unfold cellW
  rw [if_pos ht]
  congr 2
  apply List.ext_getElem?
  intro j
  rw [List.getElem?_set]
  by_cases hj : k = j
  · subst hj
    simp [hk, fvW, hn, u3]
  · simp only [hj, if_false, List.getElem?_map]
    by_cases hjn : j < nfl t
    · simp only [List.getElem?_range hjn, Option.map_some, fvW]
      congr 1
      cases rfo t j with
      | some q => rfl
      | none =>
        simp only [u3]
        rw [if_neg]
        unfold fc
        omega
    · simp [hjn]
theorem cellW_fo {ad : Nat → Nat → Nat} {cA : Nat → ClassId} {σ : SS} {t i k : Nat} {v : Int} (ht : t < 13) (hk : k < nfl t) : ∀ t' i', (t', i') ∈ HL → (t', i') ≠ (t, i) → cellW ad cA (u3 σ (fc t k) i 0 v) t' i' = cellW ad cA σ t' i' := by
  intro t' i' hm hne
  have hm' := HL_mem.mp hm
  have hk2 := nfl_le t ht
  unfold cellW
  by_cases h13 : t' < 13
  · rw [if_pos h13, if_pos h13]
    congr 2
    apply List.map_congr_left
    intro j hj
    have hj2 := nfl_le t' h13
    have hj3 : j < nfl t' := List.mem_range.mp hj
    unfold fvW
    cases rfo t' j with
    | some q => rfl
    | none =>
      simp only [u3]
      rw [if_neg]
      rintro ⟨e1, e2, -⟩
      apply hne
      unfold fc at e1
      rw [e2, show t' = t by omega]
  · rw [if_neg h13, if_neg h13]
    by_cases h3 : aty t' = 3
    · rw [if_pos h3, if_pos h3]
    · rw [if_neg h3, if_neg h3]
      congr 4
      funext j
      simp only [u3]
      rw [if_neg]
      unfold fc
      omega
theorem cellW_a {ad : Nat → Nat → Nat} {cA : Nat → ClassId} {σ : SS} {t i : Nat} {x v : Int} (ht : ¬ t < 13) (ha : aty t ≠ 3) (h0 : 0 ≤ x) :
    (Sum.inl (cA (aty t), (alen t).toNat, .inl (upd (fun j : Nat => Int32.ofInt (σ t i (j : Int))) x.toNat (Int32.ofInt v))) : va_E) = cellW ad cA (u3 σ t i x v) t i := by
  unfold cellW
  rw [if_neg ht, if_neg ha]
  congr 4
  funext j
  simp only [upd, u3]
  by_cases hj : j = x.toNat
  · rw [if_pos hj, if_pos (by simp; omega)]
  · rw [if_neg hj, if_neg (by omega)]
theorem cellW_ao {ad : Nat → Nat → Nat} {cA : Nat → ClassId} {σ : SS} {t i : Nat} {x v : Int} (ht : ¬ t < 13) (ht2 : t < 60) : ∀ t' i', (t', i') ∈ HL → (t', i') ≠ (t, i) → cellW ad cA (u3 σ t i x v) t' i' = cellW ad cA σ t' i' := by
  intro t' i' hm hne
  unfold cellW
  by_cases h13 : t' < 13
  · rw [if_pos h13, if_pos h13]
    congr 2
    apply List.map_congr_left
    intro j hj
    unfold fvW
    cases rfo t' j with
    | some q => rfl
    | none =>
      simp only [u3]
      rw [if_neg]
      unfold fc
      omega
  · rw [if_neg h13, if_neg h13]
    by_cases h3 : aty t' = 3
    · rw [if_pos h3, if_pos h3]
    · rw [if_neg h3, if_neg h3]
      congr 4
      funext j
      simp only [u3]
      rw [if_neg]
      rintro ⟨e1, e2, -⟩
      exact hne (by rw [e1, e2])
end
section
/-! THE SMALL MACHINE: what a method's code asks for, as one formula (wp); its soundness over the kit's W. -/
abbrev EI : Type := Nat × Instr × Nat × List Nat
abbrev MI : Type := MethodName × ByteArray × Nat × Option FieldType × List (Nat × Nat)
abbrev GS : Type := List AV → SS → (AV → SS → Prop) → Prop
def kI (f : Int → SS → Prop) : AV → SS → Prop := fun r σ => match r with
  | some (.inl x) => InR x → okS σ → f x σ
  | _ => False
def kV (f : SS → Prop) : AV → SS → Prop := fun r σ => match r with
  | none => okS σ → f σ
  | _ => False
def kR (t : Nat) (f : Nat → SS → Prop) : AV → SS → Prop := fun r σ => match r with
  | some (.inr (.inr (t', i))) => t' = t ∧ (i < cnt t → okS σ → f i σ)
  | _ => False
def gl : List AV → Nat → AV
  | [], _ => none
  | a :: _, 0 => a
  | _ :: l, n + 1 => gl l n
def sl : List AV → Nat → AV → List AV
  | [], _, _ => []
  | _ :: l, 0, v => v :: l
  | a :: l, n + 1, v => a :: sl l n v
def isL (v : AV) : Bool := match v with
  | some (.inr (.inl _)) => true
  | _ => false
def nl : List AV → Bool
  | [] => true
  | a :: l => match isL a with
    | true => false
    | false => nl l
def cs : List AV → Nat
  | [] => 0
  | a :: l => (match isL a with | true => 2 | false => 1) + cs l
def tk : Nat → List AV → List AV → Option (List AV × List AV)
  | 0, acc, st => some (acc, st)
  | _ + 1, _, [] => none
  | n + 1, acc, v :: st => tk n (v :: acc) st
def ldI (L : List AV) (i : Nat) (f : Int → Prop) : Prop := match gl L i with
  | some (.inl x) => f x
  | _ => False
def brW (c : ClassFile.Cond) (a b : Int) (A B : Prop) : Prop := match c with
  | .eq => (a = b → A) ∧ (a ≠ b → B)
  | .ne => (a ≠ b → A) ∧ (a = b → B)
  | .lt => (a < b → A) ∧ (b ≤ a → B)
  | .ge => (b ≤ a → A) ∧ (a < b → B)
  | .gt => (b < a → A) ∧ (a ≤ b → B)
  | .le => (a ≤ b → A) ∧ (b < a → B)
def swW (v : Int) : Int → List Nat → (Nat → Prop) → Prop
  | _, [], _ => True
  | lo, t :: ts, P => (v = lo → P t) ∧ swW v (lo + 1) ts P
def lkW (v : Int) : List (Int × Int) → List Nat → (Nat → Prop) → Prop → Prop
  | [], _, _, D => D
  | q :: ps, t :: ts, P, D => (v = q.1 → P t) ∧ (v ≠ q.1 → lkW v ps ts P D)
  | _ :: _, [], _, _ => False
def resW (rk rt : Nat) (r : List AV) (N : List AV → SS → Prop) : AV → SS → Prop := match rk with
  | 0 => kV (fun σ => N r σ)
  | 1 => kI (fun v σ => N (vI v :: r) σ)
  | _ => kR rt (fun i σ => N (vR rt i :: r) σ)
def retZ (rt : Nat) (x : Int) (A : Prop) : Prop := match rt with
  | 2 => (0 ≤ x ∧ x ≤ 1) ∧ A
  | _ => A
def putZ (z : Bool) (x : Int) (A : Prop) : Prop := match z with
  | true => (0 ≤ x ∧ x ≤ 1) ∧ A
  | false => A
def stepW (sc : Option (Int × (Int → Int))) (rt : Nat) (cal : List (MI × GS)) (K : AV → SS → Prop) (ins : Instr) (x : List Nat) (k : Nat) (L st : List AV) (σ : SS) (N : Nat → List AV → List AV → SS → Prop) : Prop :=
  match ins with
  | .iload_n n => ldI L n.val fun v => N (k + 1) L (vI v :: st) σ
  | .iload n => ldI L n fun v => N (k + 1) L (vI v :: st) σ
  | .aload_n n => match gl L n.val with
    | some (.inr (.inr (t, i))) => N (k + 1) L (vR t i :: st) σ
    | _ => False
  | .aload n => match gl L n with
    | some (.inr (.inr (t, i))) => N (k + 1) L (vR t i :: st) σ
    | _ => False
  | .lload_n n => match gl L n.val with
    | some (.inr (.inl v)) => N (k + 1) L (vL v :: st) σ
    | _ => False
  | .lload n => match gl L n with
    | some (.inr (.inl v)) => N (k + 1) L (vL v :: st) σ
    | _ => False
  | .istore_n n => match nl L, st with
    | true, some (.inl v) :: r => N (k + 1) (sl L n.val (vI v)) r σ
    | _, _ => False
  | .istore n => match nl L, st with
    | true, some (.inl v) :: r => N (k + 1) (sl L n (vI v)) r σ
    | _, _ => False
  | .astore_n n => match nl L, st with
    | true, some (.inr (.inr (t, i))) :: r => N (k + 1) (sl L n.val (vR t i)) r σ
    | _, _ => False
  | .iinc n c => match nl L with
    | true => ldI L n fun v => InR (v + c) ∧ N (k + 1) (sl L n (vI (v + c))) st σ
    | false => False
  | .iconst n => N (k + 1) L (vI n :: st) σ
  | .bipush n => N (k + 1) L (vI n :: st) σ
  | .sipush n => N (k + 1) L (vI n :: st) σ
  | .ldc _ => match x with
    | 0 :: v :: _ => N (k + 1) L (vI (v : Int) :: st) σ
    | _ => False
  | .ldc_w _ => match x with
    | 0 :: v :: _ => N (k + 1) L (vI (v : Int) :: st) σ
    | 1 :: i :: _ => N (k + 1) L (vR 60 i :: st) σ
    | _ => False
  | .lconst n => N (k + 1) L (vL (n.val : Int) :: st) σ
  | .ldc2_w _ => match x with
    | v :: _ => N (k + 1) L (vL (v : Int) :: st) σ
    | _ => False
  | .i2l => match st with
    | some (.inl v) :: r => N (k + 1) L (vL v :: r) σ
    | _ => False
  | .lcmp => match st with
    | some (.inr (.inl b)) :: some (.inr (.inl a)) :: r => N (k + 1) L (vI (cmpI a b) :: r) σ
    | _ => False
  | .i2b => match st with
    | some (.inl v) :: r => N (k + 1) L (vI (i2bI v) :: r) σ
    | _ => False
  | .iadd => match st with
    | some (.inl b) :: some (.inl a) :: r => InR (a + b) ∧ N (k + 1) L (vI (a + b) :: r) σ
    | _ => False
  | .isub => match st with
    | some (.inl b) :: some (.inl a) :: r => InR (a - b) ∧ N (k + 1) L (vI (a - b) :: r) σ
    | _ => False
  | .imul => match st with
    | some (.inl b) :: some (.inl a) :: r => InR (a * b) ∧ N (k + 1) L (vI (a * b) :: r) σ
    | _ => False
  | .idiv => match st with
    | some (.inl b) :: some (.inl a) :: r => (b ≠ 0 ∧ InR (Int.tdiv a b)) ∧ N (k + 1) L (vI (Int.tdiv a b) :: r) σ
    | _ => False
  | .irem => match st with
    | some (.inl b) :: some (.inl a) :: r => (b ≠ 0 ∧ InR (Int.tmod a b)) ∧ N (k + 1) L (vI (Int.tmod a b) :: r) σ
    | _ => False
  | .ineg => match st with
    | some (.inl a) :: r => InR (-a) ∧ N (k + 1) L (vI (-a) :: r) σ
    | _ => False
  | .ishl => match st with
    | some (.inl b) :: some (.inl a) :: r => (0 ≤ b ∧ b < 32 ∧ InR (shlI a b)) ∧ N (k + 1) L (vI (shlI a b) :: r) σ
    | _ => False
  | .ishr => match st with
    | some (.inl b) :: some (.inl a) :: r => (0 ≤ b ∧ b < 32 ∧ InR (shrI a b)) ∧ N (k + 1) L (vI (shrI a b) :: r) σ
    | _ => False
  | .iushr => match st with
    | some (.inl b) :: some (.inl a) :: r => N (k + 1) L (vI (ushI a b) :: r) σ
    | _ => False
  | .iand => match st with
    | some (.inl b) :: some (.inl a) :: r => N (k + 1) L (vI (andI a b) :: r) σ
    | _ => False
  | .ior => match st with
    | some (.inl b) :: some (.inl a) :: r => N (k + 1) L (vI (orI a b) :: r) σ
    | _ => False
  | .ixor => match st with
    | some (.inl b) :: some (.inl a) :: r => N (k + 1) L (vI (xorI a b) :: r) σ
    | _ => False
  | .dup => match st with
    | some v :: r => (match isL (some v) with
      | false => N (k + 1) L (some v :: some v :: r) σ
      | true => False)
    | _ => False
  | .dup2 => match st with
    | some v :: some w :: r => (match isL (some v), isL (some w) with
      | false, false => N (k + 1) L (some v :: some w :: some v :: some w :: r) σ
      | _, _ => False)
    | _ => False
  | .pop => match st with
    | some v :: r => (match isL (some v) with
      | false => N (k + 1) L r σ
      | true => False)
    | _ => False
  | .getfield _ => match x, st with
    | _ :: ci :: f :: _, some (.inr (.inr (t, i))) :: r => (match Nat.beq t ci with
      | true => (match rfo ci f with
        | some (tt, oi) => N (k + 1) L (vR tt (oi.getD i) :: r) σ
        | none => N (k + 1) L (vI (σ (fc ci f) i 0) :: r) σ)
      | false => False)
    | _, _ => False
  | .putfield _ => match x, st with
    | _ :: ci :: f :: _, some (.inl v) :: some (.inr (.inr (t, i))) :: r => (match Nat.beq t ci with
      | true => putZ (isZ ci f) v (∀ σ' : SS, σ' = u3 σ (fc ci f) i 0 v → N (k + 1) L r σ')
      | false => False)
    | _, _ => False
  | .iaload => match st with
    | some (.inl j) :: some (.inr (.inr (t, i))) :: r => (match aty t, Nat.ble 20 t, Nat.ble t 59 with
      | 0, true, true => (0 ≤ j ∧ j < alen t) ∧ N (k + 1) L (vI (σ t i j) :: r) σ
      | _, _, _ => (match sc, Nat.beq t 61 with
        | some (n, xs), true => (0 ≤ j ∧ j < n) ∧ N (k + 1) L (vI (xs j) :: r) σ
        | _, _ => False))
    | _ => False
  | .baload => match st with
    | some (.inl j) :: some (.inr (.inr (t, i))) :: r => (match aty t, Nat.ble 20 t, Nat.ble t 59 with
      | 1, true, true => (0 ≤ j ∧ j < alen t) ∧ N (k + 1) L (vI (σ t i j) :: r) σ
      | 2, true, true => (0 ≤ j ∧ j < alen t) ∧ N (k + 1) L (vI (σ t i j) :: r) σ
      | _, _, _ => False)
    | _ => False
  | .aaload => match st with
    | some (.inl j) :: some (.inr (.inr (t, i))) :: r => (match aty t, Nat.ble 20 t, Nat.ble t 59 with
      | 3, true, true => (0 ≤ j ∧ j < alen t) ∧ N (k + 1) L (vR 10 (atg t + j.toNat) :: r) σ
      | _, _, _ => False)
    | _ => False
  | .iastore => match st with
    | some (.inl v) :: some (.inl j) :: some (.inr (.inr (t, i))) :: r => (match aty t, Nat.ble 20 t, Nat.ble t 59 with
      | 0, true, true => (0 ≤ j ∧ j < alen t) ∧ ∀ σ' : SS, σ' = u3 σ t i j v → N (k + 1) L r σ'
      | _, _, _ => False)
    | _ => False
  | .bastore => match st with
    | some (.inl v) :: some (.inl j) :: some (.inr (.inr (t, i))) :: r => (match aty t, Nat.ble 20 t, Nat.ble t 59 with
      | 1, true, true => ((0 ≤ j ∧ j < alen t) ∧ -128 ≤ v ∧ v ≤ 127) ∧ ∀ σ' : SS, σ' = u3 σ t i j v → N (k + 1) L r σ'
      | 2, true, true => ((0 ≤ j ∧ j < alen t) ∧ 0 ≤ v ∧ v ≤ 1) ∧ ∀ σ' : SS, σ' = u3 σ t i j v → N (k + 1) L r σ'
      | _, _, _ => False)
    | _ => False
  | .arraylength => match st with
    | some (.inr (.inr (t, _))) :: r => (match Nat.ble 20 t, Nat.ble t 59 with
      | true, true => N (k + 1) L (vI (alen t) :: r) σ
      | _, _ => (match sc, Nat.beq t 61 with
        | some (n, _), true => N (k + 1) L (vI n :: r) σ
        | _, _ => False))
    | _ => False
  | .goto _ => match x with
    | [t] => N t L st σ
    | _ => False
  | .ifCond c _ => match x, st with
    | [t], some (.inl v) :: r => brW c v 0 (N t L r σ) (N (k + 1) L r σ)
    | _, _ => False
  | .if_icmp c _ => match x, st with
    | [t], some (.inl b) :: some (.inl a) :: r => brW c a b (N t L r σ) (N (k + 1) L r σ)
    | _, _ => False
  | .tableswitch _ lo hi _ => match x, st with
    | d :: ts, some (.inl v) :: r => swW v lo ts (fun t => N t L r σ) ∧ (v < lo ∨ hi < v → N d L r σ)
    | _, _ => False
  | .lookupswitch _ ps => match x, st with
    | d :: ts, some (.inl v) :: r => lkW v ps.toList ts (fun t => N t L r σ) (N d L r σ)
    | _, _ => False
  | .invokevirtual _ => match x with
    | ci :: na :: tc :: rk :: rr :: _ => (match cal[ci]?, tk na [] st with
      | some (_, G), some (as, some (.inr (.inr (t, i))) :: r) => (match Nat.beq t tc, Nat.ble (cs r) 8 with
        | true, true => G (vR t i :: as) σ (resW rk rr r (fun st' σ' => N (k + 1) L st' σ'))
        | _, _ => False)
      | _, _ => False)
    | _ => False
  | .invokestatic _ => match x with
    | ci :: na :: rk :: rr :: _ :: _ :: _ => (match cal[ci]?, tk na [] st with
      | some (_, G), some (as, r) => (match Nat.ble (cs r) 8 with
        | true => G as σ (resW rk rr r (fun st' σ' => N (k + 1) L st' σ'))
        | false => False)
      | _, _ => False)
    | [0, _, _] => (match st with
      | some (.inl b) :: some (.inl a) :: r => (match Nat.ble (cs r) 8 with
        | true => N (k + 1) L (vI (max a b) :: r) σ
        | false => False)
      | _ => False)
    | [1, _, _] => (match st with
      | some (.inl b) :: some (.inl a) :: r => (match Nat.ble (cs r) 8 with
        | true => N (k + 1) L (vI (min a b) :: r) σ
        | false => False)
      | _ => False)
    | _ => False
  | .ireturn => match st with
    | [some (.inl v)] => retZ rt v (K (vI v) σ)
    | _ => False
  | .areturn => match rt, st with
    | 3, [some (.inr (.inr (t, i)))] => K (vR t i) σ
    | _, _ => False
  | .return_ => match rt, st with
    | 0, [] => K none σ
    | _, _ => False
  | _ => False
def wp (sc : Option (Int × (Int → Int))) (rt : Nat) (cal : List (MI × GS)) (C : List EI) (J : Nat → Option (List AV → SS → Prop)) (K : AV → SS → Prop) : Nat → Nat → List AV → List AV → SS → Prop
  | 0 => fun _ _ _ _ => False
  | f + 1 => fun k L st σ => match C[k]? with
    | none => False
    | some q => stepW sc rt cal K q.2.1 q.2.2.2 k L st σ (fun k' L' st' σ' => match J k' with
      | some I => (match st' with
        | [] => I L' σ'
        | _ => False)
      | none => wp sc rt cal C J K f k' L' st' σ')
end
