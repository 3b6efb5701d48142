/-! THE SMALL WORLD: values, cells by (family, instance), contents by (family, instance, place); it never grows.
Families: 0..12 objects of the class of that place in vwCl; 20..58 arrays; 60 String constants; 61 the script. A field's contents have the code fc class slot. -/
abbrev AV : Type := Option (Int ⊕ Int ⊕ (Nat × Nat))
abbrev SS : Type := Nat → Nat → Int → Int
abbrev vI (x : Int) : AV := some (.inl x)
abbrev vL (x : Int) : AV := some (.inr (.inl x))
abbrev vR (t i : Nat) : AV := some (.inr (.inr (t, i)))
def u3 (σ : SS) (f i : Nat) (k v : Int) : SS := fun f' i' k' => if f' = f ∧ i' = i ∧ k' = k then v else σ f' i' k'
theorem u3_s {σ : SS} {f i : Nat} {k v : Int} : u3 σ f i k v f i k = v := by simp [u3]
theorem u3_f {σ : SS} {f i f' i' : Nat} {k v k' : Int} (h : f' ≠ f) : u3 σ f i k v f' i' k' = σ f' i' k' := by simp [u3, h]
theorem u3_F {σ : SS} {f i f' : Nat} {k v : Int} (h : f' ≠ f) : u3 σ f i k v f' = σ f' := by funext i' k'; simp [u3, h]
theorem u3_i {σ : SS} {f i i' : Nat} {k v k' : Int} (h : i' ≠ i) : u3 σ f i k v f i' k' = σ f i' k' := by simp [u3, h]
theorem u3_k {σ : SS} {f i i' : Nat} {k v k' : Int} (h : k' ≠ k) : u3 σ f i k v f i' k' = σ f i' k' := by simp [u3, h]
theorem u3_e {σ : SS} {f i : Nat} {k v k' : Int} : u3 σ f i k v f i k' = if k' = k then v else σ f i k' := by simp [u3]
def cntL : List Nat := [1,1,1,1,1,2,1,2,1,1,14,1,1, 0,0,0,0,0,0,0, 14,1,1,1,1,1,1,1,1,1,1,1,1,1,1,2,2,2,1,1, 1,1,1,1,1,1,1,1,1,1,1,1,1,1,1,1,1,1,1, 0, 4,1]
def cnt (t : Nat) : Nat := cntL.getD t 0
def alenL : List Int := [0,0,0,0,0,0,0,0,0,0,0,0,0, 0,0,0,0,0,0,0, 120,10,2,300,840,480,4,4,7381,121,26,121,26,121,120,120,120,120,121,240, 121,1210,242,2,720,14520,121,120,26,300,100000,4,4,4,480,121,26,26,676, 0,0,0]
def alen (t : Nat) : Int := alenL.getD t 0
/-- 0 int, 1 byte, 2 boolean, 3 Word references -/
def atyL : List Nat := [9,9,9,9,9,9,9,9,9,9,9,9,9, 9,9,9,9,9,9,9, 1,3,3,1,1,1,0,0,1,1,0,0,0,0,0,0,0,0,0,0, 0,0,0,2,0,0,0,0,0,1,0,0,0,0,0,0,2,2,2, 9,9,9]
def aty (t : Nat) : Nat := atyL.getD t 9
def nflL : List Nat := [5,4,3,10,5,4,2,3,4,10,2,15,33]
def nfl (t : Nat) : Nat := nflL.getD t 0
/-- where a reference field leads: a family, and one instance of it (none: the same instance) -/
def rfL : List (List (Option (Nat × Option Nat))) := [
 [some (10,some 0), some (8,some 0), some (7,some 1), some (38,none), some (39,none)],
 [some (10,some 0), some (8,some 0), some (34,none), none],
 [some (21,none), none, none],
 [some (23,none), none, some (24,none), none, some (25,none), some (26,none), some (27,none), none, none, none],
 [some (10,some 0), some (8,some 0), some (6,some 0), some (7,some 0), some (30,none)],
 [some (35,none), some (36,none), some (37,none), none],
 [some (10,some 0), some (8,some 0)],
 [none, none, none],
 [some (10,some 0), some (28,none), some (29,none), none],
 [some (10,some 0), some (8,some 0), some (31,none), none, none, some (32,none), some (33,none), none, none, none],
 [some (20,none), none],
 [some (10,some 0), some (10,some 1), some (2,some 0), some (22,none), some (3,some 0), some (8,some 0), some (6,some 0), some (4,some 0), some (9,some 0), some (1,some 0), some (0,some 0), some (5,some 0), some (5,some 1), none, none],
 [some (40,none), some (41,none), none, some (42,none), some (43,none), some (44,none), none, none, some (45,none), none, none, some (46,none), some (47,none), some (48,none), some (55,none), some (49,none), none, none, none, none, some (50,none), none, none, some (51,none), some (52,none), some (53,none), some (54,none), none, none, none, some (56,none), some (57,none), some (58,none)]]
def rfo (t k : Nat) : Option (Nat × Option Nat) := (rfL.getD t []).getD k none
/-- a field that is no reference: is it boolean -/
def isZ (t k : Nat) : Bool := [(1,3),(8,3),(9,4),(11,13),(12,7),(12,10)].contains (t, k)
/-- the first of the Words that an array of them holds -/
def atg (t : Nat) : Nat := if t = 21 then 4 else 2
def fc (t k : Nat) : Nat := 100 + 40 * t + k
def HL : List (Nat × Nat) := (List.range 60).flatMap fun t => (List.range (cnt t)).map fun i => (t, i)
theorem HL_mem {t i : Nat} : (t, i) ∈ HL ↔ t < 60 ∧ i < cnt t := by
  simp only [HL, List.mem_flatMap, List.mem_range, List.mem_map, Prod.mk.injEq]
  constructor
  · rintro ⟨a, h1, b, h2, rfl, rfl⟩; exact ⟨h1, h2⟩
  · rintro ⟨h1, h2⟩; exact ⟨t, h1, i, h2, rfl, rfl⟩
theorem HL_nd : HL.Nodup := by decide +kernel
/-- each reference leads to an instance that there is -/
def rfB (t k : Nat) : Bool := match rfo t k with
  | none => true
  | some (tt, none) => decide (tt < 60) && decide (cnt t ≤ cnt tt)
  | some (tt, some c) => decide (tt < 60) && decide (c < cnt tt)
theorem rfB_ok : ∀ t, t < 13 → ∀ k, k < 33 → rfB t k = true := by decide +kernel
theorem rfo_ok {t k tt i : Nat} {oi : Option Nat} (ht : t < 13) (hk : k < 33) (hr : rfo t k = some (tt, oi)) (hi : i < cnt t) : tt < 60 ∧ oi.getD i < cnt tt := by
  have h := rfB_ok t ht k hk
  unfold rfB at h
  rw [hr] at h
  cases oi with
  | none => simp at h; exact ⟨h.1, by simp; omega⟩
  | some c => simp at h; exact ⟨h.1, by simpa using h.2⟩
theorem cnt_obj : ∀ t, t < 60 → cnt t ≠ 0 → (t < 13 ∨ 20 ≤ t) := by decide +kernel
theorem nfl_le : ∀ t, t < 13 → nfl t ≤ 33 := by decide +kernel
theorem aty_lt : ∀ t, t < 60 → cnt t ≠ 0 → ¬ t < 13 → aty t < 4 := by decide +kernel
theorem alen_ok : ∀ t, t < 60 → 0 ≤ alen t ∧ alen t < 2147483648 := by decide +kernel
def okV (v : AV) : Prop := match v with
  | some (.inl x) => InR x
  | some (.inr (.inl x)) => InL x
  | some (.inr (.inr (t, i))) => i < cnt t
  | none => True
def okS (σ : SS) : Prop := ∀ f i k, InR (σ f i k)
theorem okS_u3 {σ : SS} {f i : Nat} {k v : Int} (h : okS σ) (hv : InR v) : okS (u3 σ f i k v) := by
  intro f' i' k'
  unfold u3
  split
  · exact hv
  · exact h _ _ _
def cv (ad : Nat → Nat → Nat) (v : AV) : Value := match v with
  | some (.inl x) => .int (Int32.ofInt x)
  | some (.inr (.inl x)) => .long (Int64.ofInt x)
  | some (.inr (.inr (t, i))) => .ref (ad t i)
  | none => .null
def rv (ad : Nat → Nat → Nat) (v : AV) : Option Value := match v with
  | none => none
  | v => some (cv ad v)
def fvW (ad : Nat → Nat → Nat) (σ : SS) (t i k : Nat) : Value := match rfo t k with
  | some (tt, oi) => .ref (ad tt (oi.getD i))
  | none => .int (Int32.ofInt (σ (fc t k) i 0))
def cellW (ad : Nat → Nat → Nat) (cA : Nat → ClassId) (σ : SS) (t i : Nat) : va_E :=
  if t < 13 then .inr (t, (List.range (nfl t)).map (fun k => fvW ad σ t i k))
  else if aty t = 3 then .inl (cA 3, (alen t).toNat, .inr (.inr (.inr (.inr (fun j => some (ad 10 (atg t + j)))))))
  else .inl (cA (aty t), (alen t).toNat, .inl (fun j => Int32.ofInt (σ t i (j : Int))))
def wsW (ad : Nat → Nat → Nat) (cA : Nat → ClassId) (σ : SS) : va_W := HL.map (fun h => (ad h.1 h.2, cellW ad cA σ h.1 h.2))
def tysW (cA : Nat → ClassId) : List (ClassId × FieldType) := [(cA 0, .int), (cA 1, .byte), (cA 2, .boolean), (cA 3, .object "WordRuns$Word")]
def adI (ad : Nat → Nat → Nat) : Prop := ∀ h, h ∈ HL → ∀ h', h' ∈ HL → ad h.1 h.2 = ad h'.1 h'.2 → h = h'
def Aad (ad : Nat → Nat → Nat) : Nat → Prop := fun q => ∃ h, h ∈ HL ∧ q = ad h.1 h.2
theorem wsW_at {ad : Nat → Nat → Nat} {cA : Nat → ClassId} {σ : SS} {t i : Nat} (ht : t < 60) (hi : i < cnt t) : ∃ k : Nat, HL[k]? = some (t, i) ∧ (wsW ad cA σ)[k]? = some (ad t i, cellW ad cA σ t i) := by
  obtain ⟨k, hk⟩ := List.mem_iff_getElem?.mp (HL_mem.mpr ⟨ht, hi⟩)
  exact ⟨k, hk, by simp [wsW, hk]⟩
theorem wsW_D {ad : Nat → Nat → Nat} {cA : Nat → ClassId} {σ : SS} (hI : adI ad) : va_D (Aad ad) (wsW ad cA σ) := by
  refine ⟨fun i j p q hp hq e => ?_, fun k q hq => ?_⟩
  · simp only [wsW, List.getElem?_map, Option.map_eq_some_iff] at hp hq
    obtain ⟨h, h1, rfl⟩ := hp
    obtain ⟨h', h2, rfl⟩ := hq
    have := hI h (List.mem_of_getElem? h1) h' (List.mem_of_getElem? h2) e
    subst this
    exact (List.getElem?_inj (List.getElem?_eq_some_iff.mp h1).1 HL_nd).mp (h1.trans h2.symm)
  · simp only [wsW, List.getElem?_map, Option.map_eq_some_iff] at hq
    obtain ⟨h, h1, rfl⟩ := hq
    exact ⟨h, List.mem_of_getElem? h1, rfl⟩
/-- one cell's contents change -/
theorem wsW_set {ad : Nat → Nat → Nat} {cA : Nat → ClassId} {σ σ' : SS} {t i k : Nat} {e : va_E} (hk : HL[k]? = some (t, i)) (he : e = cellW ad cA σ' t i) (ho : ∀ t' i', (t', i') ∈ HL → (t', i') ≠ (t, i) → cellW ad cA σ' t' i' = cellW ad cA σ t' i') :
    (wsW ad cA σ).set k (ad t i, e) = wsW ad cA σ' := by
  have hl : k < HL.length := (List.getElem?_eq_some_iff.mp hk).1
  apply List.ext_getElem?
  intro j
  rw [List.getElem?_set]
  by_cases hj : k = j
  · subst hj
    have e2 : HL[k] = (t, i) := (List.getElem?_eq_some_iff.mp hk).2
    simp [wsW, he, hl]
    exact ⟨by rw [e2], by rw [e2]⟩
  · simp only [hj, if_false, wsW, List.getElem?_map]
    cases hq : HL[j]? with
    | none => rfl
    | some h =>
      obtain ⟨t', i'⟩ := h
      have hne : (t', i') ≠ (t, i) := by
        intro e2
        rw [e2] at hq
        exact hj ((List.getElem?_inj hl HL_nd).mp (hk.trans hq.symm))
      simp [ho t' i' (List.mem_of_getElem? hq) hne]
theorem cellW_f {ad : Nat → Nat → Nat} {cA : Nat → ClassId} {σ : SS} {t i k : Nat} {v : Int} (ht : t < 13) (hk : k < nfl t) (hn : rfo t k = none) :
    (Sum.inr (t, ((List.range (nfl t)).map (fun k => fvW ad σ t i k)).set k (.int (Int32.ofInt v))) : va_E) = cellW ad cA (u3 σ (fc t k) i 0 v) t i := by
  unfold cellW
  rw [if_pos ht]
  congr 2
  apply List.ext_getElem?
  intro j
  rw [List.getElem?_set]
  by_cases hj : k = j
  · subst hj
    simp [hk, fvW, hn, u3]
  · simp only [hj, if_false, List.getElem?_map]
    by_cases hjn : j < nfl t
    · simp only [List.getElem?_range hjn, Option.map_some, fvW]
      congr 1
      cases rfo t j with
      | some q => rfl
      | none =>
        simp only [u3]
        rw [if_neg]
        unfold fc
        omega
    · simp [hjn]
theorem cellW_fo {ad : Nat → Nat → Nat} {cA : Nat → ClassId} {σ : SS} {t i k : Nat} {v : Int} (ht : t < 13) (hk : k < nfl t) : ∀ t' i', (t', i') ∈ HL → (t', i') ≠ (t, i) → cellW ad cA (u3 σ (fc t k) i 0 v) t' i' = cellW ad cA σ t' i' := by
  intro t' i' hm hne
  have hm' := HL_mem.mp hm
  have hk2 := nfl_le t ht
  unfold cellW
  by_cases h13 : t' < 13
  · rw [if_pos h13, if_pos h13]
    congr 2
    apply List.map_congr_left
    intro j hj
    have hj2 := nfl_le t' h13
    have hj3 : j < nfl t' := List.mem_range.mp hj
    unfold fvW
    cases rfo t' j with
    | some q => rfl
    | none =>
      simp only [u3]
      rw [if_neg]
      rintro ⟨e1, e2, -⟩
      apply hne
      unfold fc at e1
      rw [e2, show t' = t by omega]
  · rw [if_neg h13, if_neg h13]
    by_cases h3 : aty t' = 3
    · rw [if_pos h3, if_pos h3]
    · rw [if_neg h3, if_neg h3]
      congr 4
      funext j
      simp only [u3]
      rw [if_neg]
      unfold fc
      omega
theorem cellW_a {ad : Nat → Nat → Nat} {cA : Nat → ClassId} {σ : SS} {t i : Nat} {x v : Int} (ht : ¬ t < 13) (ha : aty t ≠ 3) (h0 : 0 ≤ x) :
    (Sum.inl (cA (aty t), (alen t).toNat, .inl (upd (fun j : Nat => Int32.ofInt (σ t i (j : Int))) x.toNat (Int32.ofInt v))) : va_E) = cellW ad cA (u3 σ t i x v) t i := by
  unfold cellW
  rw [if_neg ht, if_neg ha]
  congr 4
  funext j
  simp only [upd, u3]
  by_cases hj : j = x.toNat
  · rw [if_pos hj, if_pos (by simp; omega)]
  · rw [if_neg hj, if_neg (by omega)]
theorem cellW_ao {ad : Nat → Nat → Nat} {cA : Nat → ClassId} {σ : SS} {t i : Nat} {x v : Int} (ht : ¬ t < 13) (ht2 : t < 60) : ∀ t' i', (t', i') ∈ HL → (t', i') ≠ (t, i) → cellW ad cA (u3 σ t i x v) t' i' = cellW ad cA σ t' i' := by
  intro t' i' hm hne
  unfold cellW
  by_cases h13 : t' < 13
  · rw [if_pos h13, if_pos h13]
    congr 2
    apply List.map_congr_left
    intro j hj
    unfold fvW
    cases rfo t' j with
    | some q => rfl
    | none =>
      simp only [u3]
      rw [if_neg]
      unfold fc
      omega
  · rw [if_neg h13, if_neg h13]
    by_cases h3 : aty t' = 3
    · rw [if_pos h3, if_pos h3]
    · rw [if_neg h3, if_neg h3]
      congr 4
      funext j
      simp only [u3]
      rw [if_neg]
      rintro ⟨e1, e2, -⟩
      exact hne (by rw [e1, e2])
