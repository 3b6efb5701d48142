/-! seeds -/
def liesP (w : Int → Int) (n i L o : Int) : Prop := ∀ t, 0 ≤ t → t < L → 0 ≤ o + t → o + t < n → w (i + t) = w (o + t)
def sdC (w : Int → Int) (n i L : Int) : Prop := ∀ x, 0 ≤ x → x < n → ∃ o, o ≤ x ∧ x < o + L ∧ liesP w n i L o
def sdP (w : Int → Int) (n i L : Int) : Prop := 0 ≤ i ∧ 1 ≤ L ∧ i + L ≤ n ∧ ¬ isE w i L ∧ sdC w n i L
def ahP (w : Int → Int) (n i L : Int) : Prop := i = 0 ∨ ∃ u, 1 ≤ u ∧ u ≤ L - i ∧ L - u ≤ lceR w n 0 (i + u)
def bhP (w : Int → Int) (n i L : Int) : Prop := ∀ x, i ≤ x → x < n → ∃ o, i ≤ o ∧ o ≤ x ∧ x < o + L ∧ liesP w n i L o
theorem lies_self {w : Int → Int} {n i L : Int} : liesP w n i L i := fun _ _ _ _ _ => rfl
/-- behind: as the twins tell -/
theorem lies_lce {w : Int → Int} {n i L o : Int} (h0 : 0 ≤ i) (h1 : i + L ≤ n) (h2 : i < o) (h3 : o < n) (hL : 1 ≤ L) : liesP w n i L o ↔ min L (n - o) ≤ lceR w n i o := by
  rw [common_ge (by omega) (by omega) (by omega) h3 (by omega)]
  constructor
  · intro h
    exact ⟨by omega, fun t t0 t1 => h t t0 (by omega) (by omega) (by omega)⟩
  · rintro ⟨-, h⟩ t t0 t1 t2 t3
    exact h t t0 (by omega)
/-- ahead: only one that sticks out can cover there -/
theorem sd_split {w : Int → Int} {n i L : Int} (h0 : 0 ≤ i) (hL : 1 ≤ L) (h1 : i + L ≤ n) (hE : ¬ isE w i L) : sdC w n i L ↔ ahP w n i L ∧ bhP w n i L := by
  have out : ∀ u, 1 ≤ u → u ≤ L - i → 1 ≤ i → (L - u ≤ lceR w n 0 (i + u) ↔ liesP w n i L (-u)) := by
    intro u u0 u1 u2
    rw [common_ge (by omega) (by omega) (by omega) (by omega) (by omega)]
    constructor
    · rintro ⟨-, h⟩ t t0 t1 t2 t3
      have := h (t - u) (by omega) (by omega)
      rw [show i + u + (t - u) = i + t by omega, show 0 + (t - u) = -u + t by omega] at this
      exact this.symm
    · intro h
      refine ⟨by omega, fun t t0 t1 => ?_⟩
      have := h (t + u) (by omega) (by omega) (by omega) (by omega)
      rw [show i + (t + u) = i + u + t by omega, show -u + (t + u) = 0 + t by omega] at this
      exact this.symm
  have noin : ∀ o, 0 ≤ o → o < i → ¬ liesP w n i L o := fun o o0 o1 z => hE ⟨o, o0, o1, fun t t0 t1 => (z t t0 t1 (by omega) (by omega)).symm⟩
  constructor
  · intro h
    refine ⟨?_, fun x x0 x1 => ?_⟩
    · rcases (by omega : i = 0 ∨ 1 ≤ i) with z | z
      · exact Or.inl z
      · obtain ⟨o, o1, o2, o3⟩ := h (i - 1) (by omega) (by omega)
        have : o < 0 := Classical.byContradiction (fun y => noin o (by omega) (by omega) o3)
        refine Or.inr ⟨-o, by omega, by omega, (out (-o) (by omega) (by omega) z).mpr ?_⟩
        rwa [show - -o = o by omega]
    · rcases (by omega : x < i + L ∨ i + L ≤ x) with z | z
      · exact ⟨i, Int.le_refl _, x0, z, lies_self⟩
      · obtain ⟨o, o1, o2, o3⟩ := h x (by omega) x1
        exact ⟨o, by omega, o1, o2, o3⟩
  · rintro ⟨ha, hb⟩ x x0 x1
    rcases (by omega : x < i ∨ i ≤ x) with z | z
    · rcases ha with ha | ⟨u, u0, u1, u2⟩
      · omega
      · exact ⟨-u, by omega, by omega, (out u u0 u1 (by omega)).mp u2⟩
    · obtain ⟨o, _, o1, o2, o3⟩ := hb x z x1
      exact ⟨o, o1, o2, o3⟩
/-- the rank of a pair: how many of P have a lesser measure, or the same and begin ahead -/
theorem cb_mono {P : Int → Int → Prop} {n h0 i0 h1 i1 : Int} (hP : ∀ i h, P i h → i < n) (ha : 1 ≤ h0) (hb : 0 ≤ i0) (hb2 : i0 ≤ n) (hc : 0 ≤ i1) (h : h0 < h1 ∨ (h0 = h1 ∧ i0 ≤ i1)) : cbS P n h0 i0 ≤ cbS P n h1 i1 := by
  have col : ∀ x, 0 ≤ colS P n x := fun x => (sumZ_le (f := fun i => bi (P i x)) (c := 1) (a := 0) (b := n) (by omega) (fun y _ _ => bi_in _)).1
  have part : ∀ x a b, a ≤ b → sumZ (fun i => bi (P i x)) 0 a ≤ sumZ (fun i => bi (P i x)) 0 b := fun x a b hab => cntZ_mono (P := fun i => P i x) hab
  rcases h with h | ⟨rfl, h⟩
  · have a := sumZ_split (f := colS P n) (a := 1) (b := h0 + 1) (c := h1) (by omega) (by omega)
    have b := sumZ_succ (f := colS P n) (a := 1) (b := h0) ha
    have e : colS P n h0 = sumZ (fun i => bi (P i h0)) 0 n := rfl
    have c := part h0 i0 n hb2
    have d : 0 ≤ sumZ (colS P n) (h0 + 1) h1 := by
      have key : ∀ k : Nat, 0 ≤ sumZ (colS P n) (h0 + 1) (h0 + 1 + k) := by
        intro k
        induction k with
        | zero => rw [sumZ_nil (by omega)]; exact Int.le_refl _
        | succ k ih => rw [show h0 + 1 + ((k + 1 : Nat) : Int) = h0 + 1 + (k : Int) + 1 by omega, sumZ_succ (by omega)]; have := col (h0 + 1 + (k : Int)); omega
      have := key (h1 - h0 - 1).toNat
      rwa [show h0 + 1 + ((h1 - h0 - 1).toNat : Int) = h1 by omega] at this
    have g := (sumZ_le (f := fun i => bi (P i h1)) (c := 1) (a := 0) (b := i1) (by omega) (fun y _ _ => bi_in _)).1
    unfold cbS
    omega
  · have c := part h0 i0 i1 h
    unfold cbS
    omega
theorem cb_lt {P : Int → Int → Prop} {n h0 i0 h1 i1 : Int} (hP : ∀ i h, P i h → i < n) (hp : P i0 h0) (ha : 1 ≤ h0) (hb : 0 ≤ i0) (hc : 0 ≤ i1) (h : h0 < h1 ∨ (h0 = h1 ∧ i0 < i1)) : cbS P n h0 i0 < cbS P n h1 i1 := by
  have a := CB_yes (n := n) (m := cbS P n h0 i0) rfl hb hp
  have b := cb_mono (n := n) (h0 := h0) (i0 := i0 + 1) (h1 := h1) (i1 := i1) hP ha (by omega) (by have := hP _ _ hp; omega) hc (by omega)
  omega
noncomputable def allS (P : Int → Int → Prop) (n : Int) : Int := cbS P n (n + 1) 0
def kthP (P : Int → Int → Prop) (n k L i : Int) : Prop := P i L ∧ cbS P n L i = k
theorem kthP_u {P : Int → Int → Prop} {n k L i L' i' : Int} (hP : ∀ i h, P i h → 0 ≤ i ∧ 1 ≤ h ∧ i < n) (h : kthP P n k L i) (h' : kthP P n k L' i') : L = L' ∧ i = i' := by
  obtain ⟨h1, h2⟩ := h
  obtain ⟨g1, g2⟩ := h'
  have a := hP _ _ h1
  have b := hP _ _ g1
  rcases (by omega : (L < L' ∨ (L = L' ∧ i < i')) ∨ (L' < L ∨ (L' = L ∧ i' < i)) ∨ (L = L' ∧ i = i')) with z | z | z
  · have := cb_lt (n := n) (fun i h y => (hP i h y).2.2) h1 a.2.1 a.1 b.1 z; omega
  · have := cb_lt (n := n) (fun i h y => (hP i h y).2.2) g1 b.2.1 b.1 a.1 z; omega
  · exact z
def RSeed (w : Int → Int) (n k a r : Int) : Prop := (k = -1 ∧ a = 0 ∧ r = allS (sdP w n) n) ∨ (0 ≤ k ∧ k < allS (sdP w n) n ∧ 0 ≤ a ∧ a ≤ 1 ∧ ∃ L i, kthP (sdP w n) n k L i ∧ r = if a = 0 then L else i) ∨ (¬ (k = -1 ∧ a = 0) ∧ ¬ (0 ≤ k ∧ k < allS (sdP w n) n ∧ 0 ≤ a ∧ a ≤ 1) ∧ r = -1)
theorem sdP_in {w : Int → Int} {n i h : Int} (z : sdP w n i h) : 0 ≤ i ∧ 1 ≤ h ∧ i < n := ⟨z.1, z.2.1, by have := z.2.1; have := z.2.2.1; omega⟩
theorem RSeed_u {w : Int → Int} {n k a r r' : Int} (h : RSeed w n k a r) (h' : RSeed w n k a r') : r = r' := by
  rcases h with ⟨h1, h2, h3⟩ | ⟨h1, h2, h3, h4, L, i, h5, h6⟩ | ⟨h1, h2, h3⟩ <;> rcases h' with ⟨g1, g2, g3⟩ | ⟨g1, g2, g3, g4, L', i', g5, g6⟩ | ⟨g1, g2, g3⟩ <;> try omega
  obtain ⟨e1, e2⟩ := kthP_u (fun i h z => sdP_in z) h5 g5
  rw [h6, g6, e1, e2]
/-- of all the k-th has a measure h when those of lesser measures are not more than k -/
theorem cb_row {P : Int → Int → Prop} {n h : Int} (hh : 1 ≤ h) : cbS P n (h + 1) 0 = cbS P n h 0 + colS P n h := by
  unfold cbS
  rw [sumZ_succ hh, sumZ_nil (Int.le_refl _), sumZ_nil (Int.le_refl _)]
  omega
theorem cb_at {P : Int → Int → Prop} {n h i : Int} : cbS P n h i = cbS P n h 0 + cntZ (fun x => P x h) 0 i := by
  have e : cntZ (fun x => P x h) 0 i = sumZ (fun x => bi (P x h)) 0 i := rfl
  unfold cbS
  rw [e, sumZ_nil (a := 0) (b := 0) (Int.le_refl _)]
  omega
