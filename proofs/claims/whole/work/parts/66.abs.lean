/-! words that are absent while their two parts lie in the word -/
theorem andnot {x y : Int} (hx : 0 ≤ x) (hx2 : x < 2 ^ 26) (hy : 0 ≤ y) (hy2 : y < 2 ^ 26) : 0 ≤ andI x (xorI y (-1)) ∧ andI x (xorI y (-1)) < 2 ^ 26 ∧ ∀ c, 0 ≤ c → (bitI (andI x (xorI y (-1))) c ↔ bitI x c ∧ ¬ bitI y c) := by
  have e : andI x (xorI y (-1)) = ((x.toNat ^^^ (x.toNat &&& y.toNat) : Nat) : Int) := by
    have lt : x.toNat ^^^ (x.toNat &&& y.toNat) < 2 ^ 26 := Nat.xor_lt_two_pow (by omega) (Nat.lt_of_le_of_lt Nat.and_le_left (by omega))
    unfold andI xorI
    rw [o32_of, o32_nat hx, o32_nat hy]
    have e2 : Int32.ofNat x.toNat &&& (Int32.ofNat y.toNat ^^^ Int32.ofInt (-1)) = Int32.ofNat (x.toNat ^^^ (x.toNat &&& y.toNat)) := by
      apply Int32.toBitVec_inj.mp
      have eo : ∀ m : Nat, (Int32.ofNat m).toBitVec = BitVec.ofNat 32 m := fun _ => rfl
      rw [Int32.toBitVec_and, Int32.toBitVec_xor, eo, eo, eo]
      apply BitVec.eq_of_getLsbD_eq
      intro i hi
      have e3 : (Int32.ofInt (-1)).toBitVec.getLsbD i = true := by
        have : (Int32.ofInt (-1)).toBitVec = BitVec.allOnes 32 := by decide
        rw [this, BitVec.getLsbD_allOnes]
        exact decide_eq_true hi
      rw [BitVec.getLsbD_and, BitVec.getLsbD_xor, e3, BitVec.getLsbD_ofNat, BitVec.getLsbD_ofNat, BitVec.getLsbD_ofNat, Nat.testBit_xor, Nat.testBit_and]
      simp only [hi, decide_true, Bool.true_and]
      cases x.toNat.testBit i <;> cases y.toNat.testBit i <;> rfl
    rw [e2, show Int32.ofNat (x.toNat ^^^ (x.toNat &&& y.toNat)) = Int32.ofInt ((x.toNat ^^^ (x.toNat &&& y.toNat) : Nat) : Int) from rfl, o32 (by omega)]
  have lt : x.toNat ^^^ (x.toNat &&& y.toNat) < 2 ^ 26 := Nat.xor_lt_two_pow (by omega) (Nat.lt_of_le_of_lt Nat.and_le_left (by omega))
  rw [e]
  refine ⟨by omega, by omega, fun c c0 => ?_⟩
  unfold bitI
  rw [Int.toNat_natCast, Nat.testBit_xor, Nat.testBit_and]
  cases x.toNat.testBit c.toNat <;> cases y.toNat.testBit c.toNat <;> simp
/-- the shortest and the longest of some lengths, 0 if there are none -/
def AT (S : Int → Prop) (s l : Int) : Prop := ((∀ x, ¬ S x) ∧ s = 0 ∧ l = 0) ∨ (S s ∧ S l ∧ ∀ x, S x → s ≤ x ∧ x ≤ l)
theorem AT_u {S : Int → Prop} {s l s' l' : Int} (h : AT S s l) (h' : AT S s' l') : s = s' ∧ l = l' := by
  rcases h with ⟨h1, h2, h3⟩ | ⟨h1, h2, h3⟩ <;> rcases h' with ⟨g1, g2, g3⟩ | ⟨g1, g2, g3⟩
  · omega
  · exact absurd g1 (h1 _)
  · exact absurd h1 (g1 _)
  · have a := h3 _ g1; have b := h3 _ g2; have c := g3 _ h1; have d := g3 _ h2; omega
theorem AT_iff {S S' : Int → Prop} {s l : Int} (h : AT S s l) (hs : ∀ x, S' x ↔ S x) : AT S' s l := by
  rcases h with ⟨h1, h2, h3⟩ | ⟨h1, h2, h3⟩
  · exact Or.inl ⟨fun x z => h1 x ((hs x).mp z), h2, h3⟩
  · exact Or.inr ⟨(hs _).mpr h1, (hs _).mpr h2, fun x z => h3 x ((hs x).mp z)⟩
theorem AT_add {S : Int → Prop} {s l k : Int} (h : AT S s l) (hk : 0 ≤ k) : AT (fun x => S x ∨ x = k) (@ite Int (∀ x, ¬ S x) (Classical.propDecidable _) k (min s k)) (max l k) := by
  rcases h with ⟨h1, h2, h3⟩ | ⟨h1, h2, h3⟩
  · rw [if_pos h1]
    refine Or.inr ⟨Or.inr rfl, Or.inr (by omega), fun x z => ?_⟩
    rcases z with z | rfl
    · exact absurd z (h1 x)
    · omega
  · rw [if_neg (fun z => z s h1)]
    have h4 := h3 _ h1
    have h5 := h3 _ h2
    refine Or.inr ⟨?_, ?_, fun x z => ?_⟩
    · rcases (by omega : min s k = s ∨ min s k = k) with z | z
      · rw [z]; exact Or.inl h1
      · exact Or.inr z
    · rcases (by omega : max l k = l ∨ max l k = k) with z | z
      · rw [z]; exact Or.inl h2
      · exact Or.inr z
    · rcases z with z | rfl
      · have := h3 x z; omega
      · omega
def inP (w : Int → Int) (n i L a b : Int) : Prop := ahdU w n i L (n - L + 1) a ∧ behU w n i L (n - L + 1) b ∧ ¬ botU w n i L (n - L + 1) a b
noncomputable def absR (w : Int → Int) (n i L a : Int) : Int := cntZ (inP w n i L a) 0 26
noncomputable def absM (w : Int → Int) (n i L : Int) : Int := sumZ (absR w n i L) 0 26
theorem absR_in {w : Int → Int} {n i L a : Int} : 0 ≤ absR w n i L a ∧ absR w n i L a ≤ 26 := by
  have := cntZ_in (P := inP w n i L a) (a := 0) (b := 26)
  unfold absR
  omega
theorem absRs_in {w : Int → Int} {n i L k : Int} (hk : k ≤ 26) : 0 ≤ sumZ (absR w n i L) 0 k ∧ sumZ (absR w n i L) 0 k ≤ 676 := by
  have := sumZ_le (f := absR w n i L) (c := 26) (a := 0) (b := k) (by omega) (fun x _ _ => absR_in)
  omega
theorem absM_in {w : Int → Int} {n i L : Int} : 0 ≤ absM w n i L ∧ absM w n i L ≤ 676 := absRs_in (Int.le_refl _)
def abG (w : Int → Int) (n i L : Int) : Prop := 1 ≤ L ∧ 0 ≤ i ∧ i + L ≤ n ∧ ¬ isE w i L
noncomputable def absG (w : Int → Int) (n i L : Int) : Int := iT (abG w n i L) (absM w n i L)
theorem absG_in {w : Int → Int} {n i L : Int} : 0 ≤ absG w n i L ∧ absG w n i L ≤ 676 := by
  have := absM_in (w := w) (n := n) (i := i) (L := L)
  unfold absG
  by_cases h : abG w n i L
  · rw [iT_y h]; exact this
  · rw [iT_n h]; omega
noncomputable def absT (w : Int → Int) (n : Int) : Int := absM w n 0 0 + sumZ (fun i => sumZ (absG w n i) 1 (n + 1)) 0 n
def absS (w : Int → Int) (n l : Int) : Prop := (l = 2 ∧ 0 < absM w n 0 0) ∨ ∃ i L, l = L + 2 ∧ 0 < absG w n i L
def RAbs (w : Int → Int) (n a r : Int) : Prop := gd (0 ≤ a ∧ a ≤ 2) (-1) r (∃ s l, AT (absS w n) s l ∧ r = if a = 0 then absT w n else if a = 1 then s else l)
theorem RAbs_u {w : Int → Int} {n a r r' : Int} (h : RAbs w n a r) (h' : RAbs w n a r') : r = r' := by
  refine gd_uniq h h' (fun _ ⟨s, l, h1, h2⟩ ⟨s', l', g1, g2⟩ => ?_)
  obtain ⟨e1, e2⟩ := AT_u h1 g1
  rw [h2, g2, e1, e2]
theorem absG_0 {w : Int → Int} {n i L : Int} (h : ¬ abG w n i L) : absG w n i L = 0 := iT_n h
/-- where nothing stops just behind L letters, nothing is absent around -/
theorem abs_none {w : Int → Int} {n i L : Int} (h : ∀ x, i < x → x < n → lce w n i x ≠ L) : absG w n i L = 0 := by
  by_cases hg : abG w n i L
  · unfold absG
    rw [iT_y hg]
    obtain ⟨g1, g2, g3, g4⟩ := hg
    have occ1 : ∀ z, 0 ≤ z → z + L ≤ n → eqs w i z L → z = i ∨ (i < z ∧ z + L < n ∧ w (z + L) = w (i + L)) := by
      intro z z0 z1 z2
      rcases (by omega : z < i ∨ z = i ∨ i < z) with y | y | y
      · exact absurd ⟨z, z0, y, eqs_symm z2⟩ g4
      · exact Or.inl y
      · refine Or.inr ⟨y, ?_⟩
        have k1 := (le_lce w (n := n) (i := i) (j := z) (L := L) (by omega) (by omega) (by omega)).mpr ⟨by omega, z2⟩
        have k2 := h z y (by omega)
        obtain ⟨k3, k4⟩ := (le_lce w (n := n) (i := i) (j := z) (L := L + 1) (by omega) (by omega) (by omega)).mp (by omega)
        exact ⟨by omega, (k4 L (by omega) (by omega)).symm⟩
    refine sumZ_zero (fun a _ _ => cntZ_zero.mpr (fun b _ _ => ?_))
    rintro ⟨⟨x, x1, x2, x3, x4, x5⟩, ⟨y, y1, y2, y3, y4, y5⟩, hb⟩
    apply hb
    have hx := occ1 x (by omega) x3 x4
    have hy := occ1 y y1 (by omega) y4
    have hb2 : w (i + L) = b := by
      rcases hy with rfl | ⟨-, -, hy⟩
      · exact y5
      · rw [← hy]; exact y5
    rcases hx with rfl | ⟨-, k1, k2⟩
    · refine ⟨x, x1, by omega, ?_, x4, x5, hb2⟩
      rcases hy with rfl | hy
      · exact y3
      · omega
    · exact ⟨x, x1, by omega, k1, x4, x5, by rw [k2]; exact hb2⟩
  · exact absG_0 hg
def AbL : List (Nat × Nat) := [(467, 0), (468, 0), (469, 0)]
def ArL : List (Nat × Nat) := TwL ++ AbL ++ [(32, 0)]
def AqL : List (Nat × Nat) := ArL ++ [(33, 0)]
def AQ (σ σ' : SS) : Prop := Fr AqL σ σ' ∧ TwC σ'
theorem AQ.rf {σ : SS} (h : TwC σ) : AQ σ σ := ⟨Fr_refl, h⟩
theorem AQ.tr {σ σ1 σ2 : SS} (h : AQ σ σ1) (h2 : AQ σ1 σ2) : AQ σ σ2 := ⟨Fr_trans h.1 h2.1, h2.2⟩
theorem AQ.w {σ σ' : SS} (h : AQ σ σ') : cW σ' = cW σ ∧ σ' 501 0 0 = σ 501 0 0 := by
  have e1 : σ' 20 0 = σ 20 0 := h.1 _ _ (by simp [AqL, ArL, AbL, TwL])
  have e2 : σ' 501 0 = σ 501 0 := h.1 _ _ (by simp [AqL, ArL, AbL, TwL])
  exact ⟨cW_fr e1 e2, by rw [e2]⟩
theorem TQ.A {σ σ' : SS} (h : TQ σ σ') : AQ σ σ' := ⟨Fr_mono h.1 (by intro q hq; simp [AqL, ArL, hq]), h.2⟩
/-- what isn't of word and twins may change -/
theorem TwC_fr {σ σ' : SS} (hT : TwC σ) (e1 : σ' 20 0 = σ 20 0) (e2 : σ' 501 0 = σ 501 0) (e3 : σ' 423 0 = σ 423 0) (e4 : σ' 28 0 = σ 28 0) (e5 : σ' 29 0 = σ 29 0) : TwC σ' := by
  obtain ⟨h1, h2⟩ := hT
  refine ⟨?_, fun hr => ?_⟩
  · unfold WI at *; rw [e1, e2]; exact Wd_fr h1 e2 e1
  · rw [e3] at hr
    have := h2 hr
    rw [cW_fr e1 e2, e2]
    intro hi g1 g2
    rw [e4, e5]
    exact this hi g1 g2
theorem TwC_o {σ σ' : SS} {l : List (Nat × Nat)} (hT : TwC σ) (h : Fr l σ σ') (hl : ∀ q ∈ [(20, 0), (501, 0), (423, 0), (28, 0), (29, 0)], q ∉ l) : TwC σ' :=
  TwC_fr hT (h _ _ (hl _ (by simp))) (h _ _ (hl _ (by simp))) (h _ _ (hl _ (by simp))) (h _ _ (hl _ (by simp))) (h _ _ (hl _ (by simp)))
/-- the tally of what is absent -/
def AB (σ : SS) (M : Int) (S : Int → Prop) : Prop := σ 467 0 0 = M ∧ (M = 0 ↔ ∀ x, ¬ S x) ∧ AT S (σ 468 0 0) (σ 469 0 0)
theorem AB_iff {σ : SS} {M M' : Int} {S S' : Int → Prop} (h : AB σ M S) (hm : M' = M) (hs : ∀ x, S' x ↔ S x) : AB σ M' S' :=
  ⟨by rw [hm]; exact h.1, by rw [hm, h.2.1]; exact ⟨fun z x y => z x ((hs x).mp y), fun z x y => z x ((hs x).mpr y)⟩, AT_iff h.2.2 hs⟩
theorem AB_fr {σ σ' : SS} {M : Int} {S : Int → Prop} (h : AB σ M S) (e1 : σ' 467 0 = σ 467 0) (e2 : σ' 468 0 = σ 468 0) (e3 : σ' 469 0 = σ 469 0) : AB σ' M S := by
  unfold AB
  rw [e1, e2, e3]
  exact h
def S_Un_addAbsent : GS := fun as σ K => match as with
  | [some (.inr (.inr (9, 0))), some (.inl a1), some (.inl a2)] => (0 ≤ a1 ∧ 0 ≤ a2 ∧ 0 ≤ σ 467 0 0 ∧ InR (σ 467 0 0 + a2)) ∧ ∀ σ', Fr AbL σ σ' → σ' 467 0 0 = σ 467 0 0 + a2 → (∀ M S, AB σ M S → AB σ' (M + a2) (fun x => S x ∨ (x = a1 ∧ 0 < a2))) → K none σ'
  | _ => False
def VE_Un_addAbsent (a1 : Int) (a2 : Int) (σ : SS) (K : AV → SS → Prop) : Prop :=
  ((a2 ≤ 0 →
    (K none σ)) ∧
  ((0 : Int) < a2 →
    (((σ 467 0 0) ≠ 0 →
      (∀ σ1 : SS, σ1 = u3 σ 468 0 0 (min (σ 468 0 0) a1) →
      (∀ σ2 : SS, σ2 = u3 σ1 469 0 0 (max (σ1 469 0 0) a1) →
      (InR ((σ2 467 0 0) + a2) ∧
      (∀ σ3 : SS, σ3 = u3 σ2 467 0 0 ((σ2 467 0 0) + a2) →
      (K none σ3)))))) ∧
    ((σ 467 0 0) = 0 →
      (∀ σ4 : SS, σ4 = u3 σ 468 0 0 a1 →
      (∀ σ5 : SS, σ5 = u3 σ4 469 0 0 (max (σ4 469 0 0) a1) →
      (InR ((σ5 467 0 0) + a2) ∧
      (∀ σ6 : SS, σ6 = u3 σ5 467 0 0 ((σ5 467 0 0) + a2) →
      (K none σ6)))))))))
theorem e_Un_addAbsent (a1 : Int) (a2 : Int) (σ : SS) (K : AV → SS → Prop) (ha1 : InR a1) (ha2 : InR a2) (hs : okS σ) (hG : S_Un_addAbsent [vR 9 0, vI a1, vI a2] σ K) : VE_Un_addAbsent a1 a2 σ K := by
  unfold VE_Un_addAbsent
  obtain ⟨⟨h1, h2, h3, h4⟩, hG⟩ := hG
  have key : 0 < a2 → ∀ sv, (sv = if σ 467 0 0 = 0 then a1 else min (σ 468 0 0) a1) → ∀ σ1, σ1 = u3 σ 468 0 0 sv → ∀ σ2, σ2 = u3 σ1 469 0 0 (max (σ1 469 0 0) a1) → InR (σ2 467 0 0 + a2) ∧ ∀ σ3, σ3 = u3 σ2 467 0 0 (σ2 467 0 0 + a2) → K none σ3 := by
    intro hp sv hsv σ1 e1 σ2 e2
    have k1 : σ1 469 0 0 = σ 469 0 0 := by rw [e1, u3_f (by decide)]
    have k2 : σ2 467 0 0 = σ 467 0 0 := by rw [e2, u3_f (by decide), e1, u3_f (by decide)]
    refine ⟨by rw [k2]; exact h4, fun σ3 e3 => hG σ3 ?_ (by rw [e3, u3_s, k2]) ?_⟩
    · rw [e3, e2, e1]
      exact Fr_trans (Fr_u3 (by simp [AbL])) (Fr_trans (Fr_u3 (by simp [AbL])) (Fr_u3 (by simp [AbL])))
    · rintro M S ⟨g1, g2, g3⟩
      have k3 : σ3 467 0 0 = σ 467 0 0 + a2 := by rw [e3, u3_s, k2]
      have k4 : σ3 468 0 0 = sv := by rw [e3, u3_f (by decide), e2, u3_f (by decide), e1, u3_s]
      have k5 : σ3 469 0 0 = max (σ 469 0 0) a1 := by rw [e3, u3_f (by decide), e2, u3_s, k1]
      refine ⟨by omega, ⟨fun z => by omega, fun z => absurd (Or.inr ⟨rfl, hp⟩) (z a1)⟩, ?_⟩
      rw [k4, k5, hsv]
      have := AT_add g3 h1
      refine AT_iff (S := fun x => S x ∨ x = a1) ?_ (fun x => ⟨fun z => z.elim Or.inl (fun y => Or.inr y.1), fun z => z.elim Or.inl (fun y => Or.inr ⟨y, hp⟩)⟩)
      by_cases hz : ∀ x, ¬ S x
      · rw [if_pos hz] at this
        rwa [if_pos (by rw [g1]; exact g2.mpr hz)]
      · rw [if_neg hz] at this
        rwa [if_neg (by rw [g1]; exact fun z => hz (g2.mp z))]
  refine ⟨fun h => hG σ Fr_refl (by omega) (fun M S g => AB_iff g (by omega) (fun x => ⟨fun z => z.elim id (fun y => absurd y.2 (by omega)), Or.inl⟩)), fun h => ⟨fun c => ?_, fun c => ?_⟩⟩
  · intro σ1 e1 σ2 e2
    exact key h _ (by rw [if_neg c]) σ1 e1 σ2 e2
  · intro σ1 e1 σ2 e2
    exact key h _ (by rw [if_pos c]) σ1 e1 σ2 e2
theorem H_Un_addAbsent {d : Nat} (hd : 1 ≤ d) : Holds d I_Un_addAbsent S_Un_addAbsent := by
  refine holds_of (d' := d - 1) (rt := 0) (cal := []) (C := C_Un_addAbsent) m_Un_addAbsent o_Un_addAbsent rfl rfl (by omega) ?_ ?_
  · intro x hx
    cases hx
  · intro as σ K has hσ hG
    have hG2 := hG
    unfold S_Un_addAbsent at hG2
    split at hG2
    · next a1 a2 =>
      refine ⟨Nat.le_of_ble_eq_true rfl, (fun _ => none), ?_, 1000, ?_⟩
      · intro k n z L σ' hk hL hs hP
        cases hk
      · exact e_Un_addAbsent a1 a2 σ K (has _ (List.mem_of_getElem? (i := 1) rfl)) (has _ (List.mem_of_getElem? (i := 2) rfl)) hσ hG
    · exact hG2.elim
