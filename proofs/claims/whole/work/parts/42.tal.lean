/-! tallied parts: how many, the longest, where the first such begins. c: a part of measure h is c * h long -/
def TL (c : Int) (S : Int → Int → Prop) (l f : Int) : Prop := (∀ i h, S i h → c * h < l ∨ (c * h = l ∧ f ≤ i)) ∧ ((l = 0 ∧ f = -2) ∨ ∃ h, l = c * h ∧ 1 ≤ h ∧ S f h)
theorem TL_congr {c l f : Int} {S S' : Int → Int → Prop} (h : TL c S l f) (hs : ∀ i h, S i h ↔ S' i h) : TL c S' l f := by
  obtain ⟨h1, h2⟩ := h
  refine ⟨fun i h hh => h1 i h ((hs i h).mpr hh), ?_⟩
  rcases h2 with h2 | ⟨h, h3, h4, h5⟩
  · exact Or.inl h2
  · exact Or.inr ⟨h, h3, h4, (hs f h).mp h5⟩
theorem TL_0 {c : Int} : TL c (fun _ _ => False) 0 (-2) := ⟨fun _ _ h => h.elim, Or.inl ⟨rfl, rfl⟩⟩
/-- one more part: it comes behind those of its measure -/
theorem TL_add {c l f b h0 : Int} {S : Int → Int → Prop} (hc : c = 1 ∨ c = 2) (h : TL c S l f) (hh : 1 ≤ h0) (ho : ∀ i, S i h0 → i ≤ b) :
    TL c (fun i h => S i h ∨ (i = b ∧ h = h0)) (if l < c * h0 then c * h0 else l) (if l < c * h0 then b else f) := by
  obtain ⟨h1, h2⟩ := h
  have hpos : 1 ≤ c * h0 := by rcases hc with rfl | rfl <;> omega
  have hf : c * h0 = l → f ≤ b := by
    intro z
    rcases h2 with ⟨h2, h3⟩ | ⟨x, h2, h3, h4⟩
    · omega
    · have e : x = h0 := by rcases hc with rfl | rfl <;> omega
      exact ho f (e ▸ h4)
  constructor
  · rintro i h (hs | ⟨hi, hm⟩)
    · have := h1 i h hs
      split <;> omega
    · rw [hi, hm]
      split <;> omega
  · by_cases hu : l < c * h0
    · rw [if_pos hu, if_pos hu]
      exact Or.inr ⟨h0, rfl, hh, Or.inr ⟨rfl, rfl⟩⟩
    · rw [if_neg hu, if_neg hu]
      rcases h2 with ⟨h2, h3⟩ | ⟨h, h3, h4, h5⟩
      · omega
      · exact Or.inr ⟨h, h3, h4, Or.inl h5⟩
theorem TL_uniq {c l f l' f' : Int} {S : Int → Int → Prop} (hc : c = 1 ∨ c = 2) (hS : ∀ i h, S i h → 0 ≤ i ∧ 1 ≤ h) (h : TL c S l f) (h' : TL c S l' f') : l = l' ∧ f = f' := by
  obtain ⟨h1, h2⟩ := h
  obtain ⟨g1, g2⟩ := h'
  rcases h2 with ⟨h2, h3⟩ | ⟨x, h2, h3, h4⟩ <;> rcases g2 with ⟨g2, g3⟩ | ⟨y, g2, g3, g4⟩
  · omega
  · have a := h1 _ _ g4; have b := hS _ _ g4
    rcases hc with rfl | rfl <;> omega
  · have a := g1 _ _ h4; have b := hS _ _ h4
    rcases hc with rfl | rfl <;> omega
  · have a := h1 _ _ g4; have b := g1 _ _ h4
    omega
noncomputable def rowS (P : Int → Int → Prop) (n : Int) (i : Int) : Int := sumZ (fun h => bi (P i h)) 1 (n + 1)
noncomputable def dsum (P : Int → Int → Prop) (n : Int) : Int := sumZ (rowS P n) 0 n
/-- what a question about tallied parts answers -/
def RTal (c : Int) (P : Int → Int → Prop) (n a r : Int) : Prop := gd (0 ≤ a ∧ a ≤ 2) (-1) r (∃ m l f, m = dsum P n ∧ TL c P l f ∧ r = toldW m l f a)
theorem toldW_0 {m l f a : Int} (h : a = 0) : m = toldW m l f a := by subst h; rfl
theorem toldW_1 {m l f a : Int} (h : a = 1) : l = toldW m l f a := by subst h; rfl
theorem toldW_2 {m l f a : Int} (h : a = 2) : f = toldW m l f a := by subst h; rfl
theorem RTal_of {c n a m l f : Int} {P : Int → Int → Prop} (h1 : m = dsum P n) (h2 : TL c P l f) : RTal c P n a (toldW m l f a) := by
  by_cases h : 0 ≤ a ∧ a ≤ 2
  · exact gd_y h ⟨m, l, f, h1, h2, rfl⟩
  · have e : toldW m l f a = -1 := by unfold toldW; rw [if_neg (by omega), if_neg (by omega), if_neg (by omega)]
    rw [e]
    exact gd_n h
theorem RTal_u {c n a r r' : Int} {P : Int → Int → Prop} (hc : c = 1 ∨ c = 2) (hS : ∀ i h, P i h → 0 ≤ i ∧ 1 ≤ h) (h : RTal c P n a r) (h' : RTal c P n a r') : r = r' := by
  refine gd_uniq h h' (fun _ ⟨m, l, f, h1, h2, h3⟩ ⟨m', l', f', g1, g2, g3⟩ => ?_)
  obtain ⟨e1, e2⟩ := TL_uniq hc hS h2 g2
  rw [h3, g3, h1, g1, e1, e2]
theorem rowS_in {P : Int → Int → Prop} {n i : Int} (hn : 0 ≤ n) : 0 ≤ rowS P n i ∧ rowS P n i ≤ n := by
  have := sumZ_le (f := fun h => bi (P i h)) (c := 1) (a := 1) (b := n + 1) (by omega) (fun x _ _ => bi_in _)
  unfold rowS
  omega
theorem dsum_in {P : Int → Int → Prop} {n k : Int} (hn : 0 ≤ n) (hn2 : n ≤ 120) (hk : k ≤ n) : 0 ≤ sumZ (rowS P n) 0 k ∧ sumZ (rowS P n) 0 k ≤ 14400 := by
  have := sumZ_le (f := rowS P n) (c := 120) (a := 0) (b := k) (by omega) (fun x _ _ => by have := rowS_in (P := P) (i := x) hn; omega)
  omega
/-- row by row: rows ahead of i0 are through, of row i0 the measures below h0 -/
def TA (c : Int) (P : Int → Int → Prop) (n i0 h0 m l f : Int) : Prop := m = sumZ (rowS P n) 0 i0 + sumZ (fun h => bi (P i0 h)) 1 h0 ∧ TL c (fun i h => P i h ∧ (i < i0 ∨ (i = i0 ∧ h < h0))) l f
theorem TA_0 {c n : Int} {P : Int → Int → Prop} (hP : ∀ i h, P i h → 0 ≤ i ∧ 1 ≤ h) : TA c P n 0 1 0 0 (-2) :=
  ⟨by rw [sumZ_nil (by omega), sumZ_nil (by omega)]; rfl, TL_congr TL_0 (fun i h => ⟨fun z => z.elim, fun z => by have := hP i h z.1; omega⟩)⟩
theorem TA_no {c n i0 h0 m l f : Int} {P : Int → Int → Prop} (h : TA c P n i0 h0 m l f) (hh : 1 ≤ h0) (hp : ¬ P i0 h0) : TA c P n i0 (h0 + 1) m l f := by
  refine ⟨by rw [sumZ_succ hh, bi_0 hp]; have := h.1; omega, TL_congr h.2 (fun i h => ⟨fun z => ⟨z.1, by omega⟩, fun z => ⟨z.1, ?_⟩⟩)⟩
  rcases (by omega : (i < i0 ∨ i = i0 ∧ h < h0) ∨ (i = i0 ∧ h = h0)) with y | ⟨rfl, rfl⟩
  · exact y
  · exact absurd z.1 hp
theorem TA_yes {c n i0 h0 m l f : Int} {P : Int → Int → Prop} (hc : c = 1 ∨ c = 2) (h : TA c P n i0 h0 m l f) (hh : 1 ≤ h0) (hp : P i0 h0) :
    TA c P n i0 (h0 + 1) (m + 1) (if l < c * h0 then c * h0 else l) (if l < c * h0 then i0 else f) := by
  refine ⟨by rw [sumZ_succ hh, bi_1 hp]; have := h.1; omega, TL_congr (TL_add hc h.2 hh (fun i z => by have := z.2; omega)) (fun i h => ⟨?_, fun z => ?_⟩)⟩
  · rintro (z | ⟨rfl, rfl⟩)
    · exact ⟨z.1, by omega⟩
    · exact ⟨hp, by omega⟩
  · rcases (by omega : (i < i0 ∨ i = i0 ∧ h < h0) ∨ (i = i0 ∧ h = h0)) with y | y
    · exact Or.inl ⟨z.1, y⟩
    · exact Or.inr y
theorem TA_row {c n i0 h0 m l f : Int} {P : Int → Int → Prop} (h : TA c P n i0 h0 m l f) (hi : 0 ≤ i0) (h1 : 1 ≤ h0) (h2 : h0 ≤ n + 1) (hp : ∀ x, h0 ≤ x → ¬ P i0 x) (hP : ∀ i h, P i h → 1 ≤ h) : TA c P n (i0 + 1) 1 m l f := by
  refine ⟨?_, TL_congr h.2 (fun i h => ⟨fun z => ⟨z.1, by omega⟩, fun z => ⟨z.1, ?_⟩⟩)⟩
  · rw [sumZ_succ hi, sumZ_nil (a := 1) (b := 1) (by omega)]
    have e : sumZ (fun h => bi (P i0 h)) 1 h0 = rowS P n i0 := sumZ_widen (Int.le_refl _) h2 (fun x g1 g2 g3 => bi_0 (hp x (by omega)))
    rw [← e]
    have := h.1
    omega
  · have := hP i h z.1
    rcases (by omega : i < i0 ∨ (i = i0 ∧ h < h0) ∨ (i = i0 ∧ h0 ≤ h)) with y | y | ⟨rfl, y⟩
    · exact Or.inl y
    · exact Or.inr y
    · exact absurd z.1 (hp _ y)
theorem TA_end {c n m l f : Int} {P : Int → Int → Prop} (h : TA c P n n 1 m l f) (hP : ∀ i h, P i h → i < n) : m = dsum P n ∧ TL c P l f :=
  ⟨by rw [h.1, sumZ_nil (a := 1) (b := 1) (by omega)]; unfold dsum; omega, TL_congr h.2 (fun i h => ⟨fun z => z.1, fun z => ⟨z, Or.inl (hP i h z)⟩⟩)⟩
theorem TA_in {c n i0 h0 m l f : Int} {P : Int → Int → Prop} (h : TA c P n i0 h0 m l f) (hn : 0 ≤ n) (hn2 : n ≤ 120) (hi : i0 ≤ n) (hh : h0 ≤ n + 1) : 0 ≤ m ∧ m ≤ 20000 := by
  have h1 := dsum_in (P := P) hn hn2 hi
  have h2 := sumZ_le (f := fun h => bi (P i0 h)) (c := 1) (a := 1) (b := h0) (by omega) (fun x _ _ => bi_in _)
  have := h.1
  omega
/-- measure by measure: below h0 all places are through, of h0 the places ahead of i0 -/
noncomputable def colS (P : Int → Int → Prop) (n : Int) (h : Int) : Int := sumZ (fun i => bi (P i h)) 0 n
def TB (c : Int) (P : Int → Int → Prop) (n h0 i0 m l f : Int) : Prop := m = sumZ (colS P n) 1 h0 + sumZ (fun i => bi (P i h0)) 0 i0 ∧ TL c (fun i h => P i h ∧ (h < h0 ∨ (h = h0 ∧ i < i0))) l f
theorem TB_0 {c n : Int} {P : Int → Int → Prop} (hP : ∀ i h, P i h → 0 ≤ i ∧ 1 ≤ h) : TB c P n 1 0 0 0 (-2) :=
  ⟨by rw [sumZ_nil (by omega), sumZ_nil (by omega)]; rfl, TL_congr TL_0 (fun i h => ⟨fun z => z.elim, fun z => by have := hP i h z.1; omega⟩)⟩
theorem TB_no {c n i0 h0 m l f : Int} {P : Int → Int → Prop} (h : TB c P n h0 i0 m l f) (hh : 0 ≤ i0) (hp : ¬ P i0 h0) : TB c P n h0 (i0 + 1) m l f := by
  refine ⟨by rw [sumZ_succ hh, bi_0 hp]; have := h.1; omega, TL_congr h.2 (fun i h => ⟨fun z => ⟨z.1, by omega⟩, fun z => ⟨z.1, ?_⟩⟩)⟩
  rcases (by omega : (h < h0 ∨ h = h0 ∧ i < i0) ∨ (h = h0 ∧ i = i0)) with y | ⟨rfl, rfl⟩
  · exact y
  · exact absurd z.1 hp
theorem TB_yes {c n i0 h0 m l f : Int} {P : Int → Int → Prop} (hc : c = 1 ∨ c = 2) (h : TB c P n h0 i0 m l f) (hi : 0 ≤ i0) (hh : 1 ≤ h0) (hp : P i0 h0) :
    TB c P n h0 (i0 + 1) (m + 1) (if l < c * h0 then c * h0 else l) (if l < c * h0 then i0 else f) := by
  refine ⟨by rw [sumZ_succ hi, bi_1 hp]; have := h.1; omega, TL_congr (TL_add hc h.2 hh (fun i z => by have := z.2; omega)) (fun i h => ⟨?_, fun z => ?_⟩)⟩
  · rintro (z | ⟨rfl, rfl⟩)
    · exact ⟨z.1, by omega⟩
    · exact ⟨hp, by omega⟩
  · rcases (by omega : (h < h0 ∨ h = h0 ∧ i < i0) ∨ (h = h0 ∧ i = i0)) with y | y
    · exact Or.inl ⟨z.1, y⟩
    · exact Or.inr ⟨y.2, y.1⟩
/-- rising measures: the longest is the one that is looked at, or a new one -/
theorem TB_new {c n i0 h0 m l f : Int} {P : Int → Int → Prop} (hc : c = 1 ∨ c = 2) (h : TB c P n h0 i0 m l f) (hi : 0 ≤ i0) (hh : 1 ≤ h0) (hp : P i0 h0) :
    TB c P n h0 (i0 + 1) (m + 1) (c * h0) (if c * h0 = l then f else i0) := by
  have h1 := TB_yes hc h hi hh hp
  obtain ⟨-, g1, g2⟩ := h
  have key : l ≤ c * h0 ∧ (c * h0 = l → f < i0 ∨ l = 0) := by
    rcases g2 with ⟨g2, g3⟩ | ⟨x, g2, g3, g4, g5⟩
    · exact ⟨by rcases hc with rfl | rfl <;> omega, fun _ => Or.inr g2⟩
    · exact ⟨by rcases hc with rfl | rfl <;> omega, fun z => by rcases hc with rfl | rfl <;> omega⟩
  have hpos : 1 ≤ c * h0 := by rcases hc with rfl | rfl <;> omega
  by_cases z : c * h0 = l
  · rw [if_pos z]
    rw [if_neg (by omega), if_neg (by omega)] at h1
    rw [z]; exact h1
  · rw [if_neg z]
    rw [if_pos (by omega), if_pos (by omega)] at h1
    exact h1
theorem TB_row {c n i0 h0 m l f : Int} {P : Int → Int → Prop} (h : TB c P n h0 i0 m l f) (hh : 1 ≤ h0) (h1 : 0 ≤ i0) (h2 : i0 ≤ n) (hp : ∀ x, i0 ≤ x → ¬ P x h0) (hP : ∀ i h, P i h → 0 ≤ i) : TB c P n (h0 + 1) 0 m l f := by
  refine ⟨?_, TL_congr h.2 (fun i h => ⟨fun z => ⟨z.1, by omega⟩, fun z => ⟨z.1, ?_⟩⟩)⟩
  · rw [sumZ_succ hh, sumZ_nil (a := 0) (b := 0) (by omega)]
    have e : sumZ (fun i => bi (P i h0)) 0 i0 = colS P n h0 := sumZ_widen (Int.le_refl _) h2 (fun x g1 g2 g3 => bi_0 (hp x (by omega)))
    rw [← e]
    have := h.1
    omega
  · have := hP i h z.1
    rcases (by omega : h < h0 ∨ (h = h0 ∧ i < i0) ∨ (h = h0 ∧ i0 ≤ i)) with y | y | ⟨rfl, y⟩
    · exact Or.inl y
    · exact Or.inr y
    · exact absurd z.1 (hp i y)
theorem TB_end {c n h0 m l f : Int} {P : Int → Int → Prop} (h : TB c P n h0 0 m l f) (h1 : 1 ≤ h0) (h2 : h0 ≤ n + 1) (hP : ∀ i h, P i h → h < h0) : m = dsum P n ∧ TL c P l f := by
  refine ⟨?_, TL_congr h.2 (fun i h => ⟨fun z => z.1, fun z => ⟨z, Or.inl (hP i h z)⟩⟩)⟩
  rw [h.1, sumZ_nil (a := 0) (b := 0) (by omega)]
  have e : sumZ (colS P n) 1 h0 = sumZ (colS P n) 1 (n + 1) := sumZ_widen (Int.le_refl _) h2 (fun x g1 g2 g3 => sumZ_zero (fun i _ _ => bi_0 (fun z => by have := hP i x z; omega)))
  rw [e]
  have e2 : sumZ (colS P n) 1 (n + 1) = dsum P n := (sumZ_swap (f := fun i h => bi (P i h))).symm
  rw [e2]
  omega
theorem TB_in {c n i0 h0 m l f : Int} {P : Int → Int → Prop} (h : TB c P n h0 i0 m l f) (hn : 0 ≤ n) (hn2 : n ≤ 120) (hi : i0 ≤ n) (hh : h0 ≤ n + 1) : 0 ≤ m ∧ m ≤ 20000 := by
  have h1 := sumZ_le (f := colS P n) (c := 120) (a := 1) (b := h0) (by omega) (fun x _ _ => by
    have := sumZ_le (f := fun i => bi (P i x)) (c := 1) (a := 0) (b := n) (by omega) (fun y _ _ => bi_in _)
    unfold colS
    omega)
  have h2 := sumZ_le (f := fun i => bi (P i h0)) (c := 1) (a := 0) (b := i0) (by omega) (fun x _ _ => bi_in _)
  have := h.1
  omega
def RpL : List (Nat × Nat) := TwL ++ TaL 0 ++ [(30, 0)]
/-- a question that uses the twins, the tally, the surplus -/
def RQ (σ σ' : SS) : Prop := Fr RpL σ σ' ∧ TwC σ'
theorem RQ.w {σ σ' : SS} (h : RQ σ σ') : cW σ' = cW σ ∧ σ' 501 0 0 = σ 501 0 0 := by
  have e1 : σ' 20 0 = σ 20 0 := h.1 _ _ (by simp [RpL, TwL, TaL])
  have e2 : σ' 501 0 = σ 501 0 := h.1 _ _ (by simp [RpL, TwL, TaL])
  exact ⟨cW_fr e1 e2, by rw [e2]⟩
theorem RQ.rf {σ : SS} (h : TwC σ) : RQ σ σ := ⟨Fr_refl, h⟩
theorem RQ.tr {σ σ1 σ2 : SS} (h : RQ σ σ1) (h2 : RQ σ1 σ2) : RQ σ σ2 := ⟨Fr_trans h.1 h2.1, h2.2⟩
theorem TQ.R {σ σ' : SS} (h : TQ σ σ') : RQ σ σ' := ⟨Fr_mono h.1 (by intro q hq; simp [RpL, hq]), h.2⟩
theorem TQ.ta {σ σ' : SS} (h : TQ σ σ') : σ' 380 0 0 = σ 380 0 0 ∧ σ' 381 0 0 = σ 381 0 0 ∧ σ' 382 0 0 = σ 382 0 0 :=
  ⟨by rw [h.1 _ _ (by simp [TwL])], by rw [h.1 _ _ (by simp [TwL])], by rw [h.1 _ _ (by simp [TwL])]⟩
/-- the tally's own changes leave word and twins as they are -/
theorem TaQ {σ σ' : SS} (hT : TwC σ) (h : Fr (TaL 0) σ σ') : RQ σ σ' := by
  refine ⟨Fr_mono h (by intro q hq; simp [RpL, hq]), ?_⟩
  have f : ∀ f i, (f, i) ∉ TaL 0 → σ' f i = σ f i := h
  have e1 : σ' 20 0 = σ 20 0 := f _ _ (by simp [TaL])
  have e2 : σ' 501 0 = σ 501 0 := f _ _ (by simp [TaL])
  have e3 : σ' 423 0 = σ 423 0 := f _ _ (by simp [TaL])
  have e4 : σ' 28 0 = σ 28 0 := f _ _ (by simp [TaL])
  have e5 : σ' 29 0 = σ 29 0 := f _ _ (by simp [TaL])
  obtain ⟨h1, h2⟩ := hT
  refine ⟨?_, fun hr => ?_⟩
  · unfold WI at *; rw [e1, e2]; exact Wd_fr h1 e2 e1
  · rw [e3] at hr
    have := h2 hr
    rw [cW_fr e1 e2, e2]
    intro hi g1 g2
    rw [e4, e5]
    exact this hi g1 g2
def gapP (w : Int → Int) (n g i h : Int) : Prop := 0 ≤ i ∧ 1 ≤ h ∧ i + 2 * h + g ≤ n ∧ eqs w i (i + h + g) h
def S_Rp_withGap : GS := fun as σ K => match as with
  | [some (.inr (.inr (4, 0))), some (.inl a1)] => (TwC σ ∧ 0 ≤ a1 ∧ a1 < 120) ∧ ∀ σ', RQ σ σ' → σ' 380 0 0 = dsum (gapP (cW σ) (σ 501 0 0) a1) (σ 501 0 0) → TL 1 (gapP (cW σ) (σ 501 0 0) a1) (σ' 381 0 0) (σ' 382 0 0) → K (vR 7 0) σ'
  | _ => False
abbrev Lp_Rp_withGap_5 (a1 : Int) (σ0 : SS) (n : Nat) (L : List AV) (σ : SS) : Prop := ∃ (v2 : Int), L = [vR 4 0, vI a1, vI v2, none] ∧ n = (((σ0 501 0 0) - v2) * 1000).toNat ∧ ((RQ σ0 σ) ∧ (0 ≤ v2) ∧ (v2 ≤ (σ0 501 0 0)) ∧ (TA 1 (gapP (cW σ0) (σ0 501 0 0) a1) (σ0 501 0 0) v2 1 (σ 380 0 0) (σ 381 0 0) (σ 382 0 0)))
abbrev Lp_Rp_withGap_12 (a1 : Int) (σ0 : SS) (n : Nat) (L : List AV) (σ : SS) : Prop := ∃ (v2 : Int) (v3 : Int), L = [vR 4 0, vI a1, vI v2, vI v3] ∧ n = (((σ0 501 0 0) - v2) * 1000 - v3).toNat ∧ ((RQ σ0 σ) ∧ (0 ≤ v2) ∧ (v2 < (σ0 501 0 0)) ∧ (1 ≤ v3) ∧ (v3 ≤ (σ0 501 0 0)) ∧ (TA 1 (gapP (cW σ0) (σ0 501 0 0) a1) (σ0 501 0 0) v2 v3 (σ 380 0 0) (σ 381 0 0) (σ 382 0 0)))
def Iv_Rp_withGap (a1 : Int) (σ0 : SS) (k : Nat) : Option (List Nat × (Nat → List AV → SS → Prop)) := match k with
  | 5 => some ([3], Lp_Rp_withGap_5 a1 σ0)
  | 12 => some ([], Lp_Rp_withGap_12 a1 σ0)
  | _ => none
def VE_Rp_withGap (a1 : Int) (σ : SS) (K : AV → SS → Prop) : Prop :=
  (S_Ta_clear [vR 7 0] σ (kV fun σ1 =>
    (∃ n', Lp_Rp_withGap_5 a1 σ n' [vR 4 0, vI a1, vI 0, none] σ1)))
def VL_Rp_withGap_5 (a1 : Int) (σ0 : SS) (K : AV → SS → Prop) (v2 : Int) (σ : SS) (n : Nat) : Prop :=
  (S_Wo_size [vR 10 0] σ (kI fun r1 σ1 =>
    ((r1 ≤ v2 →
      (K (vR 7 0) σ1)) ∧
    (v2 < r1 →
      (∃ n', n' < n ∧ Lp_Rp_withGap_12 a1 σ0 n' [vR 4 0, vI a1, vI v2, vI 1] σ1)))))
def VL_Rp_withGap_12 (a1 : Int) (σ0 : SS) (K : AV → SS → Prop) (v2 : Int) (v3 : Int) (σ : SS) (n : Nat) : Prop :=
  (InR (2 * v3) ∧
  (InR (v2 + (2 * v3)) ∧
  (InR ((v2 + (2 * v3)) + a1) ∧
  (S_Wo_size [vR 10 0] σ (kI fun r1 σ1 =>
    ((r1 < ((v2 + (2 * v3)) + a1) →
      (InR (v2 + 1) ∧
      (∃ n', n' < n ∧ Lp_Rp_withGap_5 a1 σ0 n' [vR 4 0, vI a1, vI (v2 + 1), none] σ1))) ∧
    (((v2 + (2 * v3)) + a1) ≤ r1 →
      (InR (v2 + v3) ∧
      (InR ((v2 + v3) + a1) ∧
      (S_Tw_common [vR 8 0, vI v2, vI ((v2 + v3) + a1)] σ1 (kI fun r2 σ2 =>
        ((r2 < v3 →
          (InR (v3 + 1) ∧
          (∃ n', n' < n ∧ Lp_Rp_withGap_12 a1 σ0 n' [vR 4 0, vI a1, vI v2, vI (v3 + 1)] σ2))) ∧
        (v3 ≤ r2 →
          (S_Ta_add [vR 7 0, vI v2, vI v3] σ2 (kV fun σ3 =>
            (InR (v3 + 1) ∧
            (∃ n', n' < n ∧ Lp_Rp_withGap_12 a1 σ0 n' [vR 4 0, vI a1, vI v2, vI (v3 + 1)] σ3)))))))))))))))))
theorem l_Rp_withGap_5 (a1 : Int) (σ0 : SS) (K : AV → SS → Prop) (ha1 : InR a1) (hs0 : okS σ0) (hG : S_Rp_withGap [vR 4 0, vI a1] σ0 K) (v2 : Int) (σ : SS) (hv2 : InR v2) (hs : okS σ) (n : Nat) (hn : n = (((σ0 501 0 0) - v2) * 1000).toNat) (hQ : (RQ σ0 σ) ∧ (0 ≤ v2) ∧ (v2 ≤ (σ0 501 0 0)) ∧ (TA 1 (gapP (cW σ0) (σ0 501 0 0) a1) (σ0 501 0 0) v2 1 (σ 380 0 0) (σ 381 0 0) (σ 382 0 0))) : VL_Rp_withGap_5 a1 σ0 K v2 σ n := by
  unfold VL_Rp_withGap_5
  obtain ⟨⟨hT, h1⟩, hG⟩ := hG
  obtain ⟨q0, q1, q2, q3⟩ := hQ
  have hb := hT.n
  obtain ⟨w1, w2⟩ := q0.w
  intro _ _
  refine ⟨fun h => ?_, fun h => ⟨_, ?_, _, _, rfl, rfl, q0, q1, by omega, by omega, by omega, q3⟩⟩
  · rw [show v2 = (σ0 501 0 0) by omega] at q3
    obtain ⟨z1, z2⟩ := TA_end q3 (fun i h z => by have := z.2; omega)
    exact hG σ q0 z1 z2
  · omega
theorem l_Rp_withGap_12 (a1 : Int) (σ0 : SS) (K : AV → SS → Prop) (ha1 : InR a1) (hs0 : okS σ0) (hG : S_Rp_withGap [vR 4 0, vI a1] σ0 K) (v2 : Int) (v3 : Int) (σ : SS) (hv2 : InR v2) (hv3 : InR v3) (hs : okS σ) (n : Nat) (hn : n = (((σ0 501 0 0) - v2) * 1000 - v3).toNat) (hQ : (RQ σ0 σ) ∧ (0 ≤ v2) ∧ (v2 < (σ0 501 0 0)) ∧ (1 ≤ v3) ∧ (v3 ≤ (σ0 501 0 0)) ∧ (TA 1 (gapP (cW σ0) (σ0 501 0 0) a1) (σ0 501 0 0) v2 v3 (σ 380 0 0) (σ 381 0 0) (σ 382 0 0))) : VL_Rp_withGap_12 a1 σ0 K v2 v3 σ n := by
  unfold VL_Rp_withGap_12
  obtain ⟨⟨hT, h1⟩, hG⟩ := hG
  obtain ⟨q0, q1, q2, q3, q4, q5⟩ := hQ
  have hb := hT.n
  obtain ⟨w1, w2⟩ := q0.w
  have hin := TA_in q5 hb.1 hb.2 (by omega) (by omega)
  refine ⟨by omega, by omega, by omega, ?_⟩
  intro _ _
  refine ⟨fun h => ⟨by omega, _, ?_, _, rfl, rfl, q0, by omega, by omega, TA_row q5 q1 q3 (by omega) (fun x g1 z => by have := z.2.2.1; omega) (fun i h z => z.2.1)⟩, fun h => ⟨by omega, by omega, q0.2, fun σ' hF hT' => ?_⟩⟩
  · omega
  · rw [w1, w2]
    intro _ _
    have hc := common_ge (w := cW σ0) (n := (σ0 501 0 0)) (i := v2) (j := v2 + v3 + a1) (L := v3) (by omega) (by omega) (by omega) (by omega) (by omega)
    have tq : TQ σ σ' := ⟨hF, hT'⟩
    obtain ⟨t1, t2, t3⟩ := tq.ta
    have q0' := q0.tr tq.R
    refine ⟨fun h2 => ⟨by omega, _, ?_, _, _, rfl, rfl, q0', q1, q2, by omega, by omega, ?_⟩, fun h2 => ⟨by omega, fun σ2 hF2 k1 k2 k3 => ?_⟩⟩
    · omega
    · rw [t1, t2, t3]
      exact TA_no q5 q3 (fun z => by have := hc.mpr ⟨by omega, z.2.2.2⟩; omega)
    · intro _
      refine ⟨by omega, _, ?_, _, _, rfl, rfl, q0'.tr (TaQ hT' hF2), q1, q2, by omega, by omega, ?_⟩
      · omega
      · have := TA_yes (Or.inl rfl) q5 q3 (⟨q1, q3, by omega, (hc.mp h2).2⟩ : gapP (cW σ0) (σ0 501 0 0) a1 v2 v3)
        rw [k1, k2, k3, t1, t2, t3]
        rwa [Int.one_mul] at this
theorem e_Rp_withGap (a1 : Int) (σ : SS) (K : AV → SS → Prop) (ha1 : InR a1) (hs : okS σ) (hG : S_Rp_withGap [vR 4 0, vI a1] σ K) : VE_Rp_withGap a1 σ K := by
  unfold VE_Rp_withGap
  obtain ⟨⟨hT, h1⟩, hG⟩ := hG
  intro σ' hF e1 e2 e3 _
  have hb := hT.n
  refine ⟨_, _, rfl, rfl, TaQ hT hF, by omega, by omega, ?_⟩
  rw [e1, e2, e3]
  exact TA_0 (fun i h z => ⟨z.1, z.2.1⟩)
theorem H_Rp_withGap {d : Nat} (hd : 3 ≤ d) : Holds d I_Rp_withGap S_Rp_withGap := by
  refine holds_of (d' := d - 1) (rt := 3) (cal := [(I_Ta_clear, S_Ta_clear), (I_Wo_size, S_Wo_size), (I_Tw_common, S_Tw_common), (I_Ta_add, S_Ta_add)]) (C := C_Rp_withGap) m_Rp_withGap o_Rp_withGap rfl rfl (by omega) ?_ ?_
  · intro x hx
    simp only [List.mem_cons, List.not_mem_nil, or_false] at hx
    rcases hx with rfl | rfl | rfl | rfl
    · exact H_Ta_clear (by omega)
    · exact H_Wo_size (by omega)
    · exact H_Tw_common (by omega)
    · exact H_Ta_add (by omega)
  · intro as σ K has hσ hG
    have hG2 := hG
    unfold S_Rp_withGap at hG2
    split at hG2
    · next a1 =>
      refine ⟨Nat.le_of_ble_eq_true rfl, (Iv_Rp_withGap a1 σ), ?_, 1000, ?_⟩
      · intro k n z L σ' hk hL hs hP
        unfold Iv_Rp_withGap at hk
        split at hk
        · cases hk
          obtain ⟨v2, rfl, hn, hQ⟩ := hP
          exact ⟨1000, l_Rp_withGap_5 a1 σ K (has _ (List.mem_of_getElem? (i := 1) rfl)) hσ hG v2 σ' (hL _ (List.mem_of_getElem? (i := 2) rfl)) hs n hn hQ⟩
        · cases hk
          obtain ⟨v2, v3, rfl, hn, hQ⟩ := hP
          exact ⟨1000, l_Rp_withGap_12 a1 σ K (has _ (List.mem_of_getElem? (i := 1) rfl)) hσ hG v2 v3 σ' (hL _ (List.mem_of_getElem? (i := 2) rfl)) (hL _ (List.mem_of_getElem? (i := 3) rfl)) hs n hn hQ⟩
        · cases hk
      · exact e_Rp_withGap a1 σ K (has _ (List.mem_of_getElem? (i := 1) rfl)) hσ hG
    · exact hG2.elim
def RGap (w : Int → Int) (n g a r : Int) : Prop := gd (0 ≤ g ∧ g < 120) (-1) r (RTal 1 (gapP w n g) n a r)
theorem RGap_u {w : Int → Int} {n g a r r' : Int} (h : RGap w n g a r) (h' : RGap w n g a r') : r = r' := gd_uniq h h' (fun _ => RTal_u (Or.inl rfl) (fun _ _ z => ⟨z.1, z.2.1⟩))
def S_Wr_gapped : GS := fun as σ K => match as with
  | [some (.inr (.inr (11, 0))), some (.inl a1), some (.inl a2)] => TwC σ ∧ ∀ σ' r, RQ σ σ' → RGap (cW σ) (σ 501 0 0) a1 a2 r → K (vI r) σ'
  | _ => False
def VE_Wr_gapped (a1 : Int) (a2 : Int) (σ : SS) (K : AV → SS → Prop) : Prop :=
  ((a1 < 0 →
    (K (vI (-1)) σ)) ∧
  ((0 : Int) ≤ a1 →
    (((120 : Int) ≤ a1 →
      (K (vI (-1)) σ)) ∧
    (a1 < 120 →
      (S_Rp_withGap [vR 4 0, vI a1] σ (kR 7 fun i1 σ1 =>
        (S_Ta_told [vR 7 i1, vI a2] σ1 (kI fun r2 σ2 =>
          (K (vI r2) σ2)))))))))
theorem e_Wr_gapped (a1 : Int) (a2 : Int) (σ : SS) (K : AV → SS → Prop) (ha1 : InR a1) (ha2 : InR a2) (hs : okS σ) (hG : S_Wr_gapped [vR 11 0, vI a1, vI a2] σ K) : VE_Wr_gapped a1 a2 σ K := by
  unfold VE_Wr_gapped
  obtain ⟨hT, hG⟩ := hG
  refine ⟨fun h => hG σ _ (RQ.rf hT) (gd_n (by omega)), fun h => ⟨fun h2 => hG σ _ (RQ.rf hT) (gd_n (by omega)), fun h2 => ⟨⟨hT, h, h2⟩, fun σ' hq e1 e2 => ⟨rfl, ?_⟩⟩⟩⟩
  intro _ _ _ _
  exact hG σ' _ hq (gd_y ⟨h, h2⟩ (RTal_of e1 e2))
theorem H_Wr_gapped {d : Nat} (hd : 4 ≤ d) : Holds d I_Wr_gapped S_Wr_gapped := by
  refine holds_of (d' := d - 1) (rt := 1) (cal := [(I_Rp_withGap, S_Rp_withGap), (I_Ta_told, S_Ta_told)]) (C := C_Wr_gapped) m_Wr_gapped o_Wr_gapped rfl rfl (by omega) ?_ ?_
  · intro x hx
    simp only [List.mem_cons, List.not_mem_nil, or_false] at hx
    rcases hx with rfl | rfl
    · exact H_Rp_withGap (by omega)
    · exact H_Ta_told (by omega)
  · intro as σ K has hσ hG
    have hG2 := hG
    unfold S_Wr_gapped at hG2
    split at hG2
    · next a1 a2 =>
      refine ⟨Nat.le_of_ble_eq_true rfl, (fun _ => none), ?_, 1000, ?_⟩
      · intro k n z L σ' hk hL hs hP
        cases hk
      · exact e_Wr_gapped a1 a2 σ K (has _ (List.mem_of_getElem? (i := 1) rfl)) (has _ (List.mem_of_getElem? (i := 2) rfl)) hσ hG
    · exact hG2.elim
def S_Mo_gapped : GS := fun as σ K => match as with
  | [some (.inr (.inr (12, 0))), some (.inl a1), some (.inl a2)] => MoW σ ∧ ∀ r, RGap (mW σ) (σ 40 0 0) a1 a2 r → K (vI r) σ
  | _ => False
abbrev Lp_Mo_gapped_22 (a1 : Int) (a2 : Int) (σ0 : SS) (n : Nat) (L : List AV) (σ : SS) : Prop := ∃ (v3 : Int) (v4 : Int) (v5 : Int) (v6 : Int), L = [vR 12 0, vI a1, vI a2, vI v3, vI v4, vI v5, vI v6, none] ∧ n = (((σ0 40 0 0) + 1 - v6) * 1000).toNat ∧ ((σ = σ0) ∧ (0 ≤ a1 ∧ a1 ≤ 119) ∧ (0 ≤ a2 ∧ a2 ≤ 2) ∧ (1 ≤ v6) ∧ (v6 ≤ (σ0 40 0 0) + 1) ∧ (TB 1 (gapP (mW σ0) (σ0 40 0 0) a1) (σ0 40 0 0) v6 0 v3 v4 v5))
abbrev Lp_Mo_gapped_32 (a1 : Int) (a2 : Int) (σ0 : SS) (n : Nat) (L : List AV) (σ : SS) : Prop := ∃ (v3 : Int) (v4 : Int) (v5 : Int) (v6 : Int) (v7 : Int), L = [vR 12 0, vI a1, vI a2, vI v3, vI v4, vI v5, vI v6, vI v7] ∧ n = (((σ0 40 0 0) + 1 - v6) * 1000 - v7 - 1).toNat ∧ ((σ = σ0) ∧ (0 ≤ a1 ∧ a1 ≤ 119) ∧ (0 ≤ a2 ∧ a2 ≤ 2) ∧ (1 ≤ v6) ∧ (v6 ≤ (σ0 40 0 0)) ∧ (0 ≤ v7) ∧ (v7 ≤ (σ0 40 0 0)) ∧ (TB 1 (gapP (mW σ0) (σ0 40 0 0) a1) (σ0 40 0 0) v6 v7 v3 v4 v5))
def Iv_Mo_gapped (a1 : Int) (a2 : Int) (σ0 : SS) (k : Nat) : Option (List Nat × (Nat → List AV → SS → Prop)) := match k with
  | 22 => some ([7], Lp_Mo_gapped_22 a1 a2 σ0)
  | 32 => some ([], Lp_Mo_gapped_32 a1 a2 σ0)
  | _ => none
def VE_Mo_gapped (a1 : Int) (a2 : Int) (σ : SS) (K : AV → SS → Prop) : Prop :=
  (S_Mo_in [vL a1, vL 0, vL 119] σ (kI fun r1 σ1 =>
    ((r1 = 0 →
      (K (vI (-1)) σ1)) ∧
    (r1 ≠ 0 →
      (S_Mo_in [vL a2, vL 0, vL 2] σ1 (kI fun r2 σ2 =>
        ((r2 ≠ 0 →
          (∃ n', Lp_Mo_gapped_22 a1 a2 σ n' [vR 12 0, vI a1, vI a2, vI 0, vI 0, vI (-2), vI 1, none] σ2)) ∧
        (r2 = 0 →
          (K (vI (-1)) σ2)))))))))
def VL_Mo_gapped_22 (a1 : Int) (a2 : Int) (σ0 : SS) (K : AV → SS → Prop) (v3 : Int) (v4 : Int) (v5 : Int) (v6 : Int) (σ : SS) (n : Nat) : Prop :=
  (InR (2 * v6) ∧
  (InR ((2 * v6) + a1) ∧
  (S_Mo_size [vR 12 0] σ (kI fun r1 σ1 =>
    ((r1 < ((2 * v6) + a1) →
      ((a2 ≠ 0 →
        ((a2 ≠ 1 →
          (K (vI v5) σ1)) ∧
        (a2 = 1 →
          (K (vI v4) σ1)))) ∧
      (a2 = 0 →
        (K (vI v3) σ1)))) ∧
    (((2 * v6) + a1) ≤ r1 →
      (∃ n', n' < n ∧ Lp_Mo_gapped_32 a1 a2 σ0 n' [vR 12 0, vI a1, vI a2, vI v3, vI v4, vI v5, vI v6, vI 0] σ1)))))))
def VL_Mo_gapped_32 (a1 : Int) (a2 : Int) (σ0 : SS) (K : AV → SS → Prop) (v3 : Int) (v4 : Int) (v5 : Int) (v6 : Int) (v7 : Int) (σ : SS) (n : Nat) : Prop :=
  (InR (2 * v6) ∧
  (InR (v7 + (2 * v6)) ∧
  (InR ((v7 + (2 * v6)) + a1) ∧
  (S_Mo_size [vR 12 0] σ (kI fun r1 σ1 =>
    ((r1 < ((v7 + (2 * v6)) + a1) →
      (InR (v6 + 1) ∧
      (∃ n', n' < n ∧ Lp_Mo_gapped_22 a1 a2 σ0 n' [vR 12 0, vI a1, vI a2, vI v3, vI v4, vI v5, vI (v6 + 1), none] σ1))) ∧
    (((v7 + (2 * v6)) + a1) ≤ r1 →
      (InR (v7 + v6) ∧
      (InR ((v7 + v6) + a1) ∧
      (S_Mo_areAlike [vR 12 0, vI v7, vI ((v7 + v6) + a1), vI v6] σ1 (kI fun r2 σ2 =>
        ((r2 ≠ 0 →
          (InR (v3 + 1) ∧
          ((v6 ≠ v4 →
            (InR (v7 + 1) ∧
            (∃ n', n' < n ∧ Lp_Mo_gapped_32 a1 a2 σ0 n' [vR 12 0, vI a1, vI a2, vI (v3 + 1), vI v6, vI v7, vI v6, vI (v7 + 1)] σ2))) ∧
          (v6 = v4 →
            (InR (v7 + 1) ∧
            (∃ n', n' < n ∧ Lp_Mo_gapped_32 a1 a2 σ0 n' [vR 12 0, vI a1, vI a2, vI (v3 + 1), vI v4, vI v5, vI v6, vI (v7 + 1)] σ2)))))) ∧
        (r2 = 0 →
          (InR (v7 + 1) ∧
          (∃ n', n' < n ∧ Lp_Mo_gapped_32 a1 a2 σ0 n' [vR 12 0, vI a1, vI a2, vI v3, vI v4, vI v5, vI v6, vI (v7 + 1)] σ2)))))))))))))))
theorem l_Mo_gapped_22 (a1 : Int) (a2 : Int) (σ0 : SS) (K : AV → SS → Prop) (ha1 : InR a1) (ha2 : InR a2) (hs0 : okS σ0) (hG : S_Mo_gapped [vR 12 0, vI a1, vI a2] σ0 K) (v3 : Int) (v4 : Int) (v5 : Int) (v6 : Int) (σ : SS) (hv3 : InR v3) (hv4 : InR v4) (hv5 : InR v5) (hv6 : InR v6) (hs : okS σ) (n : Nat) (hn : n = (((σ0 40 0 0) + 1 - v6) * 1000).toNat) (hQ : (σ = σ0) ∧ (0 ≤ a1 ∧ a1 ≤ 119) ∧ (0 ≤ a2 ∧ a2 ≤ 2) ∧ (1 ≤ v6) ∧ (v6 ≤ (σ0 40 0 0) + 1) ∧ (TB 1 (gapP (mW σ0) (σ0 40 0 0) a1) (σ0 40 0 0) v6 0 v3 v4 v5)) : VL_Mo_gapped_22 a1 a2 σ0 K v3 v4 v5 v6 σ n := by
  unfold VL_Mo_gapped_22
  obtain ⟨hM, hG⟩ := hG
  have hb := hM.n
  obtain ⟨rfl, q1, q2, q3, q4, q5⟩ := hQ
  refine ⟨by omega, by omega, ?_⟩
  intro _ _
  refine ⟨fun h => ?_, fun h => ⟨_, ?_, _, _, _, _, _, rfl, rfl, rfl, q1, q2, q3, by omega, by omega, by omega, q5⟩⟩
  · obtain ⟨e1, e2⟩ := TB_end q5 q3 q4 (fun i h z => by have := z.1; have := z.2.2.1; omega)
    exact ⟨fun h1 => ⟨fun h2 => hG _ (gd_y (by omega) (gd_y q2 ⟨_, _, _, e1, e2, toldW_2 (by omega)⟩)), fun h2 => hG _ (gd_y (by omega) (gd_y q2 ⟨_, _, _, e1, e2, toldW_1 h2⟩))⟩, fun h1 => hG _ (gd_y (by omega) (gd_y q2 ⟨_, _, _, e1, e2, toldW_0 h1⟩))⟩
  · omega
theorem l_Mo_gapped_32 (a1 : Int) (a2 : Int) (σ0 : SS) (K : AV → SS → Prop) (ha1 : InR a1) (ha2 : InR a2) (hs0 : okS σ0) (hG : S_Mo_gapped [vR 12 0, vI a1, vI a2] σ0 K) (v3 : Int) (v4 : Int) (v5 : Int) (v6 : Int) (v7 : Int) (σ : SS) (hv3 : InR v3) (hv4 : InR v4) (hv5 : InR v5) (hv6 : InR v6) (hv7 : InR v7) (hs : okS σ) (n : Nat) (hn : n = (((σ0 40 0 0) + 1 - v6) * 1000 - v7 - 1).toNat) (hQ : (σ = σ0) ∧ (0 ≤ a1 ∧ a1 ≤ 119) ∧ (0 ≤ a2 ∧ a2 ≤ 2) ∧ (1 ≤ v6) ∧ (v6 ≤ (σ0 40 0 0)) ∧ (0 ≤ v7) ∧ (v7 ≤ (σ0 40 0 0)) ∧ (TB 1 (gapP (mW σ0) (σ0 40 0 0) a1) (σ0 40 0 0) v6 v7 v3 v4 v5)) : VL_Mo_gapped_32 a1 a2 σ0 K v3 v4 v5 v6 v7 σ n := by
  unfold VL_Mo_gapped_32
  obtain ⟨hM, hG⟩ := hG
  have hb := hM.n
  obtain ⟨rfl, q1, q2, q3, q4, q5, q6, q7⟩ := hQ
  have hin := TB_in q7 hb.1 hb.2 (by omega) (by omega)
  refine ⟨by omega, by omega, by omega, ?_⟩
  intro _ _
  refine ⟨fun h => ⟨by omega, _, ?_, _, _, _, _, rfl, rfl, rfl, q1, q2, by omega, by omega, TB_row q7 q3 q5 q6 (fun x g1 z => by have := z.2.2.1; omega) (fun i h z => z.1)⟩, fun h => ⟨by omega, by omega, by omega, bS_b1 (fun hp _ => ?_) (fun hp _ => ⟨by omega, _, ?_, _, _, _, _, _, rfl, rfl, rfl, q1, q2, q3, q4, by omega, by omega, TB_no q7 q5 (fun z => hp z.2.2.2)⟩)⟩⟩
  · omega
  · have hn2 := TB_new (Or.inl rfl) q7 q5 q3 (⟨q5, q3, by omega, hp⟩ : gapP (mW σ) (σ 40 0 0) a1 v7 v6)
    rw [Int.one_mul] at hn2
    refine ⟨by omega, fun h2 => ⟨by omega, _, ?_, _, _, _, _, _, rfl, rfl, rfl, q1, q2, q3, q4, by omega, by omega, ?_⟩, fun h2 => ⟨by omega, _, ?_, _, _, _, _, _, rfl, rfl, rfl, q1, q2, q3, q4, by omega, by omega, ?_⟩⟩
    · omega
    · rwa [if_neg h2] at hn2
    · omega
    · rw [if_pos h2, h2] at hn2
      rw [h2]; exact hn2
  · omega
theorem e_Mo_gapped (a1 : Int) (a2 : Int) (σ : SS) (K : AV → SS → Prop) (ha1 : InR a1) (ha2 : InR a2) (hs : okS σ) (hG : S_Mo_gapped [vR 12 0, vI a1, vI a2] σ K) : VE_Mo_gapped a1 a2 σ K := by
  unfold VE_Mo_gapped
  obtain ⟨hM, hG⟩ := hG
  have hb := hM.n
  exact bS_b0 (fun hp _ => bS_b1 (fun hp2 _ => ⟨_, _, _, _, _, rfl, rfl, rfl, hp, hp2, by omega, by omega, TB_0 (fun i h z => ⟨z.1, z.2.1⟩)⟩) (fun hp2 _ => hG _ (gd_y (by omega) (gd_n hp2)))) (fun hp _ => hG _ (gd_n (by omega)))
theorem H_Mo_gapped {d : Nat} (hd : 4 ≤ d) : Holds d I_Mo_gapped S_Mo_gapped := by
  refine holds_of (d' := d - 1) (rt := 1) (cal := [(I_Mo_in, S_Mo_in), (I_Mo_size, S_Mo_size), (I_Mo_areAlike, S_Mo_areAlike)]) (C := C_Mo_gapped) m_Mo_gapped o_Mo_gapped rfl rfl (by omega) ?_ ?_
  · intro x hx
    simp only [List.mem_cons, List.not_mem_nil, or_false] at hx
    rcases hx with rfl | rfl | rfl
    · exact H_Mo_in (by omega)
    · exact H_Mo_size (by omega)
    · exact H_Mo_areAlike (by omega)
  · intro as σ K has hσ hG
    have hG2 := hG
    unfold S_Mo_gapped at hG2
    split at hG2
    · next a1 a2 =>
      refine ⟨Nat.le_of_ble_eq_true rfl, (Iv_Mo_gapped a1 a2 σ), ?_, 1000, ?_⟩
      · intro k n z L σ' hk hL hs hP
        unfold Iv_Mo_gapped at hk
        split at hk
        · cases hk
          obtain ⟨v3, v4, v5, v6, rfl, hn, hQ⟩ := hP
          exact ⟨1000, l_Mo_gapped_22 a1 a2 σ K (has _ (List.mem_of_getElem? (i := 1) rfl)) (has _ (List.mem_of_getElem? (i := 2) rfl)) hσ hG v3 v4 v5 v6 σ' (hL _ (List.mem_of_getElem? (i := 3) rfl)) (hL _ (List.mem_of_getElem? (i := 4) rfl)) (hL _ (List.mem_of_getElem? (i := 5) rfl)) (hL _ (List.mem_of_getElem? (i := 6) rfl)) hs n hn hQ⟩
        · cases hk
          obtain ⟨v3, v4, v5, v6, v7, rfl, hn, hQ⟩ := hP
          exact ⟨1000, l_Mo_gapped_32 a1 a2 σ K (has _ (List.mem_of_getElem? (i := 1) rfl)) (has _ (List.mem_of_getElem? (i := 2) rfl)) hσ hG v3 v4 v5 v6 v7 σ' (hL _ (List.mem_of_getElem? (i := 3) rfl)) (hL _ (List.mem_of_getElem? (i := 4) rfl)) (hL _ (List.mem_of_getElem? (i := 5) rfl)) (hL _ (List.mem_of_getElem? (i := 6) rfl)) (hL _ (List.mem_of_getElem? (i := 7) rfl)) hs n hn hQ⟩
        · cases hk
      · exact e_Mo_gapped a1 a2 σ K (has _ (List.mem_of_getElem? (i := 1) rfl)) (has _ (List.mem_of_getElem? (i := 2) rfl)) hσ hG
    · exact hG2.elim
