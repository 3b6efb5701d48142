/-! words as functions: parts alike, the longest common beginning, earlier places; sums and counts over stretches of integers -/
def eqs (w : Int → Int) (i j L : Int) : Prop := ∀ t, 0 ≤ t → t < L → w (i + t) = w (j + t)
theorem eqs_0 {w : Int → Int} {i j L : Int} (h : L ≤ 0) : eqs w i j L := fun t h0 h1 => absurd h1 (by omega)
theorem eqs_mono {w : Int → Int} {i j L M : Int} (h : eqs w i j L) (hM : M ≤ L) : eqs w i j M := fun t h0 h1 => h t h0 (by omega)
theorem eqs_symm {w : Int → Int} {i j L : Int} (h : eqs w i j L) : eqs w j i L := fun t h0 h1 => (h t h0 h1).symm
theorem eqs_refl {w : Int → Int} {i L : Int} : eqs w i i L := fun _ _ _ => rfl
theorem eqs_trans {w : Int → Int} {i j k L : Int} (h : eqs w i j L) (h2 : eqs w j k L) : eqs w i k L := fun t h0 h1 => (h t h0 h1).trans (h2 t h0 h1)
theorem eqs_succ {w : Int → Int} {i j L : Int} (h : eqs w i j L) (h2 : w (i + L) = w (j + L)) : eqs w i j (L + 1) := by
  intro t h0 h1
  by_cases h : t < L
  · exact (by assumption : eqs w i j L) t h0 h
  · rw [show t = L by omega]; exact h2
theorem eqs_cons {w : Int → Int} {i j L : Int} (h0 : w i = w j) (h : eqs w (i + 1) (j + 1) L) : eqs w i j (L + 1) := by
  intro t h1 h2
  by_cases ht : t = 0
  · subst ht; simpa using h0
  · have := h (t - 1) (by omega) (by omega)
    rwa [show i + 1 + (t - 1) = i + t by omega, show j + 1 + (t - 1) = j + t by omega] at this
theorem eqs_tail {w : Int → Int} {i j L d : Int} (h : eqs w i j L) (hd : 0 ≤ d) : eqs w (i + d) (j + d) (L - d) := by
  intro t h0 h1
  have := h (d + t) (by omega) (by omega)
  rwa [show i + (d + t) = i + d + t by omega, show j + (d + t) = j + d + t by omega] at this
theorem eqs_congr {w w' : Int → Int} {i j L n : Int} (hw : ∀ x, 0 ≤ x → x < n → w x = w' x) (hi : 0 ≤ i) (hj : 0 ≤ j) (hi2 : i + L ≤ n) (hj2 : j + L ≤ n) : eqs w i j L ↔ eqs w' i j L := by
  constructor <;> intro h t h0 h1 <;> have := h t h0 h1
  · rwa [hw _ (by omega) (by omega), hw _ (by omega) (by omega)] at this
  · rwa [← hw _ (by omega) (by omega), ← hw _ (by omega) (by omega)] at this
/-- how many letters from i and from j on are alike -/
def lceF (w : Int → Int) : Nat → Int → Int → Int
  | 0, _, _ => 0
  | k + 1, i, j => if w i = w j then lceF w k (i + 1) (j + 1) + 1 else 0
def lce (w : Int → Int) (n i j : Int) : Int := lceF w (n - max i j).toNat i j
theorem lceF_spec (w : Int → Int) : ∀ (k : Nat) (i j : Int), 0 ≤ lceF w k i j ∧ lceF w k i j ≤ k ∧ eqs w i j (lceF w k i j) ∧ (lceF w k i j < k → w (i + lceF w k i j) ≠ w (j + lceF w k i j)) := by
  intro k
  induction k with
  | zero => intro i j; exact ⟨Int.le_refl _, Int.le_refl _, eqs_0 (Int.le_refl _), fun h => absurd h (by simp [lceF])⟩
  | succ k ih =>
    intro i j
    unfold lceF
    by_cases h : w i = w j
    · rw [if_pos h]
      obtain ⟨h1, h2, h3, h4⟩ := ih (i + 1) (j + 1)
      refine ⟨by omega, by omega, eqs_cons h h3, fun hl => ?_⟩
      have := h4 (by omega)
      rwa [show i + 1 + lceF w k (i + 1) (j + 1) = i + (lceF w k (i + 1) (j + 1) + 1) by omega, show j + 1 + lceF w k (i + 1) (j + 1) = j + (lceF w k (i + 1) (j + 1) + 1) by omega] at this
    · rw [if_neg h]
      exact ⟨Int.le_refl _, by omega, eqs_0 (Int.le_refl _), fun _ => by simpa using h⟩
theorem lce_spec (w : Int → Int) {n i j : Int} (hi : i ≤ n) (hj : j ≤ n) : 0 ≤ lce w n i j ∧ i + lce w n i j ≤ n ∧ j + lce w n i j ≤ n ∧ eqs w i j (lce w n i j) ∧ (max i j + lce w n i j < n → w (i + lce w n i j) ≠ w (j + lce w n i j)) := by
  obtain ⟨h1, h2, h3, h4⟩ := lceF_spec w (n - max i j).toNat i j
  unfold lce
  exact ⟨h1, by omega, by omega, h3, fun h => h4 (by omega)⟩
/-- what the length is good for -/
theorem le_lce (w : Int → Int) {n i j L : Int} (hi : i ≤ n) (hj : j ≤ n) (hL : 0 ≤ L) : L ≤ lce w n i j ↔ max i j + L ≤ n ∧ eqs w i j L := by
  obtain ⟨h1, h2, h3, h4, h5⟩ := lce_spec w hi hj
  constructor
  · intro h; exact ⟨by omega, eqs_mono h4 h⟩
  · rintro ⟨ha, hb⟩
    by_cases hc : L ≤ lce w n i j
    · exact hc
    · exact absurd (hb _ h1 (by omega)) (h5 (by omega))
theorem lce_uniq (w : Int → Int) {n i j r : Int} (hi : i ≤ n) (hj : j ≤ n) (h0 : 0 ≤ r) (h1 : max i j + r ≤ n) (h2 : eqs w i j r) (h3 : max i j + r < n → w (i + r) ≠ w (j + r)) : lce w n i j = r := by
  have ha := (le_lce w hi hj h0).mpr ⟨h1, h2⟩
  obtain ⟨g1, g2, g3, g4, g5⟩ := lce_spec w hi hj
  by_cases hc : lce w n i j = r
  · exact hc
  · exact absurd (g4 r h0 (by omega)) (h3 (by omega))
theorem lce_comm (w : Int → Int) {n i j : Int} (hi : i ≤ n) (hj : j ≤ n) : lce w n i j = lce w n j i := by
  obtain ⟨g1, g2, g3, g4, g5⟩ := lce_spec w hj hi
  exact lce_uniq w hi hj g1 (by omega) (eqs_symm g4) (fun h z => g5 (by omega) z.symm)
theorem lce_step (w : Int → Int) {n i j : Int} (hi : i < n) (hj : j < n) : lce w n i j = if w i = w j then lce w n (i + 1) (j + 1) + 1 else 0 := by
  unfold lce
  rw [show (n - max i j).toNat = (n - max (i + 1) (j + 1)).toNat + 1 by omega]
  rfl
theorem lce_end (w : Int → Int) {n i j : Int} (h : n ≤ max i j) : lce w n i j = 0 := by
  unfold lce
  rw [show (n - max i j).toNat = 0 by omega]
  rfl
theorem lceF_congr {w w' : Int → Int} {n : Int} (hw : ∀ x, 0 ≤ x → x < n → w x = w' x) : ∀ (k : Nat) (i j : Int), 0 ≤ i → 0 ≤ j → i + k ≤ n → j + k ≤ n → lceF w k i j = lceF w' k i j := by
  intro k
  induction k with
  | zero => intros; rfl
  | succ k ih =>
    intro i j h1 h2 h3 h4
    unfold lceF
    rw [hw i h1 (by omega), hw j h2 (by omega), ih (i + 1) (j + 1) (by omega) (by omega) (by omega) (by omega)]
theorem lce_congr {w w' : Int → Int} {n i j : Int} (hw : ∀ x, 0 ≤ x → x < n → w x = w' x) (hi : 0 ≤ i) (hj : 0 ≤ j) : lce w n i j = lce w' n i j := by
  unfold lce
  by_cases h : max i j ≤ n
  · exact lceF_congr hw _ _ _ hi hj (by omega) (by omega)
  · rw [show (n - max i j).toNat = 0 by omega]
    rfl
/-- the greatest of f over a stretch, 0 at least -/
def mxN (f : Int → Int) (a : Int) : Nat → Int
  | 0 => 0
  | k + 1 => max (mxN f a k) (f (a + k))
def mxZ (f : Int → Int) (a b : Int) : Int := mxN f a (b - a).toNat
theorem mxZ_nil {f : Int → Int} {a b : Int} (h : b ≤ a) : mxZ f a b = 0 := by
  unfold mxZ
  rw [show (b - a).toNat = 0 by omega]
  rfl
theorem mxZ_succ {f : Int → Int} {a b : Int} (h : a ≤ b) : mxZ f a (b + 1) = max (mxZ f a b) (f b) := by
  unfold mxZ
  rw [show (b + 1 - a).toNat = (b - a).toNat + 1 by omega]
  show max _ (f (a + ((b - a).toNat : Int))) = _
  rw [show a + ((b - a).toNat : Int) = b by omega]
theorem mxN_spec (f : Int → Int) (a : Int) : ∀ k : Nat, 0 ≤ mxN f a k ∧ (∀ x, a ≤ x → x < a + k → f x ≤ mxN f a k) ∧ (mxN f a k = 0 ∨ ∃ x, a ≤ x ∧ x < a + k ∧ f x = mxN f a k) := by
  intro k
  induction k with
  | zero => exact ⟨Int.le_refl _, fun x h1 h2 => absurd h2 (by omega), Or.inl rfl⟩
  | succ k ih =>
    obtain ⟨h1, h2, h3⟩ := ih
    unfold mxN
    refine ⟨by omega, fun x g1 g2 => ?_, ?_⟩
    · by_cases hx : x < a + k
      · have := h2 x g1 hx; omega
      · rw [show x = a + k by omega]; omega
    · by_cases hc : mxN f a k < f (a + k)
      · exact Or.inr ⟨a + k, by omega, by omega, by omega⟩
      · rcases h3 with h3 | ⟨x, g1, g2, g3⟩
        · exact Or.inl (by omega)
        · exact Or.inr ⟨x, g1, by omega, by omega⟩
theorem mxZ_spec (f : Int → Int) (a b : Int) : 0 ≤ mxZ f a b ∧ (∀ x, a ≤ x → x < b → f x ≤ mxZ f a b) ∧ (mxZ f a b = 0 ∨ ∃ x, a ≤ x ∧ x < b ∧ f x = mxZ f a b) := by
  obtain ⟨h1, h2, h3⟩ := mxN_spec f a (b - a).toNat
  unfold mxZ
  refine ⟨h1, fun x g1 g2 => h2 x g1 (by omega), ?_⟩
  rcases h3 with h3 | ⟨x, g1, g2, g3⟩
  · exact Or.inl h3
  · exact Or.inr ⟨x, g1, by omega, g3⟩
theorem mxZ_congr {f g : Int → Int} {a b : Int} (h : ∀ x, a ≤ x → x < b → f x = g x) : mxZ f a b = mxZ g a b := by
  have key : ∀ k : Nat, (∀ x, a ≤ x → x < a + k → f x = g x) → mxN f a k = mxN g a k := by
    intro k
    induction k with
    | zero => intro _; rfl
    | succ k ih =>
      intro hk
      unfold mxN
      rw [ih (fun x h1 h2 => hk x h1 (by omega)), hk (a + k) (by omega) (by omega)]
  exact key _ (fun x h1 h2 => h x h1 (by omega))
/-- the longest part from p on that lies earlier, too -/
def earl (w : Int → Int) (n p : Int) : Int := mxZ (fun o => lce w n o p) 0 p
def isE (w : Int → Int) (p L : Int) : Prop := ∃ o, 0 ≤ o ∧ o < p ∧ eqs w o p L
theorem le_earl (w : Int → Int) {n p L : Int} (hp : p ≤ n) (hL : 1 ≤ L) : L ≤ earl w n p ↔ p + L ≤ n ∧ isE w p L := by
  obtain ⟨h1, h2, h3⟩ := mxZ_spec (fun o => lce w n o p) 0 p
  unfold earl
  constructor
  · intro h
    rcases h3 with h3 | ⟨o, g1, g2, g3⟩
    · omega
    · have g4 : L ≤ lce w n o p := by rw [g3]; exact h
      obtain ⟨g5, g6⟩ := (le_lce w (by omega) hp (by omega)).mp g4
      exact ⟨by omega, o, g1, g2, g6⟩
  · rintro ⟨ha, o, g1, g2, g3⟩
    have g4 := (le_lce w (n := n) (i := o) (j := p) (by omega) hp (by omega)).mpr ⟨by omega, g3⟩
    exact Int.le_trans g4 (h2 o g1 g2)
theorem earl_spec (w : Int → Int) {n p : Int} (hp : p ≤ n) : 0 ≤ earl w n p ∧ p + earl w n p ≤ n := by
  have h0 := (mxZ_spec (fun o => lce w n o p) 0 p).1
  refine ⟨h0, ?_⟩
  by_cases h : 1 ≤ earl w n p
  · exact ((le_earl w hp h).mp (Int.le_refl _)).1
  · have : 0 ≤ earl w n p := h0
    omega
theorem earl_0 (w : Int → Int) (n : Int) : earl w n 0 = 0 := mxZ_nil (Int.le_refl _)
theorem isE_mono {w : Int → Int} {p L M : Int} (h : isE w p L) (hM : M ≤ L) : isE w p M := by
  obtain ⟨o, h1, h2, h3⟩ := h
  exact ⟨o, h1, h2, eqs_mono h3 hM⟩
theorem earl_congr {w w' : Int → Int} {n p : Int} (hw : ∀ x, 0 ≤ x → x < n → w x = w' x) (hp : 0 ≤ p) : earl w n p = earl w' n p :=
  mxZ_congr (fun x h1 _ => lce_congr hw h1 hp)
/-- one, if it is so -/
noncomputable def bi (P : Prop) : Int := @ite Int P (Classical.propDecidable P) 1 0
theorem bi_1 {P : Prop} (h : P) : bi P = 1 := if_pos h
theorem bi_0 {P : Prop} (h : ¬ P) : bi P = 0 := if_neg h
theorem bi_in (P : Prop) : 0 ≤ bi P ∧ bi P ≤ 1 := by
  by_cases h : P
  · rw [bi_1 h]; omega
  · rw [bi_0 h]; omega
theorem bi_congr {P Q : Prop} (h : P ↔ Q) : bi P = bi Q := by rw [propext h]
def sumN (f : Int → Int) (a : Int) : Nat → Int
  | 0 => 0
  | k + 1 => sumN f a k + f (a + k)
def sumZ (f : Int → Int) (a b : Int) : Int := sumN f a (b - a).toNat
theorem sumZ_nil {f : Int → Int} {a b : Int} (h : b ≤ a) : sumZ f a b = 0 := by
  unfold sumZ
  rw [show (b - a).toNat = 0 by omega]
  rfl
theorem sumZ_succ {f : Int → Int} {a b : Int} (h : a ≤ b) : sumZ f a (b + 1) = sumZ f a b + f b := by
  unfold sumZ
  rw [show (b + 1 - a).toNat = (b - a).toNat + 1 by omega]
  show sumN f a _ + f (a + ((b - a).toNat : Int)) = _
  rw [show a + ((b - a).toNat : Int) = b by omega]
theorem sumZ_ind {f : Int → Int} {a : Int} {P : Int → Int → Prop} (h0 : P a 0) (hs : ∀ b s, a ≤ b → P b s → P (b + 1) (s + f b)) {b : Int} (h : a ≤ b) : P b (sumZ f a b) := by
  have key : ∀ k : Nat, P (a + k) (sumZ f a (a + k)) := by
    intro k
    induction k with
    | zero =>
      rw [show a + ((0 : Nat) : Int) = a by omega, sumZ_nil (Int.le_refl _)]
      exact h0
    | succ k ih =>
      have := hs _ _ (by omega) ih
      rw [← sumZ_succ (by omega)] at this
      rwa [show a + ((k + 1 : Nat) : Int) = a + (k : Int) + 1 by omega]
  have := key (b - a).toNat
  rwa [show a + ((b - a).toNat : Int) = b by omega] at this
theorem sumZ_congr {f g : Int → Int} {a b : Int} (h : ∀ x, a ≤ x → x < b → f x = g x) : sumZ f a b = sumZ g a b := by
  have key : ∀ k : Nat, (∀ x, a ≤ x → x < a + k → f x = g x) → sumN f a k = sumN g a k := by
    intro k
    induction k with
    | zero => intro _; rfl
    | succ k ih =>
      intro hk
      unfold sumN
      rw [ih (fun x h1 h2 => hk x h1 (by omega)), hk (a + k) (by omega) (by omega)]
  exact key _ (fun x h1 h2 => h x h1 (by omega))
theorem sumZ_le {f : Int → Int} {c : Int} {a b : Int} (hc : 0 ≤ c) (h : ∀ x, a ≤ x → x < b → 0 ≤ f x ∧ f x ≤ c) : 0 ≤ sumZ f a b ∧ sumZ f a b ≤ c * max 0 (b - a) := by
  have key : ∀ k : Nat, (∀ x, a ≤ x → x < a + k → 0 ≤ f x ∧ f x ≤ c) → 0 ≤ sumN f a k ∧ sumN f a k ≤ c * k := by
    intro k
    induction k with
    | zero => intro _; simp [sumN]
    | succ k ih =>
      intro hk
      obtain ⟨h1, h2⟩ := ih (fun x g1 g2 => hk x g1 (by omega))
      have h3 := hk (a + k) (by omega) (by omega)
      unfold sumN
      have e : c * ((k + 1 : Nat) : Int) = c * k + c := by
        rw [Int.natCast_add, Int.mul_add]; simp
      rw [e]
      omega
  have := key (b - a).toNat (fun x h1 h2 => h x h1 (by omega))
  rwa [show (((b - a).toNat : Nat) : Int) = max 0 (b - a) by omega] at this
theorem sumZ_add {f g : Int → Int} {a b : Int} : sumZ (fun x => f x + g x) a b = sumZ f a b + sumZ g a b := by
  have key : ∀ k : Nat, sumN (fun x => f x + g x) a k = sumN f a k + sumN g a k := by
    intro k
    induction k with
    | zero => rfl
    | succ k ih => unfold sumN; rw [ih]; omega
  exact key _
theorem sumZ_split {f : Int → Int} {a b c : Int} (h1 : a ≤ b) (h2 : b ≤ c) : sumZ f a c = sumZ f a b + sumZ f b c := by
  have key : ∀ k : Nat, sumZ f a (b + k) = sumZ f a b + sumZ f b (b + k) := by
    intro k
    induction k with
    | zero => rw [show b + ((0 : Nat) : Int) = b by omega, sumZ_nil (a := b) (Int.le_refl _)]; omega
    | succ k ih =>
      rw [show b + ((k + 1 : Nat) : Int) = b + (k : Int) + 1 by omega, sumZ_succ (by omega), sumZ_succ (by omega), ih]
      omega
  have := key (c - b).toNat
  rwa [show b + ((c - b).toNat : Int) = c by omega] at this
theorem sumZ_zero {f : Int → Int} {a b : Int} (h : ∀ x, a ≤ x → x < b → f x = 0) : sumZ f a b = 0 := by
  rw [sumZ_congr (g := fun _ => 0) h]
  have key : ∀ k : Nat, sumN (fun _ => 0) a k = 0 := by
    intro k
    induction k with
    | zero => rfl
    | succ k ih => unfold sumN; rw [ih]; rfl
  exact key _
theorem sumZ_swap {f : Int → Int → Int} {a b c d : Int} : sumZ (fun x => sumZ (fun y => f x y) c d) a b = sumZ (fun y => sumZ (fun x => f x y) a b) c d := by
  have key : ∀ k : Nat, sumN (fun x => sumZ (fun y => f x y) c d) a k = sumZ (fun y => sumN (fun x => f x y) a k) c d := by
    intro k
    induction k with
    | zero => exact (sumZ_zero (fun _ _ _ => rfl)).symm
    | succ k ih =>
      show sumN _ a k + _ = _
      rw [ih, ← sumZ_add]
      rfl
  exact key _
/-- only where f isn't 0 does the stretch matter -/
theorem sumZ_widen {f : Int → Int} {a b c d : Int} (h1 : c ≤ a) (h2 : b ≤ d) (h3 : ∀ x, c ≤ x → x < d → ¬ (a ≤ x ∧ x < b) → f x = 0) : sumZ f a b = sumZ f c d := by
  by_cases h : a ≤ b
  · rw [sumZ_split (b := a) h1 (by omega : a ≤ d), sumZ_split (a := a) (b := b) h (by omega : b ≤ d), sumZ_zero (a := c) (b := a) (fun x g1 g2 => h3 x g1 (by omega) (by omega)), sumZ_zero (a := b) (b := d) (fun x g1 g2 => h3 x (by omega) g2 (by omega))]
    omega
  · rw [sumZ_nil (by omega), sumZ_zero (fun x g1 g2 => h3 x g1 g2 (by omega))]
noncomputable def cntZ (P : Int → Prop) (a b : Int) : Int := sumZ (fun x => bi (P x)) a b
theorem cntZ_nil {P : Int → Prop} {a b : Int} (h : b ≤ a) : cntZ P a b = 0 := sumZ_nil h
theorem cntZ_succ {P : Int → Prop} {a b : Int} (h : a ≤ b) : cntZ P a (b + 1) = cntZ P a b + bi (P b) := sumZ_succ h
theorem cntZ_yes {P : Int → Prop} {a b : Int} (h : a ≤ b) (hp : P b) : cntZ P a (b + 1) = cntZ P a b + 1 := by rw [cntZ_succ h, bi_1 hp]
theorem cntZ_no {P : Int → Prop} {a b : Int} (h : a ≤ b) (hp : ¬ P b) : cntZ P a (b + 1) = cntZ P a b := by rw [cntZ_succ h, bi_0 hp]; omega
theorem cntZ_in {P : Int → Prop} {a b : Int} : 0 ≤ cntZ P a b ∧ cntZ P a b ≤ max 0 (b - a) := by
  have := sumZ_le (f := fun x => bi (P x)) (c := 1) (a := a) (b := b) (by omega) (fun x _ _ => bi_in _)
  unfold cntZ
  omega
theorem cntZ_congr {P Q : Int → Prop} {a b : Int} (h : ∀ x, a ≤ x → x < b → (P x ↔ Q x)) : cntZ P a b = cntZ Q a b := sumZ_congr (fun x h1 h2 => bi_congr (h x h1 h2))
theorem cntZ_mono {P : Int → Prop} {a b c : Int} (h : b ≤ c) : cntZ P a b ≤ cntZ P a c := by
  by_cases hab : a ≤ b
  · have := sumZ_split (f := fun x => bi (P x)) hab h
    have h2 := (cntZ_in (P := P) (a := b) (b := c)).1
    unfold cntZ at *
    omega
  · rw [cntZ_nil (by omega)]
    exact cntZ_in.1
/-- the k-th x of a stretch of which P holds, rising; k -1: how many; -2: there are not so many -/
def kthIs (P : Int → Prop) (a b k r : Int) : Prop := (k = -1 ∧ r = cntZ P a b) ∨ (0 ≤ k ∧ a ≤ r ∧ r < b ∧ P r ∧ cntZ P a r = k) ∨ (0 ≤ k ∧ r = -2 ∧ cntZ P a b ≤ k)
theorem kthIs_uniq {P : Int → Prop} {a b k r r' : Int} (h : kthIs P a b k r) (h' : kthIs P a b k r') : r = r' := by
  have lt : ∀ x y : Int, a ≤ x → x < y → P x → cntZ P a x < cntZ P a y := by
    intro x y h1 h2 h3
    have := cntZ_mono (P := P) (a := a) (show x + 1 ≤ y by omega)
    rw [cntZ_yes h1 h3] at this
    omega
  rcases h with ⟨h1, h2⟩ | ⟨h1, h2, h3, h4, h5⟩ | ⟨h1, h2, h3⟩ <;> rcases h' with ⟨g1, g2⟩ | ⟨g1, g2, g3, g4, g5⟩ | ⟨g1, g2, g3⟩ <;> try omega
  · by_cases hc : r = r'
    · exact hc
    · rcases (by omega : r < r' ∨ r' < r) with q | q
      · have := lt r r' h2 q h4; omega
      · have := lt r' r g2 q g4; omega
  · have := lt r b h2 h3 h4; omega
  · have := lt r' b g2 g3 g4; omega
theorem kthIs_congr {P Q : Int → Prop} {a b k r : Int} (h : ∀ x, a ≤ x → x < b → (P x ↔ Q x)) (hk : kthIs P a b k r) : kthIs Q a b k r := by
  rcases hk with ⟨h1, h2⟩ | ⟨h1, h2, h3, h4, h5⟩ | ⟨h1, h2, h3⟩
  · exact Or.inl ⟨h1, by rw [h2, cntZ_congr h]⟩
  · exact Or.inr (Or.inl ⟨h1, h2, h3, (h r h2 h3).mp h4, by rw [← h5, cntZ_congr (fun x g1 g2 => h x g1 (by omega))]⟩)
  · exact Or.inr (Or.inr ⟨h1, h2, by rw [← cntZ_congr h]; exact h3⟩)
