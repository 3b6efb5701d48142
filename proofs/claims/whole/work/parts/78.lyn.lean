/-! Lyndon words: less than their rotations, less than their ends; Duval's walk -/
def vU (w : Int → Int) (up : Int) : Int → Int := fun x => if up = 0 then -(w x) else w x
def lynS (v : Int → Int) (i j : Int) : Prop := i < j ∧ ∀ k, i < k → k < j → ∃ t, 0 ≤ t ∧ k + t < j ∧ (∀ s, 0 ≤ s → s < t → v (i + s) = v (k + s)) ∧ v (i + t) < v (k + t)
def lynR (v : Int → Int) (i j : Int) : Prop := i < j ∧ ∀ r, 1 ≤ r → r < j - i → rotLt v i (j - i) 0 r
theorem rl_0 {v : Int → Int} {i m x : Int} (h : x < m) : rlet v i m 0 x = v (i + x) := by
  unfold rlet
  rw [if_pos (by omega), Int.zero_add]
theorem rl_a {v : Int → Int} {i m r x : Int} (h : r + x < m) : rlet v i m r x = v (i + r + x) := by
  unfold rlet
  rw [if_pos h, show i + (r + x) = i + r + x by omega]
theorem rl_b {v : Int → Int} {i m r x : Int} (h : m ≤ r + x) : rlet v i m r x = v (i + (r + x - m)) := by
  unfold rlet
  rw [if_neg (by omega)]
theorem lyn_SR {v : Int → Int} {i j : Int} : lynR v i j ↔ lynS v i j := by
  constructor
  · rintro ⟨hij, h⟩
    refine ⟨hij, fun k k0 k1 => ?_⟩
    obtain ⟨x, x0, x1, x2, x3⟩ := h (k - i) (by omega) (by omega)
    rcases (by omega : k - i + x < j - i ∨ j - i ≤ k - i + x) with c | c
    · refine ⟨x, x0, by omega, fun s s0 s1 => ?_, ?_⟩
      · have := x2 s s0 s1
        rwa [rl_0 (by omega), rl_a (by omega), show i + (k - i) + s = k + s by omega] at this
      · rwa [rl_0 x1, rl_a c, show i + (k - i) + x = k + x by omega] at x3
    · exfalso
      -- a border: then both rotations by its two lengths cannot be greater
      have hY : ∀ z, 0 ≤ z → z < x - (j - k) → v (i + (j - k) + z) = v (i + z) := fun z z0 z1 => by
        have := x2 (j - k + z) (by omega) (by omega)
        rwa [rl_0 (by omega), rl_b (by omega), show i + (j - k + z) = i + (j - k) + z by omega, show i + (k - i + (j - k + z) - (j - i)) = i + z by omega] at this
      have hY2 : v (i + (j - k) + (x - (j - k))) < v (i + (x - (j - k))) := by
        rwa [rl_0 x1, rl_b c, show i + x = i + (j - k) + (x - (j - k)) by omega, show i + (k - i + x - (j - i)) = i + (x - (j - k)) by omega] at x3
      obtain ⟨y, y0, y1, y2, y3⟩ := h (j - k) (by omega) (by omega)
      rcases (by omega : y < x - (j - k) ∨ y = x - (j - k) ∨ x - (j - k) < y) with g | g | g
      · rw [rl_0 y1, rl_a (by omega)] at y3
        have := hY y y0 g
        omega
      · rw [rl_0 y1, rl_a (by omega), g] at y3
        omega
      · have := y2 (x - (j - k)) (by omega) g
        rw [rl_0 (by omega), rl_a (by omega)] at this
        omega
  · rintro ⟨hij, h⟩
    refine ⟨hij, fun r r0 r1 => ?_⟩
    obtain ⟨t, t0, t1, t2, t3⟩ := h (i + r) (by omega) (by omega)
    refine ⟨t, t0, by omega, fun y g0 g1 => ?_, ?_⟩
    · rw [rl_0 (by omega), rl_a (by omega)]; exact t2 y g0 g1
    · rw [rl_0 (by omega), rl_a (by omega)]; exact t3
/-- letters p apart alike -/
def per (v : Int → Int) (b x p : Int) : Prop := ∀ y, b ≤ y → y + p < x → v y = v (y + p)
theorem per_mul {v : Int → Int} {b x p : Int} (h : per v b x p) (hp : 0 ≤ p) : ∀ (q : Nat) (y : Int), b ≤ y → y + q * p < x → v (y + q * p) = v y := by
  intro q
  induction q with
  | zero => intro y _ _; simp
  | succ q ih =>
    intro y y0 y1
    have e : y + ((q + 1 : Nat) : Int) * p = y + (q : Int) * p + p := by
      rw [Int.natCast_add, Int.add_mul]; omega
    have hq : 0 ≤ (q : Int) * p := Int.mul_nonneg (by omega) hp
    rw [e] at y1 ⊢
    rw [← h (y + q * p) (by omega) y1]
    exact ih y y0 (by omega)
theorem lyn_1 {v : Int → Int} {b : Int} : lynS v b (b + 1) := ⟨by omega, fun k k0 k1 => by omega⟩
theorem lyn_ext {v : Int → Int} {b p x : Int} (hL : lynS v b (b + p)) (h0 : 1 ≤ p) (hx : b + p ≤ x) (hp : per v b x p) (hg : v (x - p) < v x) : lynS v b (x + 1) := by
  refine ⟨by omega, fun k k0 k1 => ?_⟩
  have hq : ∃ (q : Nat) (d : Int), 0 ≤ d ∧ d < p ∧ k = b + d + q * p := by
    have a := Int.emod_nonneg (k - b) (b := p) (by omega)
    have c := Int.emod_lt_of_pos (k - b) (b := p) (by omega)
    have e := Int.emod_add_mul_ediv (k - b) p
    have g : 0 ≤ (k - b) / p := Int.ediv_nonneg (by omega) (by omega)
    refine ⟨((k - b) / p).toNat, (k - b) % p, a, c, ?_⟩
    rw [Int.toNat_of_nonneg g, Int.mul_comm]
    omega
  obtain ⟨q, d, d0, d1, rfl⟩ := hq
  have hqp : 0 ≤ (q : Int) * p := Int.mul_nonneg (by omega) (by omega)
  -- inside the run a place stands for the one of the first period
  have red : ∀ s, 0 ≤ s → b + d + q * p + s < x → v (b + d + q * p + s) = v (b + d + s) := fun s s0 s1 => by
    have := per_mul hp (by omega) q (b + d + s) (by omega) (by omega)
    rwa [show b + d + s + (q : Int) * p = b + d + q * p + s by omega] at this
  have last : ∀ t, 0 ≤ t → b + d + q * p + t = x → d + t < p ∨ 1 ≤ q → v (b + d + t) = v (x - p) ∨ q = 0 := fun t t0 t1 _ => by
    rcases (by omega : q = 0 ∨ 1 ≤ q) with z | z
    · exact Or.inr z
    · have e : (q : Int) * p = ((q - 1 : Nat) : Int) * p + p := by
        rw [show (q : Int) = ((q - 1 : Nat) : Int) + 1 by omega, Int.add_mul]; omega
      have := per_mul hp (by omega) (q - 1) (b + d + t) (by omega) (by omega)
      rw [show b + d + t + ((q - 1 : Nat) : Int) * p = x - p by omega] at this
      exact Or.inl this.symm
  rcases (by omega : d = 0 ∨ 1 ≤ d) with z | z
  · -- a whole number of periods behind b
    have hq1 : 1 ≤ q := by
      rcases (by omega : q = 0 ∨ 1 ≤ q) with y | y
      · subst y; simp at k0; omega
      · exact y
    refine ⟨x - (b + d + q * p), by omega, by omega, fun s s0 s1 => ?_, ?_⟩
    · rw [red s s0 (by omega), z, Int.add_zero]
    · rcases last (x - (b + d + q * p)) (by omega) (by omega) (Or.inr hq1) with y | y
      · rw [z, Int.add_zero] at y
        rw [z, Int.add_zero, y, show b + q * p + (x - (b + q * p)) = x by omega]
        exact hg
      · omega
  · obtain ⟨t, t0, t1, t2, t3⟩ := hL.2 (b + d) (by omega) (by omega)
    rcases (by omega : b + d + q * p + t < x ∨ x ≤ b + d + q * p + t) with y | y
    · refine ⟨t, t0, by omega, fun s s0 s1 => ?_, ?_⟩
      · rw [red s s0 (by omega)]; exact t2 s s0 s1
      · rw [red t t0 y]; exact t3
    · have hk : b + d + q * p ≤ x := by omega
      refine ⟨x - (b + d + q * p), by omega, by omega, fun s s0 s1 => ?_, ?_⟩
      · rw [red s s0 (by omega)]; exact t2 s s0 (by omega)
      · have hle : v (b + (x - (b + d + q * p))) ≤ v (b + d + (x - (b + d + q * p))) := by
          rcases (by omega : x - (b + d + q * p) < t ∨ x - (b + d + q * p) = t) with g | g
          · rw [t2 _ (by omega) g]; exact Int.le_refl _
          · rw [g]; exact Int.le_of_lt t3
        rcases last (x - (b + d + q * p)) (by omega) (by omega) (Or.inl (by omega)) with g | g
        · rw [show b + d + q * p + (x - (b + d + q * p)) = x by omega]
          omega
        · subst g
          simp at t1 y hk hx
          omega
theorem lyn_per {v : Int → Int} {b l p : Int} (h0 : 1 ≤ p) (h1 : p < l) (hp : per v b (b + l) p) : ¬ lynS v b (b + l) := fun h => by
  obtain ⟨t, t0, t1, t2, t3⟩ := h.2 (b + p) (by omega) (by omega)
  have := hp (b + t) (by omega) (by omega)
  rw [show b + t + p = b + p + t by omega] at this
  omega
theorem lyn_drop {v : Int → Int} {b x l p : Int} (h0 : 1 ≤ p) (hx : b + p ≤ x) (hp : per v b x p) (hd : v x < v (x - p)) (hl : x < b + l) : ¬ lynS v b (b + l) := fun h => by
  obtain ⟨t, t0, t1, t2, t3⟩ := h.2 (b + p) (by omega) (by omega)
  rcases (by omega : t < x - p - b ∨ t = x - p - b ∨ x - p - b < t) with g | g | g
  · have := hp (b + t) (by omega) (by omega)
    rw [show b + t + p = b + p + t by omega] at this
    omega
  · rw [g, show b + (x - p - b) = x - p by omega, show b + p + (x - p - b) = x by omega] at t3
    omega
  · have := t2 (x - p - b) (by omega) g
    rw [show b + (x - p - b) = x - p by omega, show b + p + (x - p - b) = x by omega] at this
    omega
/-- the longest from b on within n -/
def lgL (v : Int → Int) (n b p : Int) : Prop := 1 ≤ p ∧ b + p ≤ n ∧ lynS v b (b + p) ∧ ∀ l, p < l → b + l ≤ n → ¬ lynS v b (b + l)
theorem lgL_u {v : Int → Int} {n b p p' : Int} (h : lgL v n b p) (h' : lgL v n b p') : p = p' := by
  obtain ⟨a1, a2, a3, a4⟩ := h
  obtain ⟨b1, b2, b3, b4⟩ := h'
  rcases (by omega : p < p' ∨ p = p' ∨ p' < p) with z | z | z
  · exact absurd b3 (a4 p' z b2)
  · exact z
  · exact absurd a3 (b4 p z a2)
theorem lgL_of {v : Int → Int} {n b x p : Int} (hL : lynS v b (b + p)) (h0 : 1 ≤ p) (hx : b + p ≤ x) (hn : x ≤ n) (hp : per v b x p) (he : x = n ∨ v x < v (x - p)) : lgL v n b p := by
  refine ⟨h0, by omega, hL, fun l l0 l1 => ?_⟩
  rcases (by omega : b + l ≤ x ∨ x < b + l) with z | z
  · exact lyn_per h0 l0 (fun y y0 y1 => hp y y0 (by omega))
  · rcases he with he | he
    · omega
    · exact lyn_drop h0 hx hp he z
noncomputable def lgF (v : Int → Int) (n b : Int) : Int := @dite Int (∃ p, lgL v n b p) (Classical.propDecidable _) (fun h => Classical.choose h) (fun _ => 1)
theorem lgF_eq {v : Int → Int} {n b p : Int} (h : lgL v n b p) : lgF v n b = p := by
  have hx : ∃ p, lgL v n b p := ⟨p, h⟩
  unfold lgF
  rw [dif_pos hx]
  exact lgL_u (Classical.choose_spec hx) h
/-- where the k-th factor begins -/
noncomputable def lyF (v : Int → Int) (n : Int) : Nat → Int
  | 0 => 0
  | k + 1 => lyF v n k + lgF v n (lyF v n k)
theorem lgF_pos {v : Int → Int} {n b : Int} : 1 ≤ lgF v n b := by
  by_cases h : ∃ p, lgL v n b p
  · obtain ⟨p, hp⟩ := h
    rw [lgF_eq hp]
    exact hp.1
  · unfold lgF
    rw [dif_neg h]
    exact Int.le_refl _
theorem lyF_le {v : Int → Int} {n : Int} : ∀ k : Nat, (k : Int) ≤ lyF v n k := by
  intro k
  induction k with
  | zero => exact Int.le_refl _
  | succ k ih =>
    have := lgF_pos (v := v) (n := n) (b := lyF v n k)
    show ((k + 1 : Nat) : Int) ≤ lyF v n k + lgF v n (lyF v n k)
    omega
theorem lyF_mono {v : Int → Int} {n : Int} {j : Nat} : ∀ k : Nat, j ≤ k → lyF v n j ≤ lyF v n k := by
  intro k
  induction k with
  | zero => intro h; rw [show j = 0 by omega]; exact Int.le_refl _
  | succ k ih =>
    intro h
    have := lgF_pos (v := v) (n := n) (b := lyF v n k)
    have e : lyF v n (k + 1) = lyF v n k + lgF v n (lyF v n k) := rfl
    rcases (by omega : j = k + 1 ∨ j ≤ k) with z | z
    · rw [z]; exact Int.le_refl _
    · have := ih z
      omega
def RLyn (w : Int → Int) (n up k r : Int) : Prop := (k < -1 ∧ r = -1) ∨ (k = -1 ∧ ∃ m : Nat, r = (m : Int) ∧ n ≤ lyF (vU w up) n m ∧ ∀ j : Nat, j < m → lyF (vU w up) n j < n) ∨ (0 ≤ k ∧ lyF (vU w up) n k.toNat < n ∧ r = lyF (vU w up) n k.toNat) ∨ (0 ≤ k ∧ n ≤ lyF (vU w up) n k.toNat ∧ r = -2)
theorem RLyn_u {w : Int → Int} {n up k r r' : Int} (h : RLyn w n up k r) (h' : RLyn w n up k r') : r = r' := by
  rcases h with ⟨h1, h2⟩ | ⟨h1, m, h2, h3, h4⟩ | ⟨h1, h2, h3⟩ | ⟨h1, h2, h3⟩ <;> rcases h' with ⟨g1, g2⟩ | ⟨g1, m', g2, g3, g4⟩ | ⟨g1, g2, g3⟩ | ⟨g1, g2, g3⟩ <;> try omega
  rcases (by omega : m < m' ∨ m = m' ∨ m' < m) with z | z | z
  · have := g4 m z; omega
  · omega
  · have := h4 m' z; omega
def RLon (w : Int → Int) (n up p r : Int) : Prop := gd (0 ≤ p ∧ p < n) (-1) r (lgL (vU w up) n p r)
theorem RLon_u {w : Int → Int} {n up p r r' : Int} (h : RLon w n up p r) (h' : RLon w n up p r') : r = r' := gd_uniq h h' (fun _ => lgL_u)
theorem rotC_pos {w : Int → Int} {i m r up res : Int} (h : isRotC w i m r 0 up res) : 0 < res ↔ rotLt (vU w up) i m 0 r := by
  have e : ∀ o x, rlet (vU w up) i m o x = if up = 0 then -(rlet w i m o x) else rlet w i m o x := fun o x => rfl
  constructor
  · intro hp
    rcases h with ⟨h, _⟩ | ⟨x, x0, x1, x2, x3, x4⟩
    · omega
    · refine ⟨x, x0, x1, fun y y0 y1 => by rw [e, e, x2 y y0 y1], ?_⟩
      rw [e, e]
      unfold ordI at x4
      split at x4 <;> (split at x4 <;> (try split at x4)) <;> (try split) <;> omega
  · rintro ⟨x, x0, x1, x2, x3⟩
    have x2' : ∀ y, 0 ≤ y → y < x → rlet w i m r y = rlet w i m 0 y := fun y y0 y1 => by
      have := x2 y y0 y1
      rw [e, e] at this
      split at this <;> omega
    rw [e, e] at x3
    rcases h with ⟨_, h⟩ | ⟨y, y0, y1, y2, y3, y4⟩
    · have := h x x0 x1
      split at x3 <;> omega
    · rcases (by omega : y < x ∨ y = x ∨ x < y) with z | z | z
      · exact absurd (x2' y y0 z) y3
      · subst z
        unfold ordI at y4
        split at y4 <;> (split at y4 <;> (try split at y4)) <;> (try split at x3) <;> omega
      · have := y2 x x0 z
        split at x3 <;> omega
