/-! palindromes by their middles -/
def radF (w : Int → Int) : Nat → Int → Int → Int
  | 0, _, _ => 0
  | k + 1, lo, hi => if w lo = w hi then radF w k (lo - 1) (hi + 1) + 1 else 0
theorem radF_spec (w : Int → Int) : ∀ (k : Nat) (lo hi : Int), 0 ≤ radF w k lo hi ∧ radF w k lo hi ≤ k ∧ (∀ t, 0 ≤ t → t < radF w k lo hi → w (lo - t) = w (hi + t)) ∧ (radF w k lo hi < k → w (lo - radF w k lo hi) ≠ w (hi + radF w k lo hi)) := by
  intro k
  induction k with
  | zero => intro lo hi; exact ⟨Int.le_refl _, Int.le_refl _, fun t h0 h1 => absurd h1 (by simp [radF]; omega), fun h => absurd h (by simp [radF])⟩
  | succ k ih =>
    intro lo hi
    unfold radF
    by_cases h : w lo = w hi
    · rw [if_pos h]
      obtain ⟨h1, h2, h3, h4⟩ := ih (lo - 1) (hi + 1)
      refine ⟨by omega, by omega, fun t t0 t1 => ?_, fun hl => ?_⟩
      · by_cases ht : t = 0
        · subst ht; simpa using h
        · have := h3 (t - 1) (by omega) (by omega)
          rwa [show lo - 1 - (t - 1) = lo - t by omega, show hi + 1 + (t - 1) = hi + t by omega] at this
      · have := h4 (by omega)
        rwa [show lo - 1 - radF w k (lo - 1) (hi + 1) = lo - (radF w k (lo - 1) (hi + 1) + 1) by omega, show hi + 1 + radF w k (lo - 1) (hi + 1) = hi + (radF w k (lo - 1) (hi + 1) + 1) by omega] at this
    · rw [if_neg h]
      exact ⟨Int.le_refl _, by omega, fun t t0 t1 => by omega, fun _ => by simpa using h⟩
def rad (w : Int → Int) (n lo hi : Int) : Int := radF w (min (lo + 1) (n - hi)).toNat lo hi
def spn (w : Int → Int) (n m : Int) : Int := if 0 ≤ m ∧ m < 2 * n - 1 then (m + 1) / 2 - m / 2 - 1 + 2 * rad w n (m / 2) ((m + 1) / 2) else 0
def pal (w : Int → Int) (i j : Int) : Prop := ∀ k, 0 ≤ k → 2 * k < j - i → w (i + k) = w (j - 1 - k)
theorem pal_1 {w : Int → Int} {i j : Int} (h : j - i ≤ 1) : pal w i j := fun k k0 k1 => by
  rw [show i + k = j - 1 - k by omega]
theorem spn_spec (w : Int → Int) {n m : Int} (h0 : 0 ≤ m) (h1 : m < 2 * n - 1) : 0 ≤ spn w n m ∧ (m + 1 - spn w n m) % 2 = 0 ∧ 0 ≤ m + 1 - spn w n m ∧ m + 1 + spn w n m ≤ 2 * n ∧ ∀ l, 0 ≤ l → (m + 1 - l) % 2 = 0 → 0 ≤ m + 1 - l → m + 1 + l ≤ 2 * n → (pal w ((m + 1 - l) / 2) ((m + 1 + l) / 2) ↔ l ≤ spn w n m) := by
  obtain ⟨r1, r2, r3, r4⟩ := radF_spec w (min (m / 2 + 1) (n - (m + 1) / 2)).toNat (m / 2) ((m + 1) / 2)
  have e : spn w n m = (m + 1) / 2 - m / 2 - 1 + 2 * rad w n (m / 2) ((m + 1) / 2) := if_pos ⟨h0, h1⟩
  have er : radF w (min (m / 2 + 1) (n - (m + 1) / 2)).toNat (m / 2) ((m + 1) / 2) = rad w n (m / 2) ((m + 1) / 2) := rfl
  rw [er] at r1 r2 r3 r4
  rw [e]
  have hp : 1 ≤ rad w n (m / 2) ((m + 1) / 2) ∨ m % 2 = 1 := by
    rcases (by omega : m % 2 = 1 ∨ m % 2 = 0) with z | z
    · exact Or.inr z
    · refine Or.inl (Classical.byContradiction (fun y => ?_))
      refine r4 (by omega) ?_
      rw [show rad w n (m / 2) ((m + 1) / 2) = 0 by omega, show (m + 1) / 2 = m / 2 by omega, Int.sub_zero, Int.add_zero]
  generalize rad w n (m / 2) ((m + 1) / 2) = r at *
  refine ⟨by omega, by omega, by omega, by omega, fun l l0 l1 l2 l3 => ?_⟩
  have hq : ∃ q, 0 ≤ q ∧ l = (m + 1) / 2 - m / 2 - 1 + 2 * q ∧ (m + 1 - l) / 2 = m / 2 + 1 - q ∧ (m + 1 + l) / 2 = (m + 1) / 2 + q := ⟨(l + 1 - ((m + 1) / 2 - m / 2)) / 2, by omega, by omega, by omega, by omega⟩
  obtain ⟨q, q0, q1, q2, q3⟩ := hq
  rw [q2, q3]
  constructor
  · intro hpal
    refine Classical.byContradiction (fun y => ?_)
    refine r4 (by omega) ?_
    have := hpal (q - 1 - r) (by omega) (by omega)
    rwa [show m / 2 + 1 - q + (q - 1 - r) = m / 2 - r by omega, show (m + 1) / 2 + q - 1 - (q - 1 - r) = (m + 1) / 2 + r by omega] at this
  · intro hl k k0 k1
    have := r3 (q - 1 - k) (by omega) (by omega)
    rwa [show m / 2 + 1 - q + k = m / 2 - (q - 1 - k) by omega, show (m + 1) / 2 + q - 1 - k = (m + 1) / 2 + (q - 1 - k) by omega]
theorem spn_pal (w : Int → Int) {n i j : Int} (h0 : 0 ≤ i) (h1 : i < j) (h2 : j ≤ n) : j - i ≤ spn w n (i + j - 1) ↔ pal w i j := by
  have := (spn_spec w (n := n) (m := i + j - 1) (by omega) (by omega)).2.2.2.2 (j - i) (by omega) (by omega) (by omega) (by omega)
  rw [show (i + j - 1 + 1 - (j - i)) / 2 = i by omega, show (i + j - 1 + 1 + (j - i)) / 2 = j by omega] at this
  exact this.symm
def mirP (w : Int → Int) (n i h : Int) : Prop := 0 ≤ i ∧ 1 ≤ h ∧ i + h ≤ n ∧ pal w i (i + h)
def mirU (w : Int → Int) (n i h : Int) : Prop := mirP w n i h ∧ ¬ isE w i h
noncomputable def midR (P : Int → Int → Prop) (n m : Int) : Int := sumZ (fun h => iT ((m + 1 - h) % 2 = 0) (bi (P ((m + 1 - h) / 2) h))) 1 (n + 1)
theorem sumZ_par {F : Int → Int} {h : Int} : ∀ k : Nat, sumZ (fun m => iT ((m + 1 - h) % 2 = 0) (F ((m + 1 - h) / 2))) (h - 1) (h - 1 + 2 * k) = sumZ F 0 k := by
  intro k
  induction k with
  | zero => rw [sumZ_nil (by omega), sumZ_nil (by omega)]
  | succ k ih =>
    rw [show h - 1 + 2 * ((k + 1 : Nat) : Int) = h - 1 + 2 * (k : Int) + 1 + 1 by omega, sumZ_succ (by omega), sumZ_succ (by omega), ih, iT_y (by omega), iT_n (by omega), show ((k + 1 : Nat) : Int) = (k : Int) + 1 by omega, sumZ_succ (by omega), show (h - 1 + 2 * (k : Int) + 1 - h) / 2 = (k : Int) by omega]
    omega
theorem mid_sum {P : Int → Int → Prop} {n : Int} (hn : 0 ≤ n) (hP : ∀ i h, P i h → 0 ≤ i ∧ 1 ≤ h ∧ i + h ≤ n) : dsum P n = sumZ (midR P n) 0 (2 * n - 1) := by
  have e1 : dsum P n = sumZ (fun h => sumZ (fun i => bi (P i h)) 0 n) 1 (n + 1) := sumZ_swap
  have e2 : sumZ (midR P n) 0 (2 * n - 1) = sumZ (fun h => sumZ (fun m => iT ((m + 1 - h) % 2 = 0) (bi (P ((m + 1 - h) / 2) h))) 0 (2 * n - 1)) 1 (n + 1) := sumZ_swap
  rw [e1, e2]
  refine sumZ_congr (fun h h1 h2 => ?_)
  have e3 := sumZ_par (F := fun i => bi (P i h)) (h := h) n.toNat
  rw [show ((n.toNat : Nat) : Int) = n by omega] at e3
  rw [← e3]
  have z : ∀ m, ¬ (h - 1 ≤ m ∧ m < h - 1 + 2 * n) ∨ ¬ (0 ≤ m ∧ m < 2 * n - 1) → iT ((m + 1 - h) % 2 = 0) (bi (P ((m + 1 - h) / 2) h)) = 0 := by
    intro m hm
    by_cases c : (m + 1 - h) % 2 = 0
    · rw [iT_y c]
      refine bi_0 (fun y => ?_)
      have := hP _ _ y
      omega
    · exact iT_n c
  rw [sumZ_widen (c := 0) (d := 2 * n + h) (by omega : (0 : Int) ≤ h - 1) (by omega) (fun m _ _ g => z m (Or.inl g)), sumZ_widen (a := 0) (b := 2 * n - 1) (c := 0) (d := 2 * n + h) (Int.le_refl _) (by omega) (fun m _ _ g => z m (Or.inr g))]
theorem par_cnt {c : Int} : ∀ k : Nat, sumZ (fun h => bi ((c - h) % 2 = 0)) 1 (k + 1) = if c % 2 = 0 then (k : Int) / 2 else ((k : Int) + 1) / 2 := by
  intro k
  induction k with
  | zero => rw [sumZ_nil (by omega)]; split <;> omega
  | succ k ih =>
    rw [show ((k + 1 : Nat) : Int) + 1 = ((k : Int) + 1) + 1 by omega, sumZ_succ (by omega), ih]
    by_cases hz : (c - ((k : Int) + 1)) % 2 = 0
    · rw [bi_1 hz]; split <;> omega
    · rw [bi_0 hz]; split <;> omega
theorem mir_at {w : Int → Int} {n m h : Int} (h0 : 0 ≤ m) (h1 : m < 2 * n - 1) (hh : 1 ≤ h) (hp : (m + 1 - h) % 2 = 0) : mirP w n ((m + 1 - h) / 2) h ↔ h ≤ spn w n m := by
  obtain ⟨s1, s2, s3, s4, s5⟩ := spn_spec w h0 h1
  constructor
  · rintro ⟨z1, z2, z3, z4⟩
    refine (s5 h (by omega) hp (by omega) (by omega)).mp ?_
    rwa [show (m + 1 - h) / 2 + h = (m + 1 + h) / 2 by omega] at z4
  · intro z
    refine ⟨by omega, hh, by omega, ?_⟩
    rw [show (m + 1 - h) / 2 + h = (m + 1 + h) / 2 by omega]
    exact (s5 h (by omega) hp (by omega) (by omega)).mpr z
theorem mid_mir {w : Int → Int} {n m : Int} (h0 : 0 ≤ m) (h1 : m < 2 * n - 1) : midR (mirP w n) n m = (spn w n m + 1) / 2 := by
  obtain ⟨s1, s2, s3, s4, s5⟩ := spn_spec w h0 h1
  have e := par_cnt (c := m + 1) (spn w n m).toNat
  rw [show (((spn w n m).toNat : Nat) : Int) = spn w n m by omega] at e
  have e2 : sumZ (fun h => iT ((m + 1 - h) % 2 = 0) (bi (mirP w n ((m + 1 - h) / 2) h))) 1 (spn w n m + 1) = midR (mirP w n) n m := by
    refine sumZ_widen (Int.le_refl _) (by omega) (fun h g1 g2 g3 => ?_)
    by_cases c : (m + 1 - h) % 2 = 0
    · rw [iT_y c]
      exact bi_0 (fun y => by have := (mir_at h0 h1 g1 c).mp y; omega)
    · exact iT_n c
  have e3 : sumZ (fun h => iT ((m + 1 - h) % 2 = 0) (bi (mirP w n ((m + 1 - h) / 2) h))) 1 (spn w n m + 1) = sumZ (fun h => bi ((m + 1 - h) % 2 = 0)) 1 (spn w n m + 1) := by
    refine sumZ_congr (fun h g1 g2 => ?_)
    by_cases c : (m + 1 - h) % 2 = 0
    · rw [iT_y c, bi_1 c]
      exact bi_1 ((mir_at h0 h1 g1 c).mpr (by omega))
    · rw [iT_n c, bi_0 c]
  rw [← e2, e3, e]
  split <;> omega
/-- of how few palindromes each beginning is -/
def fewI (w : Int → Int) (n : Int) (F : Int → Int) : Prop := F 0 = 0 ∧ ∀ j, 1 ≤ j → j ≤ n → (∃ i, 0 ≤ i ∧ i < j ∧ pal w i j ∧ F j = F i + 1) ∧ ∀ i, 0 ≤ i → i < j → pal w i j → F j ≤ F i + 1
theorem fewI_congr {w F G : Int → Int} {n : Int} (h : fewI w n F) (hn : 0 ≤ n) (hg : ∀ j, 0 ≤ j → j ≤ n → G j = F j) : fewI w n G := by
  refine ⟨by rw [hg 0 (Int.le_refl _) hn]; exact h.1, fun j j1 j2 => ?_⟩
  obtain ⟨⟨i, i0, i1, i2, i3⟩, h2⟩ := h.2 j j1 j2
  exact ⟨⟨i, i0, i1, i2, by rw [hg j (by omega) j2, hg i i0 (by omega), i3]⟩, fun i i0 i1 i2 => by rw [hg j (by omega) j2, hg i i0 (by omega)]; exact h2 i i0 i1 i2⟩
theorem fewI_in {w F : Int → Int} {n : Int} (h : fewI w n F) : ∀ k : Nat, (k : Int) ≤ n → 0 ≤ F k ∧ F k ≤ k := by
  intro k
  induction k using Nat.strongRecOn with
  | ind k ih =>
    intro hk
    rcases (by omega : k = 0 ∨ 1 ≤ k) with rfl | z
    · have := h.1; simp only [Int.natCast_zero] at *; omega
    · obtain ⟨⟨i, i0, i1, i2, i3⟩, h2⟩ := h.2 k (by omega) hk
      have a := ih i.toNat (by omega) (by omega)
      have b := ih (k - 1) (by omega) (by omega)
      have c := h2 (k - 1) (by omega) (by omega) (pal_1 (by omega))
      rw [show ((i.toNat : Nat) : Int) = i by omega] at a
      rw [show ((k - 1 : Nat) : Int) = (k : Int) - 1 by omega] at b
      omega
theorem fewI_u {w F G : Int → Int} {n : Int} (h : fewI w n F) (g : fewI w n G) : ∀ k : Nat, (k : Int) ≤ n → F k = G k := by
  intro k
  induction k using Nat.strongRecOn with
  | ind k ih =>
    intro hk
    rcases (by omega : k = 0 ∨ 1 ≤ k) with rfl | z
    · exact h.1.trans g.1.symm
    · obtain ⟨⟨i, i0, i1, i2, i3⟩, h2⟩ := h.2 k (by omega) hk
      obtain ⟨⟨j, j0, j1, j2, j3⟩, g2⟩ := g.2 k (by omega) hk
      have a := ih i.toNat (by omega) (by omega)
      have b := ih j.toNat (by omega) (by omega)
      have c := h2 j j0 j1 j2
      have d := g2 i i0 i1 i2
      rw [show ((i.toNat : Nat) : Int) = i by omega] at a
      rw [show ((j.toNat : Nat) : Int) = j by omega] at b
      omega
def RMirr (w : Int → Int) (n p e r : Int) : Prop := gd (0 ≤ p ∧ p < n) (-1) r (r = spn w n (if e = 0 then 2 * p else 2 * p - 1))
theorem RMirr_u {w : Int → Int} {n p e r r' : Int} (h : RMirr w n p e r) (h' : RMirr w n p e r') : r = r' := gd_uniq h h' (fun _ a b => a.trans b.symm)
def RMirs (w : Int → Int) (n a r : Int) : Prop := (a = 0 ∧ r = dsum (mirP w n) n) ∨ (a = 1 ∧ r = dsum (mirU w n) n) ∨ (a = 2 ∧ ∃ F, fewI w n F ∧ r = F n) ∨ (3 ≤ a ∧ a ≤ 4 ∧ ∃ l f, TL 1 (mirP w n) l f ∧ r = if a = 3 then l else f) ∨ ((a < 0 ∨ 4 < a) ∧ r = -1)
theorem RMirs_u {w : Int → Int} {n a r r' : Int} (hn : 0 ≤ n) (h : RMirs w n a r) (h' : RMirs w n a r') : r = r' := by
  rcases h with ⟨h1, h2⟩ | ⟨h1, h2⟩ | ⟨h1, F, h2, h3⟩ | ⟨h1, h2, l, f, h3, h4⟩ | ⟨h1, h2⟩ <;> rcases h' with ⟨g1, g2⟩ | ⟨g1, g2⟩ | ⟨g1, G, g2, g3⟩ | ⟨g1, g2, l', f', g3, g4⟩ | ⟨g1, g2⟩ <;> try omega
  · have := fewI_u h2 g2 n.toNat (by omega)
    rw [show ((n.toNat : Nat) : Int) = n by omega] at this
    rw [h3, g3, this]
  · obtain ⟨e1, e2⟩ := TL_uniq (Or.inl rfl) (fun i h z => ⟨z.1, z.2.1⟩) h3 g3
    rw [h4, g4, e1, e2]
