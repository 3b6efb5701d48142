/-! runs: what one is; fewer than letters; lists of all of them -/
def isRun (w : Int → Int) (n i j p : Int) : Prop := (0 ≤ i ∧ j ≤ n ∧ 1 ≤ p ∧ 2 * p ≤ j - i) ∧ per w i j p ∧ (i = 0 ∨ w (i - 1) ≠ w (i - 1 + p)) ∧ (j = n ∨ w (j - p) ≠ w j) ∧ ∀ q, 1 ≤ q → q < p → ¬ per w i j q
theorem per_cong {v : Int → Int} {b x p y q z : Int} (h : per v b x p) (hp : 1 ≤ p) (hy : b ≤ y) (hy2 : y < x) (hz : b ≤ z) (hz2 : z < x) (hq : z = y + q * p) : v y = v z := by
  rcases (by omega : 0 ≤ q ∨ q < 0) with c | c
  · have e : ((q.toNat : Nat) : Int) = q := Int.toNat_of_nonneg c
    have := per_mul h (by omega) q.toNat y hy (by rw [e]; omega)
    rw [e, ← hq] at this
    exact this.symm
  · have e : (((-q).toNat : Nat) : Int) = -q := Int.toNat_of_nonneg (by omega)
    have e2 : y = z + (-q) * p := by rw [Int.neg_mul]; omega
    have := per_mul h (by omega) (-q).toNat z hz (by rw [e]; omega)
    rw [e, ← e2] at this
    exact this
/-- a stretch as long as the period that comes again d later -/
theorem per_of {v : Int → Int} {i j p c d : Int} (h : per v i j p) (hp : 1 ≤ p) (hc : i ≤ c) (hd : 0 ≤ d) (hj : c + d + p ≤ j) (hs : ∀ s, 0 ≤ s → s < p → v (c + s) = v (c + d + s)) : per v i j d := by
  intro y y0 y1
  have a0 := Int.emod_nonneg (y - c) (b := p) (by omega)
  have a1 := Int.emod_lt_of_pos (y - c) (b := p) (by omega)
  have e := Int.emod_add_mul_ediv (y - c) p
  rw [Int.mul_comm p] at e
  have h1 := per_cong (z := y) (q := (y - c) / p) (y := c + (y - c) % p) h hp (by omega) (by omega) y0 (by omega) (by omega)
  have h2 := per_cong (z := y + d) (q := (y - c) / p) (y := c + d + (y - c) % p) h hp (by omega) (by omega) (by omega) y1 (by omega)
  rw [← h1, ← h2]
  exact hs _ a0 a1
def ltw (v : Int → Int) (m a b : Int) : Prop := ∃ t, 0 ≤ t ∧ t < m ∧ (∀ s, 0 ≤ s → s < t → v (a + s) = v (b + s)) ∧ v (a + t) < v (b + t)
theorem ltw_tri {v : Int → Int} {a b : Int} : ∀ m : Nat, ltw v m a b ∨ ltw v m b a ∨ eqs v a b m := by
  intro m
  induction m with
  | zero => exact Or.inr (Or.inr (eqs_0 (by omega)))
  | succ m ih =>
    rcases ih with ⟨t, t0, t1, t2, t3⟩ | ⟨t, t0, t1, t2, t3⟩ | h
    · exact Or.inl ⟨t, t0, by omega, t2, t3⟩
    · exact Or.inr (Or.inl ⟨t, t0, by omega, t2, t3⟩)
    · rcases (by omega : v (a + m) < v (b + m) ∨ v (b + m) < v (a + m) ∨ v (a + m) = v (b + m)) with c | c | c
      · exact Or.inl ⟨m, by omega, by omega, fun s s0 s1 => h s s0 s1, c⟩
      · exact Or.inr (Or.inl ⟨m, by omega, by omega, fun s s0 s1 => (h s s0 s1).symm, c⟩)
      · refine Or.inr (Or.inr (fun s s0 s1 => ?_))
        rcases (by omega : s < m ∨ s = m) with g | g
        · exact h s s0 g
        · rw [g]; exact c
theorem ltw_irr {v : Int → Int} {m a : Int} : ¬ ltw v m a a := fun ⟨t, _, _, _, t3⟩ => by omega
theorem ltw_tr {v : Int → Int} {m a b c : Int} (h : ltw v m a b) (h' : ltw v m b c) : ltw v m a c := by
  obtain ⟨t, t0, t1, t2, t3⟩ := h
  obtain ⟨u, u0, u1, u2, u3⟩ := h'
  rcases (by omega : t < u ∨ t = u ∨ u < t) with g | g | g
  · exact ⟨t, t0, t1, fun s s0 s1 => (t2 s s0 s1).trans (u2 s s0 (by omega)), by rw [← u2 t t0 g]; exact t3⟩
  · subst g
    exact ⟨t, t0, t1, fun s s0 s1 => (t2 s s0 s1).trans (u2 s s0 s1), by omega⟩
  · exact ⟨u, u0, u1, fun s s0 s1 => (t2 s s0 (by omega)).trans (u2 s s0 s1), by rw [t2 u u0 g]; exact u3⟩
theorem ltw_min {v : Int → Int} {m c : Int} : ∀ k : Nat, ∃ o, 0 ≤ o ∧ o ≤ (k : Int) ∧ ∀ x, 0 ≤ x → x ≤ (k : Int) → ¬ ltw v m (c + x) (c + o) := by
  intro k
  induction k with
  | zero =>
    refine ⟨0, by omega, by omega, fun x x0 x1 => ?_⟩
    rw [show x = 0 by omega]
    exact ltw_irr
  | succ k ih =>
    obtain ⟨o, o0, o1, o2⟩ := ih
    by_cases h : ltw v m (c + ((k : Int) + 1)) (c + o)
    · refine ⟨(k : Int) + 1, by omega, by omega, fun x x0 x1 z => ?_⟩
      rcases (by omega : x ≤ k ∨ x = (k : Int) + 1) with g | g
      · exact o2 x x0 g (ltw_tr z h)
      · rw [g] at z; exact ltw_irr z
    · refine ⟨o, o0, by omega, fun x x0 x1 => ?_⟩
      rcases (by omega : x ≤ k ∨ x = (k : Int) + 1) with g | g
      · exact o2 x x0 g
      · rw [g]; exact h
/-- the parts of a run as long as its period, from places nearer than that: no two alike -/
theorem run_ne {v w : Int → Int} {n i j p c x y : Int} (hv : ∀ a b, v a = v b ↔ w a = w b) (h : isRun w n i j p) (hc : i ≤ c) (hj : c + 2 * p - 1 ≤ j) (hx : 0 ≤ x) (hxy : x < y) (hy : y < p) : ¬ eqs v (c + x) (c + y) p := fun z => by
  obtain ⟨⟨h1, h2, h3, h4⟩, h5, h6, h7, h8⟩ := h
  refine h8 (y - x) (by omega) (by omega) (per_of (c := c + x) h5 h3 (by omega) (by omega) (by omega) (fun s s0 s1 => ?_))
  have := (hv _ _).mp (z s s0 s1)
  rwa [show c + x + (y - x) + s = c + y + s by omega]
/-- what is less than all the others is a LYNDON part -/
theorem run_lyn {v w : Int → Int} {n i j p c o : Int} (hv : ∀ a b, v a = v b ↔ w a = w b) (h : isRun w n i j p) (hc : i ≤ c) (hj : c + 2 * p - 1 ≤ j) (ho : 0 ≤ o) (ho2 : o < p) (hm : ∀ x, 0 ≤ x → x < p → x ≠ o → ltw v p (c + o) (c + x)) : lynS v (c + o) (c + o + p) := by
  obtain ⟨⟨h1, h2, h3, h4⟩, h5, h6, h7, h8⟩ := h
  have h5' : per v i j p := fun y y0 y1 => (hv _ _).mpr (h5 y y0 y1)
  refine lyn_SR.mp ⟨by omega, fun r r0 r1 => ?_⟩
  rw [show c + o + p - (c + o) = p by omega] at r1 ⊢
  obtain ⟨t, t0, t1, t2, t3⟩ := hm (if o + r < p then o + r else o + r - p) (by split <;> omega) (by split <;> omega) (by split <;> omega)
  have key : ∀ x, 0 ≤ x → x < p → rlet v (c + o) p r x = v (c + (if o + r < p then o + r else o + r - p) + x) := fun x x0 x1 => by
    unfold rlet
    by_cases a : r + x < p
    · rw [if_pos a]
      by_cases b : o + r < p
      · rw [if_pos b, show c + o + (r + x) = c + (o + r) + x by omega]
      · rw [if_neg b]
        exact per_cong (q := -1) h5' h3 (by omega) (by omega) (by omega) (by omega) (by omega)
    · rw [if_neg a]
      by_cases b : o + r < p
      · rw [if_pos b]
        exact per_cong (q := 1) h5' h3 (by omega) (by omega) (by omega) (by omega) (by omega)
      · rw [if_neg b]
        exact per_cong (q := 0) h5' h3 (by omega) (by omega) (by omega) (by omega) (by omega)
  refine ⟨t, t0, t1, fun y y0 y1 => ?_, ?_⟩
  · rw [rl_0 (by omega), key y y0 (by omega)]; exact t2 y y0 y1
  · rw [rl_0 t1, key t t0 t1]; exact t3
theorem run_root {v w : Int → Int} {n i j p : Int} (hv : ∀ a b, v a = v b ↔ w a = w b) (h : isRun w n i j p) : ∃ a, i < a ∧ a ≤ i + p ∧ lynS v a (a + p) := by
  have h0 := h.1
  obtain ⟨o, o0, o1, o2⟩ := ltw_min (v := v) (m := p) (c := i + 1) (p - 1).toNat
  refine ⟨i + 1 + o, by omega, by omega, run_lyn hv h (by omega) (by omega) o0 (by omega) (fun x x0 x1 x2 => ?_)⟩
  rcases ltw_tri (v := v) (a := i + 1 + o) (b := i + 1 + x) p.toNat with g | g | g
  · rwa [Int.toNat_of_nonneg (by omega)] at g
  · rw [Int.toNat_of_nonneg (by omega)] at g
    exact absurd g (o2 x x0 (by omega))
  · rw [Int.toNat_of_nonneg (by omega)] at g
    rcases (by omega : o < x ∨ x < o) with c | c
    · exact absurd g (run_ne hv h (by omega) (by omega) o0 c x1)
    · exact absurd (eqs_symm g) (run_ne hv h (by omega) (by omega) x0 c (by omega))
theorem vU_eq {w : Int → Int} {up a b : Int} : vU w up a = vU w up b ↔ w a = w b := by
  unfold vU
  split <;> omega
theorem vU_1 {w : Int → Int} : vU w 1 = w := rfl
/-- in one of the two orders no longer LYNDON part begins at a place -/
theorem lyn_one {w : Int → Int} {n a : Int} (ha : 0 ≤ a) : ∃ up : Int, (up = 0 ∨ up = 1) ∧ ∀ l, 2 ≤ l → a + l ≤ n → ¬ lynS (vU w up) a (a + l) := by
  have same : ∀ (v : Int → Int) (k l : Int), (∀ x, a < x → x < k → v x = v a) → a + l ≤ k → 2 ≤ l → ¬ lynS v a (a + l) := fun v k l hk hl h2 z => by
    obtain ⟨t, t0, t1, t2, t3⟩ := z.2 (a + 1) (by omega) (by omega)
    rw [hk (a + 1 + t) (by omega) (by omega)] at t3
    rcases (by omega : t = 0 ∨ 0 < t) with c | c
    · rw [c, Int.add_zero] at t3; omega
    · rw [hk (a + t) (by omega) (by omega)] at t3; omega
  by_cases hx : ∃ x, a < x ∧ x < n ∧ w x ≠ w a
  · obtain ⟨k, ⟨k0, k1, k2⟩, k3⟩ := least_ex (P := fun x => a < x ∧ x < n ∧ w x ≠ w a) (fun x z => by omega) hx
    have hk : ∀ x, a < x → x < k → w x = w a := fun x x0 x1 => by
      by_cases c : w x = w a
      · exact c
      · exact absurd ⟨x0, by omega, c⟩ (k3 x x1)
    have go : ∀ up, vU w up k < vU w up a → ∀ l, 2 ≤ l → a + l ≤ n → ¬ lynS (vU w up) a (a + l) := fun up hlt l l0 l1 => by
      rcases (by omega : a + l ≤ k ∨ k < a + l) with c | c
      · exact same _ k l (fun x x0 x1 => vU_eq.mpr (hk x x0 x1)) c l0
      · intro z
        obtain ⟨t, t0, t1, t2, t3⟩ := z.2 k k0 c
        rcases (by omega : t = 0 ∨ 0 < t) with g | g
        · rw [g, Int.add_zero, Int.add_zero] at t3; omega
        · have := t2 0 (by omega) g
          rw [Int.add_zero, Int.add_zero] at this
          omega
    rcases (by omega : w k < w a ∨ w a < w k) with c | c
    · exact ⟨1, Or.inr rfl, go 1 (by rw [vU_1]; exact c)⟩
    · exact ⟨0, Or.inl rfl, go 0 (by unfold vU; rw [if_pos rfl, if_pos rfl]; omega)⟩
  · refine ⟨1, Or.inr rfl, fun l l0 l1 => same _ n l (fun x x0 x1 => ?_) l1 l0⟩
    rw [vU_1]
    by_cases c : w x = w a
    · exact c
    · exact absurd ⟨x, x0, x1, c⟩ hx
noncomputable def rup (w : Int → Int) (n j p : Int) : Int := if j < n ∧ w j < w (j - p) then 1 else 0
theorem rup_01 {w : Int → Int} {n j p : Int} : rup w n j p = 0 ∨ rup w n j p = 1 := by
  unfold rup
  split
  · exact Or.inr rfl
  · exact Or.inl rfl
theorem run_beg {w : Int → Int} {n i j p : Int} (h : isRun w n i j p) : ∃ a, i < a ∧ a ≤ i + p ∧ lgL (vU w (rup w n j p)) n a p := by
  obtain ⟨a, a0, a1, a2⟩ := run_root (v := vU w (rup w n j p)) (fun _ _ => vU_eq) h
  obtain ⟨⟨h1, h2, h3, h4⟩, h5, h6, h7, h8⟩ := h
  refine ⟨a, a0, a1, lgL_of (x := j) a2 h3 (by omega) h2 (fun y y0 y1 => vU_eq.mpr (h5 y (by omega) y1)) ?_⟩
  rcases (by omega : j = n ∨ j < n) with c | c
  · exact Or.inl c
  · refine Or.inr ?_
    have h7' : w (j - p) ≠ w j := by
      rcases h7 with z | z
      · omega
      · exact z
    by_cases g : w j < w (j - p)
    · have e : rup w n j p = 1 := if_pos ⟨c, g⟩
      rw [e, vU_1]; exact g
    · have e : rup w n j p = 0 := if_neg (fun z => g z.2)
      rw [e]
      unfold vU
      rw [if_pos rfl, if_pos rfl]; omega
theorem run_inj {w : Int → Int} {n i j p i' j' p' a up up' : Int} (h : isRun w n i j p) (h' : isRun w n i' j' p') (hu : up = 0 ∨ up = 1) (hu' : up' = 0 ∨ up' = 1) (ha : i < a) (ha2 : a ≤ i + p) (hb : i' < a) (hb2 : a ≤ i' + p') (hl : lgL (vU w up) n a p) (hl' : lgL (vU w up') n a p') : i = i' ∧ j = j' ∧ p = p' := by
  obtain ⟨⟨h1, h2, h3, h4⟩, h5, h6, h7, h8⟩ := h
  obtain ⟨⟨g1, g2, g3, g4⟩, g5, g6, g7, g8⟩ := h'
  have two : ∀ (i j i' j' p' up' : Int), i < a → a < j → i' < a → a + p' ≤ j' → 2 ≤ p' → per w i j 1 → per w i' j' p' → lynS (vU w up') a (a + p') → False := fun i j i' j' p' up' x1 x2 x3 x4 x5 x6 x7 x8 => by
    have e1 := x6 (a - 1) (by omega) (by omega)
    have e2 := x7 (a - 1) (by omega) (by omega)
    rw [show a - 1 + 1 = a by omega] at e1
    obtain ⟨t, t0, t1, t2, t3⟩ := x8.2 (a + p' - 1) (by omega) (by omega)
    rw [show t = 0 by omega, Int.add_zero, Int.add_zero] at t3
    have e3 : vU w up' a = vU w up' (a + p' - 1) := vU_eq.mpr (by rw [show a + p' - 1 = a - 1 + p' by omega, ← e2, e1])
    omega
  have hp : p = p' := by
    by_cases e : up = up'
    · subst e; exact lgL_u hl hl'
    · obtain ⟨u, u0, u1⟩ := lyn_one (w := w) (n := n) (a := a) (by omega)
      rcases (by omega : up = u ∨ up' = u) with c | c
      · subst c
        have p1 : p = 1 := by
          rcases (by omega : p = 1 ∨ 2 ≤ p) with z | z
          · exact z
          · exact absurd hl.2.2.1 (u1 p z hl.2.1)
        rcases (by omega : p' = 1 ∨ 2 ≤ p') with z | z
        · omega
        · subst p1
          exact (two i j i' j' p' up' ha (by omega) hb (by omega) z h5 g5 hl'.2.2.1).elim
      · subst c
        have p1 : p' = 1 := by
          rcases (by omega : p' = 1 ∨ 2 ≤ p') with z | z
          · exact z
          · exact absurd hl'.2.2.1 (u1 p' z hl'.2.1)
        rcases (by omega : p = 1 ∨ 2 ≤ p) with z | z
        · omega
        · subst p1
          exact (two i' j' i j p up hb (by omega) ha (by omega) z g5 h5 hl.2.2.1).elim
  subst hp
  refine ⟨?_, ?_, rfl⟩
  · rcases (by omega : i < i' ∨ i = i' ∨ i' < i) with c | c | c
    · rcases g6 with z | z
      · omega
      · exact absurd (h5 (i' - 1) (by omega) (by omega)) z
    · exact c
    · rcases h6 with z | z
      · omega
      · exact absurd (g5 (i - 1) (by omega) (by omega)) z
  · rcases (by omega : j < j' ∨ j = j' ∨ j' < j) with c | c | c
    · rcases h7 with z | z
      · omega
      · have := g5 (j - p) (by omega) (by omega)
        rw [show j - p + p = j by omega] at this
        exact absurd this z
    · exact c
    · rcases g7 with z | z
      · omega
      · have := h5 (j' - p) (by omega) (by omega)
        rw [show j' - p + p = j' by omega] at this
        exact absurd this z
noncomputable def rbeg (w : Int → Int) (n i j p : Int) : Int := @dite Int (∃ a, i < a ∧ a ≤ i + p ∧ lgL (vU w (rup w n j p)) n a p) (Classical.propDecidable _) (fun h => Classical.choose h) (fun _ => 1)
theorem rbeg_s {w : Int → Int} {n i j p : Int} (h : isRun w n i j p) : i < rbeg w n i j p ∧ rbeg w n i j p ≤ i + p ∧ lgL (vU w (rup w n j p)) n (rbeg w n i j p) p := by
  have hx := run_beg h
  have e : rbeg w n i j p = Classical.choose hx := by
    unfold rbeg
    rw [dif_pos hx]
  rw [e]
  exact Classical.choose_spec hx
/-- counting by a list without repeats -/
theorem cntZ_del {P : Int → Prop} {a b x : Int} (hx : P x) (h1 : a ≤ x) (h2 : x < b) : cntZ P a b = cntZ (fun y => P y ∧ y ≠ x) a b + 1 := by
  have sp : ∀ Q : Int → Prop, cntZ Q a b = cntZ Q a x + (bi (Q x) + cntZ Q (x + 1) b) := fun Q => by
    have e1 := sumZ_split (f := fun x => bi (Q x)) (a := a) (b := x) (c := b) h1 (by omega)
    have e2 := sumZ_split (f := fun x => bi (Q x)) (a := x) (b := x + 1) (c := b) (by omega) (by omega)
    have e3 := sumZ_succ (f := fun x => bi (Q x)) (a := x) (b := x) (Int.le_refl _)
    have e4 := sumZ_nil (f := fun x => bi (Q x)) (a := x) (b := x) (Int.le_refl _)
    unfold cntZ
    omega
  rw [sp P, sp (fun y => P y ∧ y ≠ x), bi_1 hx, bi_0 (fun z : P x ∧ x ≠ x => z.2 rfl), cntZ_congr (P := P) (Q := fun y => P y ∧ y ≠ x) (a := a) (b := x) (fun y y0 y1 => ⟨fun z => ⟨z, by omega⟩, fun z => z.1⟩), cntZ_congr (P := P) (Q := fun y => P y ∧ y ≠ x) (a := x + 1) (b := b) (fun y y0 y1 => ⟨fun z => ⟨z, by omega⟩, fun z => z.1⟩)]
  omega
theorem enum_cnt {a b : Int} {e : Int → Int} : ∀ (m : Nat) (P : Int → Prop), (∀ k, 0 ≤ k → k < (m : Int) → P (e k) ∧ a ≤ e k ∧ e k < b) → (∀ k l, 0 ≤ k → k < l → l < (m : Int) → e k ≠ e l) → (∀ x, a ≤ x → x < b → P x → ∃ k, 0 ≤ k ∧ k < (m : Int) ∧ e k = x) → cntZ P a b = m := by
  intro m
  induction m with
  | zero =>
    intro P h1 h2 h3
    refine cntZ_zero.mpr (fun x x0 x1 z => ?_)
    obtain ⟨k, k0, k1, _⟩ := h3 x x0 x1 z
    omega
  | succ m ih =>
    intro P h1 h2 h3
    obtain ⟨m1, m2, m3⟩ := h1 m (by omega) (by omega)
    have := ih (fun y => P y ∧ y ≠ e m) (fun k k0 k1 => by
      obtain ⟨g1, g2, g3⟩ := h1 k k0 (by omega)
      exact ⟨⟨g1, h2 k m k0 k1 (by omega)⟩, g2, g3⟩) (fun k l k0 k1 k2 => h2 k l k0 k1 (by omega)) (fun x x0 x1 z => by
      obtain ⟨k, k0, k1, k2⟩ := h3 x x0 x1 z.1
      refine ⟨k, k0, ?_, k2⟩
      rcases (by omega : k < m ∨ k = m) with c | c
      · exact c
      · exact absurd (by rw [← k2, c]) z.2)
    rw [cntZ_del m1 m2 m3, this]
    omega
theorem run_same {w : Int → Int} {n i j p q : Int} (h : isRun w n i j p) (h' : isRun w n i j q) : p = q := by
  rcases (by omega : p < q ∨ p = q ∨ q < p) with c | c | c
  · exact absurd h.2.1 (h'.2.2.2.2 p h.1.2.2.1 c)
  · exact c
  · exact absurd h'.2.1 (h.2.2.2.2 q h'.1.2.2.1 c)
theorem runs_few {w : Int → Int} {n m : Int} {f t g : Int → Int} (h : ∀ k, 0 ≤ k → k < m → isRun w n (f k) (t k) (g k)) (hd : ∀ k l, 0 ≤ k → k < l → l < m → ¬ (f k = f l ∧ t k = t l)) : m ≤ max 0 (n - 1) := by
  rcases (by omega : m < 0 ∨ 0 ≤ m) with c | c
  · omega
  · have inj : ∀ k l, 0 ≤ k → k < l → l < m → rbeg w n (f k) (t k) (g k) ≠ rbeg w n (f l) (t l) (g l) := fun k l k0 k1 k2 z => by
      obtain ⟨a0, a1, a2⟩ := rbeg_s (h k k0 (by omega))
      obtain ⟨b0, b1, b2⟩ := rbeg_s (h l (by omega) k2)
      rw [← z] at b0 b1 b2
      obtain ⟨e1, e2, e3⟩ := run_inj (h k k0 (by omega)) (h l (by omega) k2) rup_01 rup_01 a0 a1 b0 b1 a2 b2
      exact hd k l k0 k1 k2 ⟨e1, e2⟩
    have := enum_cnt (a := 1) (b := n) (e := fun k => rbeg w n (f k) (t k) (g k)) m.toNat (fun x => ∃ k, 0 ≤ k ∧ k < m ∧ rbeg w n (f k) (t k) (g k) = x) (fun k k0 k1 => by
      obtain ⟨a0, a1, a2⟩ := rbeg_s (h k k0 (by omega))
      have h0 := (h k k0 (by omega)).1
      exact ⟨⟨k, k0, by omega, rfl⟩, by omega, by omega⟩) (fun k l k0 k1 k2 => inj k l k0 k1 (by omega)) (fun x x0 x1 z => by
      obtain ⟨k, k0, k1, k2⟩ := z
      exact ⟨k, k0, by omega, k2⟩)
    have b := cntZ_in (P := fun x => ∃ k, 0 ≤ k ∧ k < m ∧ rbeg w n (f k) (t k) (g k) = x) (a := 1) (b := n)
    omega
/-- all runs, once each -/
def RL (w : Int → Int) (n m : Int) (f t g : Int → Int) : Prop := 0 ≤ m ∧ (∀ k, 0 ≤ k → k < m → isRun w n (f k) (t k) (g k)) ∧ (∀ i j p, isRun w n i j p → ∃ k, 0 ≤ k ∧ k < m ∧ f k = i ∧ t k = j ∧ g k = p)
def RLd (m : Int) (f t : Int → Int) : Prop := ∀ k l, 0 ≤ k → k < l → l < m → ¬ (f k = f l ∧ t k = t l)
def RLs (m : Int) (f g : Int → Int) : Prop := ∀ k l, 0 ≤ k → k < l → l < m → f k < f l ∨ (f k = f l ∧ g k < g l)
theorem RLs_d {w : Int → Int} {n m : Int} {f t g : Int → Int} (h : RL w n m f t g) (hs : RLs m f g) : RLd m f t := fun k l k0 k1 k2 z => by
  have hk := h.2.1 k k0 (by omega)
  have hl := h.2.1 l (by omega) k2
  rw [z.1, z.2] at hk
  have := run_same hk hl
  have := hs k l k0 k1 k2
  omega
theorem run_end {w : Int → Int} {n i j j' p : Int} (h : isRun w n i j p) (h' : isRun w n i j' p) : j = j' := by
  obtain ⟨⟨h1, h2, h3, h4⟩, h5, h6, h7, h8⟩ := h
  obtain ⟨⟨g1, g2, g3, g4⟩, g5, g6, g7, g8⟩ := h'
  rcases (by omega : j < j' ∨ j = j' ∨ j' < j) with c | c | c
  · rcases h7 with z | z
    · omega
    · have := g5 (j - p) (by omega) (by omega)
      rw [show j - p + p = j by omega] at this
      exact absurd this z
  · exact c
  · rcases g7 with z | z
    · omega
    · have := h5 (j' - p) (by omega) (by omega)
      rw [show j' - p + p = j' by omega] at this
      exact absurd this z
theorem RL_ag {w : Int → Int} {n m m' : Int} {f t g f' t' g' : Int → Int} (h : RL w n m f t g) (hs : RLs m f g) (h' : RL w n m' f' t' g') (hs' : RLs m' f' g') : ∀ k : Nat, (k : Int) < m → (k : Int) < m' ∧ f k = f' k ∧ t k = t' k ∧ g k = g' k := by
  intro k
  induction k using Nat.strongRecOn with
  | ind k ih =>
    intro hk
    have rk := h.2.1 k (by omega) hk
    obtain ⟨a, a0, a1, a2, a3, a4⟩ := h'.2.2 _ _ _ rk
    have hka : (k : Int) ≤ a := by
      rcases (by omega : a < k ∨ (k : Int) ≤ a) with c | c
      · obtain ⟨i1, i2, i3, i4⟩ := ih a.toNat (by omega) (by omega)
        rw [Int.toNat_of_nonneg a0] at i2 i4
        have := hs a k a0 c hk
        omega
      · exact c
    have rk' := h'.2.1 k (by omega) (by omega)
    obtain ⟨b, b0, b1, b2, b3, b4⟩ := h.2.2 _ _ _ rk'
    have hkb : (k : Int) ≤ b := by
      rcases (by omega : b < k ∨ (k : Int) ≤ b) with c | c
      · obtain ⟨i1, i2, i3, i4⟩ := ih b.toNat (by omega) (by omega)
        rw [Int.toNat_of_nonneg b0] at i2 i4
        have := hs' b k b0 c (by omega)
        omega
      · exact c
    have e : f k = f' k ∧ g k = g' k := by
      rcases (by omega : (k : Int) = a ∨ (k : Int) < a) with c | c
      · rw [c, a2, a4, ← c]; exact ⟨rfl, rfl⟩
      · have x1 := hs' k a (by omega) c a1
        rcases (by omega : (k : Int) = b ∨ (k : Int) < b) with d | d
        · rw [← d] at b2 b4; omega
        · have x2 := hs k b (by omega) d b1
          omega
    refine ⟨by omega, e.1, ?_, e.2⟩
    rw [← e.1, ← e.2] at rk'
    exact run_end rk rk'
theorem RL_u {w : Int → Int} {n m m' : Int} {f t g f' t' g' : Int → Int} (h : RL w n m f t g) (hs : RLs m f g) (h' : RL w n m' f' t' g') (hs' : RLs m' f' g') : m = m' ∧ ∀ k, 0 ≤ k → k < m → f k = f' k ∧ t k = t' k ∧ g k = g' k := by
  have le : ∀ {m m' : Int} {f t g f' t' g' : Int → Int}, RL w n m f t g → RLs m f g → RL w n m' f' t' g' → RLs m' f' g' → m ≤ m' := fun {m m'} _ _ _ _ _ _ x1 x2 x3 x4 => by
    rcases (by omega : m ≤ m' ∨ m' < m) with c | c
    · exact c
    · have := RL_ag x1 x2 x3 x4 m'.toNat (by have := x3.1; omega)
      have := x3.1
      omega
  refine ⟨Int.le_antisymm (le h hs h' hs') (le h' hs' h hs), fun k k0 k1 => ?_⟩
  have := RL_ag h hs h' hs' k.toNat (by omega)
  rw [Int.toNat_of_nonneg k0] at this
  exact this.2
noncomputable def nR (w : Int → Int) (n : Int) : Int := cntZ (fun x => ∃ i j p, isRun w n i j p ∧ x = 1000 * i + j) 0 200000
theorem RL_cnt {w : Int → Int} {n m : Int} {f t g : Int → Int} (hn : n ≤ 120) (h : RL w n m f t g) (hd : RLd m f t) : m = nR w n := by
  have := enum_cnt (a := 0) (b := 200000) (e := fun k => 1000 * f k + t k) m.toNat (fun x => ∃ i j p, isRun w n i j p ∧ x = 1000 * i + j) (fun k k0 k1 => by
    have r := h.2.1 k k0 (by omega)
    have r0 := r.1
    exact ⟨⟨_, _, _, r, rfl⟩, by omega, by omega⟩) (fun k l k0 k1 k2 z => by
    have r1 := (h.2.1 k k0 (by omega)).1
    have r2 := (h.2.1 l (by omega) (by omega)).1
    exact hd k l k0 k1 (by omega) (by omega)) (fun x x0 x1 z => by
    obtain ⟨i, j, p, r, e⟩ := z
    obtain ⟨k, k0, k1, k2, k3, k4⟩ := h.2.2 i j p r
    exact ⟨k, k0, by omega, by rw [k2, k3, e]⟩)
  have h0 := h.1
  unfold nR
  omega
theorem RL_few {w : Int → Int} {n m : Int} {f t g : Int → Int} (h : RL w n m f t g) (hd : RLd m f t) : m ≤ max 0 (n - 1) := runs_few h.2.1 hd
/-- a stretch that cannot be made longer: its least period makes a RUN of it -/
theorem run_div {w : Int → Int} {i j p g : Int} (hp : 1 ≤ p) (hpg : p ≤ g) (hg : 2 * g ≤ j - i) (h : per w i j p) (h' : per w i j g) (hl : ∀ q, 1 ≤ q → q < p → ¬ per w i j q) : ∃ q, g = q * p := by
  have a0 := Int.emod_nonneg g (b := p) (by omega)
  have a1 := Int.emod_lt_of_pos g (b := p) (by omega)
  have e := Int.emod_add_mul_ediv g p
  rw [Int.mul_comm p] at e
  rcases (by omega : g % p = 0 ∨ 1 ≤ g % p) with c | c
  · exact ⟨g / p, by omega⟩
  · refine absurd (fun y y0 y1 => ?_) (hl (g % p) c a1)
    rcases (by omega : y + g < j ∨ j ≤ y + g) with d | d
    · rw [h' y y0 d]
      exact (per_cong (q := g / p) h hp (by omega) (by omega) (by omega) (by omega) (by omega))
        |>.symm
    · have x1 := h' (y + g % p - g) (by omega) (by omega)
      rw [show y + g % p - g + g = y + g % p by omega] at x1
      rw [← x1]
      exact per_cong (q := -(g / p)) h hp y0 (by omega) (by omega) (by omega) (by rw [Int.neg_mul]; omega)
/-- the least period of a stretch -/
theorem run_least {w : Int → Int} {n i j g : Int} (h0 : 0 ≤ i ∧ j ≤ n ∧ 1 ≤ g ∧ 2 * g ≤ j - i) (h : per w i j g) (h1 : i = 0 ∨ w (i - 1) ≠ w (i - 1 + g)) (h2 : j = n ∨ w (j - g) ≠ w j) : ∃ p, p ≤ g ∧ isRun w n i j p := by
  obtain ⟨p, ⟨p0, p1⟩, p2⟩ := least_ex (P := fun q => 1 ≤ q ∧ per w i j q) (fun q z => by omega) ⟨g, h0.2.2.1, h⟩
  have hl : ∀ q, 1 ≤ q → q < p → ¬ per w i j q := fun q q0 q1 z => p2 q q1 ⟨q0, z⟩
  have hpg : p ≤ g := by
    rcases (by omega : p ≤ g ∨ g < p) with c | c
    · exact c
    · exact absurd h (hl g (by omega) c)
  obtain ⟨q, hq⟩ := run_div p0 hpg (by omega) p1 h hl
  refine ⟨p, hpg, ⟨by omega, by omega, p0, by omega⟩, p1, ?_, ?_, hl⟩
  · rcases h1 with z | z
    · exact Or.inl z
    · refine Or.inr (fun y => z ?_)
      rw [y]
      exact per_cong (q := q - 1) p1 p0 (by omega) (by omega) (by omega) (by omega) (by rw [Int.sub_mul]; omega)
  · rcases h2 with z | z
    · exact Or.inl z
    · refine Or.inr (fun y => z ?_)
      rw [← y]
      exact per_cong (q := q - 1) p1 p0 (by omega) (by omega) (by omega) (by omega) (by rw [Int.sub_mul]; omega)
/-- the least rotation of a RUN's first letters begins a LYNDON part, the first one -/
theorem lr_min {w : Int → Int} {n i j p : Int} (h : isRun w n i j p) : ∀ k : Nat, (k : Int) < p → ∀ x, 0 ≤ x → x ≤ (k : Int) → x ≠ lrN w i p k → ltw w p (i + lrN w i p k) (i + x) := by
  have h' := h
  obtain ⟨⟨h1, h2, h3, h4⟩, h5, h6, h7, h8⟩ := h'
  have key : ∀ o x, 0 ≤ o → o < p → 0 ≤ x → x < p → rlet w i p o x = w (i + o + x) := fun o x o0 o1 x0 x1 => by
    unfold rlet
    by_cases a : o + x < p
    · rw [if_pos a, show i + (o + x) = i + o + x by omega]
    · rw [if_neg a]
      exact per_cong (q := 1) h5 h3 (by omega) (by omega) (by omega) (by omega) (by omega)
  have rot : ∀ o q, 0 ≤ o → o < p → 0 ≤ q → q < p → (rotLt w i p o q ↔ ltw w p (i + o) (i + q)) := fun o q o0 o1 q0 q1 => by
    constructor
    · rintro ⟨x, x0, x1, x2, x3⟩
      refine ⟨x, x0, x1, fun s s0 s1 => ?_, ?_⟩
      · have := x2 s s0 s1
        rwa [key o s o0 o1 s0 (by omega), key q s q0 q1 s0 (by omega)] at this
      · rwa [key o x o0 o1 x0 x1, key q x q0 q1 x0 x1] at x3
    · rintro ⟨x, x0, x1, x2, x3⟩
      refine ⟨x, x0, x1, fun s s0 s1 => ?_, ?_⟩
      · rw [key o s o0 o1 s0 (by omega), key q s q0 q1 s0 (by omega)]
        exact x2 s s0 s1
      · rw [key o x o0 o1 x0 x1, key q x q0 q1 x0 x1]
        exact x3
  intro k
  induction k with
  | zero =>
    intro _ x x0 x1 x2
    exact absurd (show x = lrN w i p 0 from show x = 0 by omega) x2
  | succ k ih =>
    intro hk x x0 x1 x2
    have b := lrN_in (w := w) (i := i) (m := p) k
    have st := lrN_step (w := w) (i := i) (m := p) (o := (k : Int) + 1) (by omega)
    rw [show ((k : Int) + 1 - 1).toNat = k by omega, show ((k : Int) + 1).toNat = k + 1 by omega] at st
    by_cases c : rotLt w i p ((k : Int) + 1) (lrN w i p k)
    · rw [st.1 c] at x2 ⊢
      have c2 := (rot _ _ (by omega) (by omega) b.1 (by omega)).mp c
      by_cases d : x = lrN w i p k
      · rw [d]; exact c2
      · exact ltw_tr c2 (ih (by omega) x x0 (by omega) d)
    · rw [st.2 c] at x2 ⊢
      rcases (by omega : x ≤ (k : Int) ∨ x = (k : Int) + 1) with d | d
      · exact ih (by omega) x x0 d x2
      · subst d
        rcases ltw_tri (v := w) (a := i + lrN w i p k) (b := i + ((k : Int) + 1)) p.toNat with g | g | g
        · rwa [Int.toNat_of_nonneg (by omega)] at g
        · rw [Int.toNat_of_nonneg (by omega)] at g
          exact absurd ((rot _ _ (by omega) (by omega) b.1 (by omega)).mpr g) c
        · rw [Int.toNat_of_nonneg (by omega)] at g
          exact absurd g (run_ne (fun _ _ => Iff.rfl) h (by omega) (by omega) b.1 (by omega) (by omega))
def fstL (w : Int → Int) (i p r : Int) : Prop := i ≤ r ∧ lynS w r (r + p) ∧ ∀ q, i ≤ q → q < r → ¬ lynS w q (q + p)
theorem fstL_u {w : Int → Int} {i p r r' : Int} (h : fstL w i p r) (h' : fstL w i p r') : r = r' := by
  rcases (by omega : r < r' ∨ r = r' ∨ r' < r) with c | c | c
  · exact absurd h.2.1 (h'.2.2 r h.1 c)
  · exact c
  · exact absurd h'.2.1 (h.2.2 r' h'.1 c)
theorem lr_fst {w : Int → Int} {n i j p : Int} (h : isRun w n i j p) : fstL w i p (i + lrF w i p) ∧ 0 ≤ lrF w i p ∧ lrF w i p < p := by
  have h0 := h.1
  have b := lrN_in (w := w) (i := i) (m := p) (p - 1).toNat
  have mn := lr_min h (p - 1).toNat (by omega)
  unfold lrF
  refine ⟨⟨by omega, run_lyn (fun _ _ => Iff.rfl) h (by omega) (by omega) b.1 (by omega) (fun x x0 x1 x2 => mn x x0 (by omega) x2), fun q q0 q1 z => ?_⟩, b.1, by omega⟩
  have a := mn (q - i) (by omega) (by omega) (by omega)
  rw [show i + (q - i) = q by omega] at a
  obtain ⟨t, t0, t1, t2, t3⟩ := (lyn_SR.mpr z).2 (i + lrN w i p (p - 1).toNat - q) (by omega) (by omega)
  rw [show q + p - q = p by omega] at t1 t2 t3
  have key : ∀ x, 0 ≤ x → x < p → rlet w q p (i + lrN w i p (p - 1).toNat - q) x = w (i + lrN w i p (p - 1).toNat + x) := fun x x0 x1 => by
    unfold rlet
    by_cases c : i + lrN w i p (p - 1).toNat - q + x < p
    · rw [if_pos c, show q + (i + lrN w i p (p - 1).toNat - q + x) = i + lrN w i p (p - 1).toNat + x by omega]
    · rw [if_neg c]
      exact per_cong (q := 1) h.2.1 h0.2.2.1 (by omega) (by omega) (by omega) (by omega) (by omega)
  refine ltw_irr (ltw_tr a ⟨t, t0, t1, fun s s0 s1 => ?_, ?_⟩)
  · have := t2 s s0 s1
    rwa [rl_0 (by omega), key s s0 (by omega)] at this
  · rwa [rl_0 t1, key t t0 t1] at t3
