/-! the class's lists of RUNS: found by rising gaps, then sorted -/
def RlL (i : Nat) : List (Nat × Nat) := [(35, i), (36, i), (37, i), (303, i)]
def RlS (i : Nat) : List (Nat × Nat) := [(35, i), (36, i), (37, i)]
def RLt (m : Int) (f g : Int → Int) : Prop := ∀ k l, 0 ≤ k → k < l → l < m → f k = f l → g k < g l
theorem RLt_d {w : Int → Int} {n m : Int} {f t g : Int → Int} (h : ∀ k, 0 ≤ k → k < m → isRun w n (f k) (t k) (g k)) (ht : RLt m f g) : RLd m f t := fun k l k0 k1 k2 z => by
  have hk := h k k0 (by omega)
  have hl := h l (by omega) k2
  rw [z.1, z.2] at hk
  have := run_same hk hl
  have := ht k l k0 k1 k2 z.1
  omega
def RLq (u : Int → Int) (n m : Int) (f t g : Int → Int) (Q : Int → Int → Prop) (G : Int) : Prop := 0 ≤ m ∧ (∀ k, 0 ≤ k → k < m → isRun u n (f k) (t k) (g k) ∧ g k ≤ G) ∧ (∀ x j q, isRun u n x j q → Q q x → ∃ k, 0 ≤ k ∧ k < m ∧ f k = x ∧ t k = j ∧ g k = q) ∧ RLt m f g
theorem RLq_n {u : Int → Int} {n m : Int} {f t g : Int → Int} {Q : Int → Int → Prop} {G : Int} (h : RLq u n m f t g Q G) (hn : n ≤ 120) : m < 120 := by
  have := runs_few (fun k k0 k1 => (h.2.1 k k0 k1).1) (RLt_d (fun k k0 k1 => (h.2.1 k k0 k1).1) h.2.2.2)
  omega
def fwI (u : Int → Int) (n g a x : Int) : Prop := (0 ≤ a ∧ a ≤ x ∧ x ≤ n - g + 1) ∧ (∀ y, a ≤ y → y < x → y + g < n ∧ u y = u (y + g)) ∧ (a = 0 ∨ u (a - 1) ≠ u (a - 1 + g))
theorem fw_not {u : Int → Int} {n g a x y j : Int} (h : fwI u n g a x) (hm : u x ≠ u (x + g)) (r : isRun u n y j g) (hy : a ≤ y) (hy2 : y ≤ x) : y = a ∧ g ≤ x - a ∧ j = x + g := by
  obtain ⟨⟨h1, h2, h3⟩, h4, h5⟩ := h
  obtain ⟨⟨r1, r2, r3, r4⟩, r5, r6, r7, r8⟩ := r
  have ya : y = a := by
    rcases (by omega : y = a ∨ a < y) with c | c
    · exact c
    · rcases r6 with z | z
      · omega
      · exact absurd (h4 (y - 1) (by omega) (by omega)).2 z
  subst ya
  refine ⟨rfl, ?_, ?_⟩
  · rcases (by omega : g ≤ x - y ∨ x - y < g) with c | c
    · exact c
    · exact absurd (r5 x hy2 (by omega)) hm
  · rcases (by omega : j < x + g ∨ j = x + g ∨ x + g < j) with c | c | c
    · have := h4 (j - g) (by omega) (by omega)
      rw [show j - g + g = j by omega] at this
      rcases r7 with z | z
      · omega
      · exact absurd this.2 z
    · exact c
    · exact absurd (r5 x hy2 c) hm
theorem fw_no {u : Int → Int} {n m G a x : Int} {f t g : Int → Int} (h : RLq u n m f t g (fun q y => q < G ∨ (q = G ∧ y < a)) G) (hI : fwI u n G a x) (hm : u x ≠ u (x + G)) (hs : x - a < G) : RLq u n m f t g (fun q y => q < G ∨ (q = G ∧ y < x + 1)) G := by
  obtain ⟨h1, h2, h3, h4⟩ := h
  refine ⟨h1, h2, fun y j q r hq => ?_, h4⟩
  rcases hq with hq | ⟨hq, hy⟩
  · exact h3 y j q r (Or.inl hq)
  · subst hq
    rcases (by omega : y < a ∨ a ≤ y) with c | c
    · exact h3 y j q r (Or.inr ⟨rfl, c⟩)
    · have := fw_not hI hm r c (by omega)
      omega
theorem fw_run {u : Int → Int} {n G a x : Int} (hG : 1 ≤ G) (hI : fwI u n G a x) (hx : x ≤ n - G) (hm : u x ≠ u (x + G)) (hs : G ≤ x - a) : ∃ p, p ≤ G ∧ isRun u n a (x + G) p := by
  obtain ⟨⟨h1, h2, h3⟩, h4, h5⟩ := hI
  refine run_least ⟨h1, by omega, hG, by omega⟩ (fun y y0 y1 => (h4 y y0 (by omega)).2) h5 (Or.inr ?_)
  rw [show x + G - G = x by omega]
  exact hm
theorem fw_old {u : Int → Int} {n m G a x : Int} {f t g : Int → Int} (h : RLq u n m f t g (fun q y => q < G ∨ (q = G ∧ y < a)) G) (hI : fwI u n G a x) (hm : u x ≠ u (x + G)) (hp : ∃ k, 0 ≤ k ∧ k < m ∧ f k = a ∧ t k = x + G) : RLq u n m f t g (fun q y => q < G ∨ (q = G ∧ y < x + 1)) G := by
  obtain ⟨h1, h2, h3, h4⟩ := h
  refine ⟨h1, h2, fun y j q r hq => ?_, h4⟩
  rcases hq with hq | ⟨hq, hy⟩
  · exact h3 y j q r (Or.inl hq)
  · subst hq
    rcases (by omega : y < a ∨ a ≤ y) with c | c
    · exact h3 y j q r (Or.inr ⟨rfl, c⟩)
    · obtain ⟨e1, e2, e3⟩ := fw_not hI hm r c (by omega)
      obtain ⟨k, k0, k1, k2, k3⟩ := hp
      have rk := (h2 k k0 k1).1
      rw [k2, k3] at rk
      rw [e1, e3] at r
      exact ⟨k, k0, k1, by omega, by omega, run_same rk r⟩
theorem fw_new {u : Int → Int} {n m m' G a x : Int} {f t g f' t' g' : Int → Int} (hG : 1 ≤ G) (h : RLq u n m f t g (fun q y => q < G ∨ (q = G ∧ y < a)) G) (hI : fwI u n G a x) (hx : x ≤ n - G) (hm : u x ≠ u (x + G)) (hs : G ≤ x - a) (hp : ¬ ∃ k, 0 ≤ k ∧ k < m ∧ f k = a ∧ t k = x + G) (e0 : m' = m + 1) (e1 : ∀ k, f' k = if k = m then a else f k) (e2 : ∀ k, t' k = if k = m then x + G else t k) (e3 : ∀ k, g' k = if k = m then G else g k) : RLq u n m' f' t' g' (fun q y => q < G ∨ (q = G ∧ y < x + 1)) G := by
  obtain ⟨p, p0, p1⟩ := fw_run hG hI hx hm hs
  obtain ⟨h1, h2, h3, h4⟩ := h
  have pG : p = G := by
    rcases (by omega : p < G ∨ p = G) with c | c
    · obtain ⟨k, k0, k1, k2, k3, k4⟩ := h3 _ _ _ p1 (Or.inl c)
      exact absurd ⟨k, k0, k1, k2, k3⟩ hp
    · exact c
  subst pG
  subst e0
  have old : ∀ k, k ≠ m → f' k = f k ∧ t' k = t k ∧ g' k = g k := fun k hk => by rw [e1, e2, e3, if_neg hk, if_neg hk, if_neg hk]; exact ⟨rfl, rfl, rfl⟩
  have new : f' m = a ∧ t' m = x + p ∧ g' m = p := by rw [e1, e2, e3, if_pos rfl, if_pos rfl, if_pos rfl]; exact ⟨rfl, rfl, rfl⟩
  refine ⟨by omega, fun k k0 k1 => ?_, fun y j q r hq => ?_, fun k l k0 k1 k2 hf => ?_⟩
  · rcases (by omega : k < m ∨ k = m) with c | c
    · obtain ⟨o1, o2, o3⟩ := old k (by omega)
      rw [o1, o2, o3]
      exact h2 k k0 c
    · rw [c, new.1, new.2.1, new.2.2]
      exact ⟨p1, Int.le_refl _⟩
  · have fo : (q < p ∨ (q = p ∧ y < a)) → ∃ k, 0 ≤ k ∧ k < m + 1 ∧ f' k = y ∧ t' k = j ∧ g' k = q := fun z => by
      obtain ⟨k, k0, k1, k2, k3, k4⟩ := h3 y j q r z
      obtain ⟨o1, o2, o3⟩ := old k (by omega)
      exact ⟨k, k0, by omega, o1.trans k2, o2.trans k3, o3.trans k4⟩
    rcases hq with hq | ⟨hq, hy⟩
    · exact fo (Or.inl hq)
    · rcases (by omega : y < a ∨ a ≤ y) with c | c
      · exact fo (Or.inr ⟨hq, c⟩)
      · rw [hq] at r
        obtain ⟨z1, z2, z3⟩ := fw_not hI hm r c (by omega)
        exact ⟨m, h1, by omega, by rw [new.1, z1], by rw [new.2.1, z3], by rw [new.2.2, hq]⟩
  · rcases (by omega : l < m ∨ l = m) with c | c
    · obtain ⟨o1, o2, o3⟩ := old k (by omega)
      obtain ⟨q1, q2, q3⟩ := old l (by omega)
      rw [o1, q1] at hf
      rw [o3, q3]
      exact h4 k l k0 k1 c hf
    · obtain ⟨o1, o2, o3⟩ := old k (by omega)
      rw [c, o1, new.1] at hf
      rw [c, o3, new.2.2]
      obtain ⟨r1, r2⟩ := h2 k k0 (by omega)
      rcases (by omega : g k < p ∨ g k = p) with d | d
      · exact d
      · rw [hf, d] at r1
        exact absurd ⟨k, k0, by omega, hf, run_end r1 p1⟩ hp
def inS (m : Int) (f t g : Int → Int) (a b c : Int) : Prop := ∃ k, 0 ≤ k ∧ k < m ∧ f k = a ∧ t k = b ∧ g k = c
theorem RL_set {u : Int → Int} {n m : Int} {f t g f' t' g' : Int → Int} (h : RL u n m f t g) (hs : ∀ a b c, inS m f' t' g' a b c ↔ inS m f t g a b c) : RL u n m f' t' g' := by
  obtain ⟨h1, h2, h3⟩ := h
  refine ⟨h1, fun k k0 k1 => ?_, fun i j p r => (hs i j p).mpr (h3 i j p r)⟩
  obtain ⟨l, l0, l1, l2, l3, l4⟩ := (hs (f' k) (t' k) (g' k)).mp ⟨k, k0, k1, rfl, rfl, rfl⟩
  have := h2 l l0 l1
  rwa [l2, l3, l4] at this
/-- sorting: the first k stand in order; one is on its way down, it has come to x -/
def srO (m : Int) (f t g : Int → Int) (k : Int) (S : Int → Int → Int → Prop) : Prop := (∀ a b c, inS m f t g a b c ↔ S a b c) ∧ RLs k f g ∧ (∀ y l, 0 ≤ y → y < l → k ≤ l → l < m → f y = f l → g y < g l)
def srI (m : Int) (f t g : Int → Int) (k x a b c : Int) (S : Int → Int → Int → Prop) : Prop := (∀ a' b' c', ((∃ y, 0 ≤ y ∧ y < m ∧ y ≠ x ∧ f y = a' ∧ t y = b' ∧ g y = c') ∨ (a = a' ∧ b = b' ∧ c = c')) ↔ S a' b' c') ∧ (∀ y z, 0 ≤ y → y < z → z ≤ k → y ≠ x → z ≠ x → f y < f z ∨ (f y = f z ∧ g y < g z)) ∧ (∀ y, x < y → y ≤ k → a < f y) ∧ (∀ y, 0 ≤ y → y < x → f y = a → g y < c) ∧ (∀ y l, 0 ≤ y → y < l → k < l → l < m → y ≠ x → f y = f l → g y < g l) ∧ (∀ l, k < l → l < m → a = f l → c < g l)
theorem sr_in {m k : Int} {f t g : Int → Int} {S : Int → Int → Int → Prop} (h : srO m f t g k S) (hk : 1 ≤ k) (hm : k < m) : srI m f t g k k (f k) (t k) (g k) S := by
  obtain ⟨h1, h2, h3⟩ := h
  refine ⟨fun a' b' c' => ⟨fun z => (h1 _ _ _).mp ?_, fun z => ?_⟩, fun y z y0 y1 y2 y3 y4 => h2 y z y0 y1 (by omega), fun y y0 y1 => by omega, fun y y0 y1 y2 => h3 y k y0 y1 (Int.le_refl _) hm y2, fun y l y0 y1 y2 y3 y4 y5 => h3 y l y0 y1 (by omega) y3 y5, fun l l0 l1 l2 => h3 k l (by omega) l0 (by omega) l1 l2⟩
  · rcases z with ⟨y, y0, y1, y2, y3⟩ | ⟨z1, z2, z3⟩
    · exact ⟨y, y0, y1, y3⟩
    · exact ⟨k, by omega, hm, z1, z2, z3⟩
  · obtain ⟨y, y0, y1, y2, y3, y4⟩ := (h1 _ _ _).mpr z
    by_cases c : y = k
    · subst c; exact Or.inr ⟨y2, y3, y4⟩
    · exact Or.inl ⟨y, y0, y1, c, y2, y3, y4⟩
theorem sr_step {m k x a b c : Int} {f t g f' t' g' : Int → Int} {S : Int → Int → Int → Prop} (h : srI m f t g k x a b c S) (hx : 0 < x) (hxk : x ≤ k) (hm : k < m) (ha : a < f (x - 1)) (e1 : ∀ y, f' y = if y = x then f (x - 1) else f y) (e2 : ∀ y, t' y = if y = x then t (x - 1) else t y) (e3 : ∀ y, g' y = if y = x then g (x - 1) else g y) : srI m f' t' g' k (x - 1) a b c S := by
  obtain ⟨h1, h2, h3, h4, h5, h6⟩ := h
  have old : ∀ y, y ≠ x → f' y = f y ∧ t' y = t y ∧ g' y = g y := fun y hy => by rw [e1, e2, e3, if_neg hy, if_neg hy, if_neg hy]; exact ⟨rfl, rfl, rfl⟩
  have new : f' x = f (x - 1) ∧ t' x = t (x - 1) ∧ g' x = g (x - 1) := by rw [e1, e2, e3, if_pos rfl, if_pos rfl, if_pos rfl]; exact ⟨rfl, rfl, rfl⟩
  refine ⟨fun a' b' c' => Iff.trans ⟨fun z => ?_, fun z => ?_⟩ (h1 a' b' c'), fun y z y0 y1 y2 y3 y4 => ?_, fun y y0 y1 => ?_, fun y y0 y1 y2 => ?_, fun y l y0 y1 y2 y3 y4 y5 => ?_, fun l l0 l1 l2 => ?_⟩
  · rcases z with ⟨y, y0, y1, y2, y3, y4, y5⟩ | z
    · by_cases d : y = x
      · subst d
        rw [new.1] at y3; rw [new.2.1] at y4; rw [new.2.2] at y5
        exact Or.inl ⟨y - 1, by omega, by omega, by omega, y3, y4, y5⟩
      · obtain ⟨o1, o2, o3⟩ := old y d
        rw [o1] at y3; rw [o2] at y4; rw [o3] at y5
        exact Or.inl ⟨y, y0, y1, d, y3, y4, y5⟩
    · exact Or.inr z
  · rcases z with ⟨y, y0, y1, y2, y3, y4, y5⟩ | z
    · by_cases d : y = x - 1
      · subst d
        exact Or.inl ⟨x, by omega, by omega, by omega, by rw [new.1, y3], by rw [new.2.1, y4], by rw [new.2.2, y5]⟩
      · obtain ⟨o1, o2, o3⟩ := old y y2
        exact Or.inl ⟨y, y0, y1, d, by rw [o1, y3], by rw [o2, y4], by rw [o3, y5]⟩
    · exact Or.inr z
  · by_cases d : z = x
    · obtain ⟨o1, o2, o3⟩ := old y (by omega)
      rw [d, new.1, new.2.2, o1, o3]
      exact h2 y (x - 1) y0 (by omega) (by omega) (by omega) (by omega)
    · obtain ⟨o1, o2, o3⟩ := old z d
      by_cases q : y = x
      · rw [q, new.1, new.2.2, o1, o3]
        exact h2 (x - 1) z (by omega) (by omega) y2 (by omega) d
      · obtain ⟨q1, q2, q3⟩ := old y q
        rw [o1, o3, q1, q3]
        exact h2 y z y0 y1 y2 q d
  · by_cases d : y = x
    · rw [d, new.1]; exact ha
    · rw [(old y d).1]; exact h3 y (by omega) y1
  · rw [(old y (by omega)).1] at y2
    rw [(old y (by omega)).2.2]
    exact h4 y y0 (by omega) y2
  · rw [(old l (by omega)).1] at y5
    rw [(old l (by omega)).2.2]
    by_cases d : y = x
    · rw [d, new.1] at y5
      rw [d, new.2.2]
      exact h5 (x - 1) l (by omega) (by omega) y2 y3 (by omega) y5
    · rw [(old y d).1] at y5
      rw [(old y d).2.2]
      exact h5 y l y0 y1 y2 y3 d y5
  · rw [(old l (by omega)).1] at l2
    rw [(old l (by omega)).2.2]
    exact h6 l l0 l1 l2
theorem sr_out {m k x a b c : Int} {f t g f' t' g' : Int → Int} {S : Int → Int → Int → Prop} (h : srI m f t g k x a b c S) (hx : 0 ≤ x) (hxk : x ≤ k) (hm : k < m) (ha : x = 0 ∨ f (x - 1) ≤ a) (e1 : ∀ y, f' y = if y = x then a else f y) (e2 : ∀ y, t' y = if y = x then b else t y) (e3 : ∀ y, g' y = if y = x then c else g y) : srO m f' t' g' (k + 1) S := by
  obtain ⟨h1, h2, h3, h4, h5, h6⟩ := h
  have old : ∀ y, y ≠ x → f' y = f y ∧ t' y = t y ∧ g' y = g y := fun y hy => by rw [e1, e2, e3, if_neg hy, if_neg hy, if_neg hy]; exact ⟨rfl, rfl, rfl⟩
  have new : f' x = a ∧ t' x = b ∧ g' x = c := by rw [e1, e2, e3, if_pos rfl, if_pos rfl, if_pos rfl]; exact ⟨rfl, rfl, rfl⟩
  refine ⟨fun a' b' c' => Iff.trans ⟨fun z => ?_, fun z => ?_⟩ (h1 a' b' c'), fun y z y0 y1 y2 => ?_, fun y l y0 y1 y2 y3 y4 => ?_⟩
  · obtain ⟨y, y0, y1, y3, y4, y5⟩ := z
    by_cases d : y = x
    · subst d
      rw [new.1] at y3; rw [new.2.1] at y4; rw [new.2.2] at y5
      exact Or.inr ⟨y3, y4, y5⟩
    · obtain ⟨o1, o2, o3⟩ := old y d
      rw [o1] at y3; rw [o2] at y4; rw [o3] at y5
      exact Or.inl ⟨y, y0, y1, d, y3, y4, y5⟩
  · rcases z with ⟨y, y0, y1, y2, y3, y4, y5⟩ | ⟨z1, z2, z3⟩
    · obtain ⟨o1, o2, o3⟩ := old y y2
      exact ⟨y, y0, y1, by rw [o1, y3], by rw [o2, y4], by rw [o3, y5]⟩
    · exact ⟨x, hx, by omega, by rw [new.1, z1], by rw [new.2.1, z2], by rw [new.2.2, z3]⟩
  · by_cases d : z = x
    · obtain ⟨o1, o2, o3⟩ := old y (by omega)
      rw [d, new.1, new.2.2, o1, o3]
      have le : f y ≤ a := by
        rcases ha with ha | ha
        · omega
        · rcases (by omega : y = x - 1 ∨ y < x - 1) with q | q
          · rw [q]; exact ha
          · have := h2 y (x - 1) y0 q (by omega) (by omega) (by omega)
            omega
      rcases (by omega : f y < a ∨ f y = a) with q | q
      · exact Or.inl q
      · exact Or.inr ⟨q, h4 y y0 (by omega) q⟩
    · obtain ⟨o1, o2, o3⟩ := old z d
      by_cases q : y = x
      · rw [q, new.1, new.2.2, o1, o3]
        exact Or.inl (h3 z (by omega) (by omega))
      · obtain ⟨q1, q2, q3⟩ := old y q
        rw [o1, o3, q1, q3]
        exact h2 y z y0 y1 (by omega) q d
  · rw [(old l (by omega)).1] at y4
    rw [(old l (by omega)).2.2]
    by_cases d : y = x
    · rw [d, new.1] at y4
      rw [d, new.2.2]
      exact h6 l (by omega) y3 y4
    · rw [(old y d).1] at y4
      rw [(old y d).2.2]
      exact h5 y l y0 y1 (by omega) y3 d y4
def S_Rl_size : GS := fun as σ K => match as with
  | [some (.inr (.inr (5, i)))] => K (vI (σ 303 i 0)) σ
  | _ => False
def VE_Rl_size (i : Nat) (σ : SS) (K : AV → SS → Prop) : Prop :=
  (K (vI (σ 303 i 0)) σ)
theorem e_Rl_size (i : Nat) (σ : SS) (K : AV → SS → Prop) (hi : i < 2) (hs : okS σ) (hG : S_Rl_size [vR 5 i] σ K) : VE_Rl_size i σ K := by
  unfold VE_Rl_size
  exact hG
theorem H_Rl_size {d : Nat} (hd : 1 ≤ d) : Holds d I_Rl_size S_Rl_size := by
  refine holds_of (d' := d - 1) (rt := 1) (cal := []) (C := C_Rl_size) m_Rl_size o_Rl_size rfl rfl (by omega) ?_ ?_
  · intro x hx
    cases hx
  · intro as σ K has hσ hG
    have hG2 := hG
    unfold S_Rl_size at hG2
    split at hG2
    · next i =>
      refine ⟨Nat.le_of_ble_eq_true rfl, (fun _ => none), ?_, 1000, ?_⟩
      · intro k n z L σ' hk hL hs hP
        cases hk
      · exact e_Rl_size i σ K (has _ (List.mem_of_getElem? (i := 0) rfl)) hσ hG
    · exact hG2.elim
def S_Rl_from : GS := fun as σ K => match as with
  | [some (.inr (.inr (5, i))), some (.inl a1)] => (0 ≤ a1 ∧ a1 < σ 303 i 0 ∧ σ 303 i 0 ≤ 120) ∧ K (vI (σ 35 i a1)) σ
  | _ => False
def VE_Rl_from (i : Nat) (a1 : Int) (σ : SS) (K : AV → SS → Prop) : Prop :=
  ((a1 < 0 →
    (K (vI 0) σ)) ∧
  ((0 : Int) ≤ a1 →
    (((σ 303 i 0) ≤ a1 →
      (K (vI 0) σ)) ∧
    (a1 < (σ 303 i 0) →
      ((0 ≤ (a1 : Int) ∧ (a1 : Int) < 120) ∧
      (K (vI (σ 35 i a1)) σ))))))
theorem e_Rl_from (i : Nat) (a1 : Int) (σ : SS) (K : AV → SS → Prop) (hi : i < 2) (ha1 : InR a1) (hs : okS σ) (hG : S_Rl_from [vR 5 i, vI a1] σ K) : VE_Rl_from i a1 σ K := by
  unfold VE_Rl_from
  obtain ⟨h1, hG⟩ := hG
  refine ⟨fun c1 => ?_, fun c1 => ?_⟩
  · skip
    first | exact hG | exact absurd h1 (by omega)
  · skip
    refine ⟨fun c2 => ?_, fun c2 => ?_⟩
    · skip
      first | exact hG | exact absurd h1 (by omega)
    · skip
      refine ⟨(by omega), ?_⟩
      first | exact hG | exact absurd h1 (by omega)
theorem H_Rl_from {d : Nat} (hd : 1 ≤ d) : Holds d I_Rl_from S_Rl_from := by
  refine holds_of (d' := d - 1) (rt := 1) (cal := []) (C := C_Rl_from) m_Rl_from o_Rl_from rfl rfl (by omega) ?_ ?_
  · intro x hx
    cases hx
  · intro as σ K has hσ hG
    have hG2 := hG
    unfold S_Rl_from at hG2
    split at hG2
    · next i a1 =>
      refine ⟨Nat.le_of_ble_eq_true rfl, (fun _ => none), ?_, 1000, ?_⟩
      · intro k n z L σ' hk hL hs hP
        cases hk
      · exact e_Rl_from i a1 σ K (has _ (List.mem_of_getElem? (i := 0) rfl)) (has _ (List.mem_of_getElem? (i := 1) rfl)) hσ hG
    · exact hG2.elim
def S_Rl_to : GS := fun as σ K => match as with
  | [some (.inr (.inr (5, i))), some (.inl a1)] => (0 ≤ a1 ∧ a1 < σ 303 i 0 ∧ σ 303 i 0 ≤ 120) ∧ K (vI (σ 36 i a1)) σ
  | _ => False
def VE_Rl_to (i : Nat) (a1 : Int) (σ : SS) (K : AV → SS → Prop) : Prop :=
  ((a1 < 0 →
    (K (vI 0) σ)) ∧
  ((0 : Int) ≤ a1 →
    (((σ 303 i 0) ≤ a1 →
      (K (vI 0) σ)) ∧
    (a1 < (σ 303 i 0) →
      ((0 ≤ (a1 : Int) ∧ (a1 : Int) < 120) ∧
      (K (vI (σ 36 i a1)) σ))))))
theorem e_Rl_to (i : Nat) (a1 : Int) (σ : SS) (K : AV → SS → Prop) (hi : i < 2) (ha1 : InR a1) (hs : okS σ) (hG : S_Rl_to [vR 5 i, vI a1] σ K) : VE_Rl_to i a1 σ K := by
  unfold VE_Rl_to
  obtain ⟨h1, hG⟩ := hG
  refine ⟨fun c1 => ?_, fun c1 => ?_⟩
  · skip
    first | exact hG | exact absurd h1 (by omega)
  · skip
    refine ⟨fun c2 => ?_, fun c2 => ?_⟩
    · skip
      first | exact hG | exact absurd h1 (by omega)
    · skip
      refine ⟨(by omega), ?_⟩
      first | exact hG | exact absurd h1 (by omega)
theorem H_Rl_to {d : Nat} (hd : 1 ≤ d) : Holds d I_Rl_to S_Rl_to := by
  refine holds_of (d' := d - 1) (rt := 1) (cal := []) (C := C_Rl_to) m_Rl_to o_Rl_to rfl rfl (by omega) ?_ ?_
  · intro x hx
    cases hx
  · intro as σ K has hσ hG
    have hG2 := hG
    unfold S_Rl_to at hG2
    split at hG2
    · next i a1 =>
      refine ⟨Nat.le_of_ble_eq_true rfl, (fun _ => none), ?_, 1000, ?_⟩
      · intro k n z L σ' hk hL hs hP
        cases hk
      · exact e_Rl_to i a1 σ K (has _ (List.mem_of_getElem? (i := 0) rfl)) (has _ (List.mem_of_getElem? (i := 1) rfl)) hσ hG
    · exact hG2.elim
def S_Rl_gap : GS := fun as σ K => match as with
  | [some (.inr (.inr (5, i))), some (.inl a1)] => (0 ≤ a1 ∧ a1 < σ 303 i 0 ∧ σ 303 i 0 ≤ 120) ∧ K (vI (σ 37 i a1)) σ
  | _ => False
def VE_Rl_gap (i : Nat) (a1 : Int) (σ : SS) (K : AV → SS → Prop) : Prop :=
  ((a1 < 0 →
    (K (vI 1) σ)) ∧
  ((0 : Int) ≤ a1 →
    (((σ 303 i 0) ≤ a1 →
      (K (vI 1) σ)) ∧
    (a1 < (σ 303 i 0) →
      ((0 ≤ (a1 : Int) ∧ (a1 : Int) < 120) ∧
      (K (vI (σ 37 i a1)) σ))))))
theorem e_Rl_gap (i : Nat) (a1 : Int) (σ : SS) (K : AV → SS → Prop) (hi : i < 2) (ha1 : InR a1) (hs : okS σ) (hG : S_Rl_gap [vR 5 i, vI a1] σ K) : VE_Rl_gap i a1 σ K := by
  unfold VE_Rl_gap
  obtain ⟨h1, hG⟩ := hG
  refine ⟨fun c1 => ?_, fun c1 => ?_⟩
  · skip
    first | exact hG | exact absurd h1 (by omega)
  · skip
    refine ⟨fun c2 => ?_, fun c2 => ?_⟩
    · skip
      first | exact hG | exact absurd h1 (by omega)
    · skip
      refine ⟨(by omega), ?_⟩
      first | exact hG | exact absurd h1 (by omega)
theorem H_Rl_gap {d : Nat} (hd : 1 ≤ d) : Holds d I_Rl_gap S_Rl_gap := by
  refine holds_of (d' := d - 1) (rt := 1) (cal := []) (C := C_Rl_gap) m_Rl_gap o_Rl_gap rfl rfl (by omega) ?_ ?_
  · intro x hx
    cases hx
  · intro as σ K has hσ hG
    have hG2 := hG
    unfold S_Rl_gap at hG2
    split at hG2
    · next i a1 =>
      refine ⟨Nat.le_of_ble_eq_true rfl, (fun _ => none), ?_, 1000, ?_⟩
      · intro k n z L σ' hk hL hs hP
        cases hk
      · exact e_Rl_gap i a1 σ K (has _ (List.mem_of_getElem? (i := 0) rfl)) (has _ (List.mem_of_getElem? (i := 1) rfl)) hσ hG
    · exact hG2.elim
def S_Rl_thousandths : GS := fun as σ K => match as with
  | [some (.inr (.inr (5, i))), some (.inl a1)] => ((0 ≤ a1 ∧ a1 < σ 303 i 0 ∧ σ 303 i 0 ≤ 120) ∧ 0 ≤ σ 36 i a1 - σ 35 i a1 ∧ σ 36 i a1 - σ 35 i a1 ≤ 120 ∧ 1 ≤ σ 37 i a1) ∧ K (vI (Int.tdiv ((σ 36 i a1 - σ 35 i a1) * 1000) (σ 37 i a1))) σ
  | _ => False
def VE_Rl_thousandths (i : Nat) (a1 : Int) (σ : SS) (K : AV → SS → Prop) : Prop :=
  (S_Rl_to [vR 5 i, vI a1] σ (kI fun r1 σ1 =>
    (S_Rl_from [vR 5 i, vI a1] σ1 (kI fun r2 σ2 =>
      (InR (r1 - r2) ∧
      (InR ((r1 - r2) * 1000) ∧
      (S_Rl_gap [vR 5 i, vI a1] σ2 (kI fun r3 σ3 =>
        (((max 1 r3 : Int) ≠ 0 ∧ InR (Int.tdiv ((r1 - r2) * 1000) (max 1 r3))) ∧
        (K (vI (Int.tdiv ((r1 - r2) * 1000) (max 1 r3))) σ3))))))))))
theorem e_Rl_thousandths (i : Nat) (a1 : Int) (σ : SS) (K : AV → SS → Prop) (hi : i < 2) (ha1 : InR a1) (hs : okS σ) (hG : S_Rl_thousandths [vR 5 i, vI a1] σ K) : VE_Rl_thousandths i a1 σ K := by
  unfold VE_Rl_thousandths
  obtain ⟨⟨h1, h2, h3, h4⟩, hG⟩ := hG
  have td := tdiv_in (a := (σ 36 i a1 - σ 35 i a1) * 1000) (b := σ 37 i a1) (by omega) (by omega) h4
  refine ⟨(by exact h1), ?_⟩
  intro _ _
  refine ⟨(by exact h1), ?_⟩
  intro _ _
  refine ⟨(by omega), ?_⟩
  refine ⟨(by omega), ?_⟩
  refine ⟨(by exact h1), ?_⟩
  intro _ _
  rw [show max 1 (σ 37 i a1) = σ 37 i a1 by omega]
  refine ⟨(by exact ⟨by omega, td⟩), ?_⟩
  exact hG
theorem H_Rl_thousandths {d : Nat} (hd : 2 ≤ d) : Holds d I_Rl_thousandths S_Rl_thousandths := by
  refine holds_of (d' := d - 1) (rt := 1) (cal := [(I_Rl_to, S_Rl_to), (I_Rl_from, S_Rl_from), (I_Rl_gap, S_Rl_gap)]) (C := C_Rl_thousandths) m_Rl_thousandths o_Rl_thousandths rfl rfl (by omega) ?_ ?_
  · intro x hx
    simp only [List.mem_cons, List.not_mem_nil, or_false] at hx
    rcases hx with rfl | rfl | rfl
    · exact H_Rl_to (by omega)
    · exact H_Rl_from (by omega)
    · exact H_Rl_gap (by omega)
  · intro as σ K has hσ hG
    have hG2 := hG
    unfold S_Rl_thousandths at hG2
    split at hG2
    · next i a1 =>
      refine ⟨Nat.le_of_ble_eq_true rfl, (fun _ => none), ?_, 1000, ?_⟩
      · intro k n z L σ' hk hL hs hP
        cases hk
      · exact e_Rl_thousandths i a1 σ K (has _ (List.mem_of_getElem? (i := 0) rfl)) (has _ (List.mem_of_getElem? (i := 1) rfl)) hσ hG
    · exact hG2.elim
def S_Rl_allThousandths : GS := fun as σ K => match as with
  | [some (.inr (.inr (5, i)))] => ((0 ≤ σ 303 i 0 ∧ σ 303 i 0 ≤ 120) ∧ ∀ k, 0 ≤ k → k < σ 303 i 0 → 0 ≤ σ 36 i k - σ 35 i k ∧ σ 36 i k - σ 35 i k ≤ 120 ∧ 1 ≤ σ 37 i k) ∧ K (vI (sumZ (fun k => Int.tdiv ((σ 36 i k - σ 35 i k) * 1000) (σ 37 i k)) 0 (σ 303 i 0))) σ
  | _ => False
abbrev Lp_Rl_allThousandths_4 (i : Nat) (σ0 : SS) (n : Nat) (L : List AV) (σ : SS) : Prop := ∃ (v1 : Int) (v2 : Int), L = [vR 5 i, vI v1, vI v2] ∧ n = (1000 - v2).toNat ∧ ((σ = σ0) ∧ (0 ≤ v2 ∧ v2 ≤ σ0 303 i 0) ∧ (v1 = sumZ (fun k => Int.tdiv ((σ0 36 i k - σ0 35 i k) * 1000) (σ0 37 i k)) 0 v2))
def Iv_Rl_allThousandths (i : Nat) (σ0 : SS) (k : Nat) : Option (List Nat × (Nat → List AV → SS → Prop)) := match k with
  | 4 => some ([], Lp_Rl_allThousandths_4 i σ0)
  | _ => none
def VE_Rl_allThousandths (i : Nat) (σ : SS) (K : AV → SS → Prop) : Prop :=
  (∃ n', Lp_Rl_allThousandths_4 i σ n' [vR 5 i, vI 0, vI 0] σ)
def VL_Rl_allThousandths_4 (i : Nat) (σ0 : SS) (K : AV → SS → Prop) (v1 : Int) (v2 : Int) (σ : SS) (n : Nat) : Prop :=
  (((σ 303 i 0) ≤ v2 →
    (K (vI v1) σ)) ∧
  (v2 < (σ 303 i 0) →
    (S_Rl_thousandths [vR 5 i, vI v2] σ (kI fun r1 σ1 =>
      (InR (v1 + r1) ∧
      (InR (v2 + 1) ∧
      (∃ n', n' < n ∧ Lp_Rl_allThousandths_4 i σ0 n' [vR 5 i, vI (v1 + r1), vI (v2 + 1)] σ1)))))))
theorem l_Rl_allThousandths_4 (i : Nat) (σ0 : SS) (K : AV → SS → Prop) (hi : i < 2) (hs0 : okS σ0) (hG : S_Rl_allThousandths [vR 5 i] σ0 K) (v1 : Int) (v2 : Int) (σ : SS) (hv1 : InR v1) (hv2 : InR v2) (hs : okS σ) (n : Nat) (hn : n = (1000 - v2).toNat) (hQ : (σ = σ0) ∧ (0 ≤ v2 ∧ v2 ≤ σ0 303 i 0) ∧ (v1 = sumZ (fun k => Int.tdiv ((σ0 36 i k - σ0 35 i k) * 1000) (σ0 37 i k)) 0 v2)) : VL_Rl_allThousandths_4 i σ0 K v1 v2 σ n := by
  unfold VL_Rl_allThousandths_4
  obtain ⟨⟨h1, h2⟩, hG⟩ := hG
  obtain ⟨rfl, q1, q2⟩ := hQ
  have tb : ∀ k, 0 ≤ k → k < σ 303 i 0 → 0 ≤ Int.tdiv ((σ 36 i k - σ 35 i k) * 1000) (σ 37 i k) ∧ Int.tdiv ((σ 36 i k - σ 35 i k) * 1000) (σ 37 i k) ≤ 120000 := fun k k0 k1 => by
    obtain ⟨b1, b2, b3⟩ := h2 k k0 k1
    have x1 := Int.tdiv_nonneg (a := (σ 36 i k - σ 35 i k) * 1000) (b := σ 37 i k) (by omega) (by omega)
    have x2 := Int.tdiv_le_self (a := (σ 36 i k - σ 35 i k) * 1000) (σ 37 i k) (by omega)
    omega
  have sb := sumZ_le (f := fun k => Int.tdiv ((σ 36 i k - σ 35 i k) * 1000) (σ 37 i k)) (c := 120000) (a := 0) (b := v2) (by omega) (fun k k0 k1 => tb k k0 (by omega))
  refine ⟨fun c1 => ?_, fun c1 => ?_⟩
  · skip
    rw [q2, show v2 = σ 303 i 0 by omega]; exact hG
  · skip
    refine ⟨(by exact ⟨⟨q1.1, by omega, h1.2⟩, h2 v2 q1.1 (by omega)⟩), ?_⟩
    intro _ _
    have tv := tb v2 q1.1 (by omega)
    refine ⟨(by omega), ?_⟩
    refine ⟨(by omega), ?_⟩
    refine ⟨_, ?_, _, _, rfl, rfl, ?_⟩
    · omega
    · refine ⟨?_, ?_, ?_⟩
      · first | rfl | assumption | omega
      · first | rfl | assumption | omega
      · rw [sumZ_succ q1.1, ← q2]
theorem e_Rl_allThousandths (i : Nat) (σ : SS) (K : AV → SS → Prop) (hi : i < 2) (hs : okS σ) (hG : S_Rl_allThousandths [vR 5 i] σ K) : VE_Rl_allThousandths i σ K := by
  unfold VE_Rl_allThousandths
  obtain ⟨⟨h1, h2⟩, hG⟩ := hG
  refine ⟨_, _, _, rfl, rfl, ?_⟩
  refine ⟨?_, ?_, ?_⟩
  · first | rfl | assumption | omega
  · first | rfl | assumption | omega
  · exact (sumZ_nil (by omega)).symm
theorem H_Rl_allThousandths {d : Nat} (hd : 3 ≤ d) : Holds d I_Rl_allThousandths S_Rl_allThousandths := by
  refine holds_of (d' := d - 1) (rt := 1) (cal := [(I_Rl_thousandths, S_Rl_thousandths)]) (C := C_Rl_allThousandths) m_Rl_allThousandths o_Rl_allThousandths rfl rfl (by omega) ?_ ?_
  · intro x hx
    simp only [List.mem_cons, List.not_mem_nil, or_false] at hx
    subst hx
    exact H_Rl_thousandths (by omega)
  · intro as σ K has hσ hG
    have hG2 := hG
    unfold S_Rl_allThousandths at hG2
    split at hG2
    · next i =>
      refine ⟨Nat.le_of_ble_eq_true rfl, (Iv_Rl_allThousandths i σ), ?_, 1000, ?_⟩
      · intro k n z L σ' hk hL hs hP
        unfold Iv_Rl_allThousandths at hk
        split at hk
        · cases hk
          obtain ⟨v1, v2, rfl, hn, hQ⟩ := hP
          exact ⟨1000, l_Rl_allThousandths_4 i σ K (has _ (List.mem_of_getElem? (i := 0) rfl)) hσ hG v1 v2 σ' (hL _ (List.mem_of_getElem? (i := 1) rfl)) (hL _ (List.mem_of_getElem? (i := 2) rfl)) hs n hn hQ⟩
        · cases hk
      · exact e_Rl_allThousandths i σ K (has _ (List.mem_of_getElem? (i := 0) rfl)) hσ hG
    · exact hG2.elim
def S_Rl_over : GS := fun as σ K => match as with
  | [some (.inr (.inr (5, i))), some (.inl a1)] => (0 ≤ σ 303 i 0 ∧ σ 303 i 0 ≤ 120) ∧ K (vI (cntZ (fun k => σ 35 i k ≤ a1 ∧ a1 < σ 36 i k) 0 (σ 303 i 0))) σ
  | _ => False
abbrev Lp_Rl_over_4 (i : Nat) (a1 : Int) (σ0 : SS) (n : Nat) (L : List AV) (σ : SS) : Prop := ∃ (v2 : Int) (v3 : Int), L = [vR 5 i, vI a1, vI v2, vI v3] ∧ n = (1000 - v3).toNat ∧ ((σ = σ0) ∧ (0 ≤ v3 ∧ v3 ≤ σ0 303 i 0) ∧ (v2 = cntZ (fun k => σ0 35 i k ≤ a1 ∧ a1 < σ0 36 i k) 0 v3))
def Iv_Rl_over (i : Nat) (a1 : Int) (σ0 : SS) (k : Nat) : Option (List Nat × (Nat → List AV → SS → Prop)) := match k with
  | 4 => some ([], Lp_Rl_over_4 i a1 σ0)
  | _ => none
def VE_Rl_over (i : Nat) (a1 : Int) (σ : SS) (K : AV → SS → Prop) : Prop :=
  (∃ n', Lp_Rl_over_4 i a1 σ n' [vR 5 i, vI a1, vI 0, vI 0] σ)
def VL_Rl_over_4 (i : Nat) (a1 : Int) (σ0 : SS) (K : AV → SS → Prop) (v2 : Int) (v3 : Int) (σ : SS) (n : Nat) : Prop :=
  (((σ 303 i 0) ≤ v3 →
    (K (vI v2) σ)) ∧
  (v3 < (σ 303 i 0) →
    (S_Rl_from [vR 5 i, vI v3] σ (kI fun r1 σ1 =>
      ((a1 < r1 →
        (InR (v2 + 0) ∧
        (InR (v3 + 1) ∧
        (∃ n', n' < n ∧ Lp_Rl_over_4 i a1 σ0 n' [vR 5 i, vI a1, vI (v2 + 0), vI (v3 + 1)] σ1)))) ∧
      (r1 ≤ a1 →
        (S_Rl_to [vR 5 i, vI v3] σ1 (kI fun r2 σ2 =>
          ((r2 ≤ a1 →
            (InR (v2 + 0) ∧
            (InR (v3 + 1) ∧
            (∃ n', n' < n ∧ Lp_Rl_over_4 i a1 σ0 n' [vR 5 i, vI a1, vI (v2 + 0), vI (v3 + 1)] σ2)))) ∧
          (a1 < r2 →
            (InR (v2 + 1) ∧
            (InR (v3 + 1) ∧
            (∃ n', n' < n ∧ Lp_Rl_over_4 i a1 σ0 n' [vR 5 i, vI a1, vI (v2 + 1), vI (v3 + 1)] σ2)))))))))))))
theorem l_Rl_over_4 (i : Nat) (a1 : Int) (σ0 : SS) (K : AV → SS → Prop) (hi : i < 2) (ha1 : InR a1) (hs0 : okS σ0) (hG : S_Rl_over [vR 5 i, vI a1] σ0 K) (v2 : Int) (v3 : Int) (σ : SS) (hv2 : InR v2) (hv3 : InR v3) (hs : okS σ) (n : Nat) (hn : n = (1000 - v3).toNat) (hQ : (σ = σ0) ∧ (0 ≤ v3 ∧ v3 ≤ σ0 303 i 0) ∧ (v2 = cntZ (fun k => σ0 35 i k ≤ a1 ∧ a1 < σ0 36 i k) 0 v3)) : VL_Rl_over_4 i a1 σ0 K v2 v3 σ n := by
  unfold VL_Rl_over_4
  obtain ⟨h1, hG⟩ := hG
  obtain ⟨rfl, q1, q2⟩ := hQ
  have cb := cntZ_in (P := fun k => σ 35 i k ≤ a1 ∧ a1 < σ 36 i k) (a := 0) (b := v3)
  refine ⟨fun c1 => ?_, fun c1 => ?_⟩
  · skip
    rw [q2, show v3 = σ 303 i 0 by omega]; exact hG
  · skip
    refine ⟨(by exact ⟨q1.1, by omega, h1.2⟩), ?_⟩
    intro _ _
    refine ⟨fun c2 => ?_, fun c2 => ?_⟩
    · skip
      refine ⟨(by omega), ?_⟩
      refine ⟨(by omega), ?_⟩
      refine ⟨_, ?_, _, _, rfl, rfl, ?_⟩
      · omega
      · refine ⟨?_, ?_, ?_⟩
        · first | rfl | assumption | omega
        · first | rfl | assumption | omega
        · rw [cntZ_no q1.1 (by omega)]; omega
    · skip
      refine ⟨(by exact ⟨q1.1, by omega, h1.2⟩), ?_⟩
      intro _ _
      refine ⟨fun c3 => ?_, fun c3 => ?_⟩
      · skip
        refine ⟨(by omega), ?_⟩
        refine ⟨(by omega), ?_⟩
        refine ⟨_, ?_, _, _, rfl, rfl, ?_⟩
        · omega
        · refine ⟨?_, ?_, ?_⟩
          · first | rfl | assumption | omega
          · first | rfl | assumption | omega
          · rw [cntZ_no q1.1 (by omega)]; omega
      · skip
        refine ⟨(by omega), ?_⟩
        refine ⟨(by omega), ?_⟩
        refine ⟨_, ?_, _, _, rfl, rfl, ?_⟩
        · omega
        · refine ⟨?_, ?_, ?_⟩
          · first | rfl | assumption | omega
          · first | rfl | assumption | omega
          · rw [cntZ_yes q1.1 (by omega)]; omega
theorem e_Rl_over (i : Nat) (a1 : Int) (σ : SS) (K : AV → SS → Prop) (hi : i < 2) (ha1 : InR a1) (hs : okS σ) (hG : S_Rl_over [vR 5 i, vI a1] σ K) : VE_Rl_over i a1 σ K := by
  unfold VE_Rl_over
  obtain ⟨h1, hG⟩ := hG
  refine ⟨_, _, _, rfl, rfl, ?_⟩
  refine ⟨?_, ?_, ?_⟩
  · first | rfl | assumption | omega
  · first | rfl | assumption | omega
  · exact (cntZ_nil (by omega)).symm
theorem H_Rl_over {d : Nat} (hd : 2 ≤ d) : Holds d I_Rl_over S_Rl_over := by
  refine holds_of (d' := d - 1) (rt := 1) (cal := [(I_Rl_from, S_Rl_from), (I_Rl_to, S_Rl_to)]) (C := C_Rl_over) m_Rl_over o_Rl_over rfl rfl (by omega) ?_ ?_
  · intro x hx
    simp only [List.mem_cons, List.not_mem_nil, or_false] at hx
    rcases hx with rfl | rfl
    · exact H_Rl_from (by omega)
    · exact H_Rl_to (by omega)
  · intro as σ K has hσ hG
    have hG2 := hG
    unfold S_Rl_over at hG2
    split at hG2
    · next i a1 =>
      refine ⟨Nat.le_of_ble_eq_true rfl, (Iv_Rl_over i a1 σ), ?_, 1000, ?_⟩
      · intro k n z L σ' hk hL hs hP
        unfold Iv_Rl_over at hk
        split at hk
        · cases hk
          obtain ⟨v2, v3, rfl, hn, hQ⟩ := hP
          exact ⟨1000, l_Rl_over_4 i a1 σ K (has _ (List.mem_of_getElem? (i := 0) rfl)) (has _ (List.mem_of_getElem? (i := 1) rfl)) hσ hG v2 v3 σ' (hL _ (List.mem_of_getElem? (i := 2) rfl)) (hL _ (List.mem_of_getElem? (i := 3) rfl)) hs n hn hQ⟩
        · cases hk
      · exact e_Rl_over i a1 σ K (has _ (List.mem_of_getElem? (i := 0) rfl)) (has _ (List.mem_of_getElem? (i := 1) rfl)) hσ hG
    · exact hG2.elim
def rlP (σ : SS) (i : Nat) (a b : Int) : Prop := ∃ k, 0 ≤ k ∧ k < σ 303 i 0 ∧ σ 35 i k = a ∧ σ 36 i k = b
def rlA (σ σ' : SS) (i : Nat) (a b c : Int) : Prop := (rlP σ i a b ∧ σ' = σ) ∨ (¬ rlP σ i a b ∧ Fr (RlL i) σ σ' ∧ σ' 303 i 0 = σ 303 i 0 + 1 ∧ (∀ k, σ' 35 i k = if k = σ 303 i 0 then a else σ 35 i k) ∧ (∀ k, σ' 36 i k = if k = σ 303 i 0 then b else σ 36 i k) ∧ (∀ k, σ' 37 i k = if k = σ 303 i 0 then c else σ 37 i k))
def S_Rl_add : GS := fun as σ K => match as with
  | [some (.inr (.inr (5, i))), some (.inl a1), some (.inl a2), some (.inl a3)] => (0 ≤ σ 303 i 0 ∧ σ 303 i 0 < 120) ∧ ∀ σ', rlA σ σ' i a1 a2 a3 → K none σ'
  | _ => False
abbrev Lp_Rl_add_2 (i : Nat) (a1 : Int) (a2 : Int) (a3 : Int) (σ0 : SS) (n : Nat) (L : List AV) (σ : SS) : Prop := ∃ (v4 : Int), L = [vR 5 i, vI a1, vI a2, vI a3, vI v4] ∧ n = (1000 - v4).toNat ∧ ((σ = σ0) ∧ (0 ≤ v4 ∧ v4 ≤ σ0 303 i 0) ∧ (∀ k, 0 ≤ k → k < v4 → ¬ (σ0 35 i k = a1 ∧ σ0 36 i k = a2)))
def Iv_Rl_add (i : Nat) (a1 : Int) (a2 : Int) (a3 : Int) (σ0 : SS) (k : Nat) : Option (List Nat × (Nat → List AV → SS → Prop)) := match k with
  | 2 => some ([], Lp_Rl_add_2 i a1 a2 a3 σ0)
  | _ => none
def VE_Rl_add (i : Nat) (a1 : Int) (a2 : Int) (a3 : Int) (σ : SS) (K : AV → SS → Prop) : Prop :=
  (∃ n', Lp_Rl_add_2 i a1 a2 a3 σ n' [vR 5 i, vI a1, vI a2, vI a3, vI 0] σ)
def VL_Rl_add_2 (i : Nat) (a1 : Int) (a2 : Int) (a3 : Int) (σ0 : SS) (K : AV → SS → Prop) (v4 : Int) (σ : SS) (n : Nat) : Prop :=
  (((σ 303 i 0) ≤ v4 →
    (((120 : Int) ≤ (σ 303 i 0) →
      (K none σ)) ∧
    ((σ 303 i 0) < 120 →
      ((0 ≤ (σ 303 i 0 : Int) ∧ (σ 303 i 0 : Int) < 120) ∧ ∀ σ1 : SS, σ1 = u3 σ 35 i (σ 303 i 0) a1 →
      ((0 ≤ (σ1 303 i 0 : Int) ∧ (σ1 303 i 0 : Int) < 120) ∧ ∀ σ2 : SS, σ2 = u3 σ1 36 i (σ1 303 i 0) a2 →
      ((0 ≤ (σ2 303 i 0 : Int) ∧ (σ2 303 i 0 : Int) < 120) ∧ ∀ σ3 : SS, σ3 = u3 σ2 37 i (σ2 303 i 0) a3 →
      (InR ((σ3 303 i 0) + 1) ∧
      (∀ σ4 : SS, σ4 = u3 σ3 303 i 0 ((σ3 303 i 0) + 1) →
      (K none σ4))))))))) ∧
  (v4 < (σ 303 i 0) →
    ((0 ≤ (v4 : Int) ∧ (v4 : Int) < 120) ∧
    (((σ 35 i v4) ≠ a1 →
      (InR (v4 + 1) ∧
      (∃ n', n' < n ∧ Lp_Rl_add_2 i a1 a2 a3 σ0 n' [vR 5 i, vI a1, vI a2, vI a3, vI (v4 + 1)] σ))) ∧
    ((σ 35 i v4) = a1 →
      ((0 ≤ (v4 : Int) ∧ (v4 : Int) < 120) ∧
      (((σ 36 i v4) ≠ a2 →
        (InR (v4 + 1) ∧
        (∃ n', n' < n ∧ Lp_Rl_add_2 i a1 a2 a3 σ0 n' [vR 5 i, vI a1, vI a2, vI a3, vI (v4 + 1)] σ))) ∧
      ((σ 36 i v4) = a2 →
        (K none σ)))))))))
theorem l_Rl_add_2 (i : Nat) (a1 : Int) (a2 : Int) (a3 : Int) (σ0 : SS) (K : AV → SS → Prop) (hi : i < 2) (ha1 : InR a1) (ha2 : InR a2) (ha3 : InR a3) (hs0 : okS σ0) (hG : S_Rl_add [vR 5 i, vI a1, vI a2, vI a3] σ0 K) (v4 : Int) (σ : SS) (hv4 : InR v4) (hs : okS σ) (n : Nat) (hn : n = (1000 - v4).toNat) (hQ : (σ = σ0) ∧ (0 ≤ v4 ∧ v4 ≤ σ0 303 i 0) ∧ (∀ k, 0 ≤ k → k < v4 → ¬ (σ0 35 i k = a1 ∧ σ0 36 i k = a2))) : VL_Rl_add_2 i a1 a2 a3 σ0 K v4 σ n := by
  unfold VL_Rl_add_2
  obtain ⟨h1, hG⟩ := hG
  obtain ⟨rfl, q1, q2⟩ := hQ
  have no : σ 303 i 0 ≤ v4 → ¬ rlP σ i a1 a2 := fun z ⟨k, k0, k1, k2, k3⟩ => q2 k k0 (by omega) ⟨k2, k3⟩
  refine ⟨fun c1 => ?_, fun c1 => ?_⟩
  · skip
    refine ⟨fun c2 => ?_, fun c2 => ?_⟩
    · skip
      exact absurd h1 (by omega)
    · skip
      refine ⟨(by omega), fun σ3 e3 => ?_⟩
      have s3 : σ3 303 i 0 = σ 303 i 0 := by rw [e3, u3_f (by decide)]
      refine ⟨(by omega), fun σ4 e4 => ?_⟩
      have s4 : σ4 303 i 0 = σ 303 i 0 := by rw [e4, u3_f (by decide), s3]
      refine ⟨(by omega), fun σ5 e5 => ?_⟩
      have s5 : σ5 303 i 0 = σ 303 i 0 := by rw [e5, u3_f (by decide), s4]
      refine ⟨(by omega), ?_⟩
      refine fun σ6 e6 => ?_
      rw [s3] at e4
      rw [s4] at e5
      rw [s5] at e6
      refine hG _ (Or.inr ⟨no (by assumption), ?_, by rw [e6, u3_s], fun k => ?_, fun k => ?_, fun k => ?_⟩)
      · rw [e6, e5, e4, e3]
        exact Fr_trans (Fr_u3 (by simp [RlL])) (Fr_trans (Fr_u3 (by simp [RlL])) (Fr_trans (Fr_u3 (by simp [RlL])) (Fr_u3 (by simp [RlL]))))
      · rw [e6, u3_f (by decide), e5, u3_f (by decide), e4, u3_f (by decide), e3, u3_e]
      · rw [e6, u3_f (by decide), e5, u3_f (by decide), e4, u3_e, e3, u3_f (by decide)]
      · rw [e6, u3_f (by decide), e5, u3_e, e4, u3_f (by decide), e3, u3_f (by decide)]
  · skip
    refine ⟨(by omega), ?_⟩
    refine ⟨fun c2 => ?_, fun c2 => ?_⟩
    · skip
      refine ⟨(by omega), ?_⟩
      refine ⟨_, ?_, _, rfl, rfl, ?_⟩
      · omega
      · refine ⟨?_, ?_, ?_⟩
        · first | rfl | assumption | omega
        · first | rfl | assumption | omega
        · intro k k0 k1
          rcases (by omega : k < v4 ∨ k = v4) with z | rfl
          · exact q2 k k0 z
          · exact fun z => absurd z.1 (by assumption)
    · skip
      refine ⟨(by omega), ?_⟩
      refine ⟨fun c3 => ?_, fun c3 => ?_⟩
      · skip
        refine ⟨(by omega), ?_⟩
        refine ⟨_, ?_, _, rfl, rfl, ?_⟩
        · omega
        · refine ⟨?_, ?_, ?_⟩
          · first | rfl | assumption | omega
          · first | rfl | assumption | omega
          · intro k k0 k1
            rcases (by omega : k < v4 ∨ k = v4) with z | rfl
            · exact q2 k k0 z
            · exact fun z => absurd z.2 (by assumption)
      · skip
        exact hG _ (Or.inl ⟨⟨v4, q1.1, by omega, by assumption, by assumption⟩, rfl⟩)
theorem e_Rl_add (i : Nat) (a1 : Int) (a2 : Int) (a3 : Int) (σ : SS) (K : AV → SS → Prop) (hi : i < 2) (ha1 : InR a1) (ha2 : InR a2) (ha3 : InR a3) (hs : okS σ) (hG : S_Rl_add [vR 5 i, vI a1, vI a2, vI a3] σ K) : VE_Rl_add i a1 a2 a3 σ K := by
  unfold VE_Rl_add
  obtain ⟨h1, hG⟩ := hG
  refine ⟨_, _, rfl, rfl, ?_⟩
  refine ⟨?_, ?_, ?_⟩
  · first | rfl | assumption | omega
  · first | rfl | assumption | omega
  · exact fun k k0 k1 => by omega
theorem H_Rl_add {d : Nat} (hd : 1 ≤ d) : Holds d I_Rl_add S_Rl_add := by
  refine holds_of (d' := d - 1) (rt := 0) (cal := []) (C := C_Rl_add) m_Rl_add o_Rl_add rfl rfl (by omega) ?_ ?_
  · intro x hx
    cases hx
  · intro as σ K has hσ hG
    have hG2 := hG
    unfold S_Rl_add at hG2
    split at hG2
    · next i a1 a2 a3 =>
      refine ⟨Nat.le_of_ble_eq_true rfl, (Iv_Rl_add i a1 a2 a3 σ), ?_, 1000, ?_⟩
      · intro k n z L σ' hk hL hs hP
        unfold Iv_Rl_add at hk
        split at hk
        · cases hk
          obtain ⟨v4, rfl, hn, hQ⟩ := hP
          exact ⟨1000, l_Rl_add_2 i a1 a2 a3 σ K (has _ (List.mem_of_getElem? (i := 0) rfl)) (has _ (List.mem_of_getElem? (i := 1) rfl)) (has _ (List.mem_of_getElem? (i := 2) rfl)) (has _ (List.mem_of_getElem? (i := 3) rfl)) hσ hG v4 σ' (hL _ (List.mem_of_getElem? (i := 4) rfl)) hs n hn hQ⟩
        · cases hk
      · exact e_Rl_add i a1 a2 a3 σ K (has _ (List.mem_of_getElem? (i := 0) rfl)) (has _ (List.mem_of_getElem? (i := 1) rfl)) (has _ (List.mem_of_getElem? (i := 2) rfl)) (has _ (List.mem_of_getElem? (i := 3) rfl)) hσ hG
    · exact hG2.elim
def rlQ (σ : SS) (i : Nat) (u : Int → Int) (n : Int) (Q : Int → Int → Prop) (G : Int) : Prop := RLq u n (σ 303 i 0) (σ 35 i) (σ 36 i) (σ 37 i) Q G
theorem rl_w {σ σ' : SS} {i j : Nat} (h : Fr (RlL i) σ σ') : σ' 20 j = σ 20 j ∧ σ' 501 j = σ 501 j := ⟨h _ _ (by simp [RlL]), h _ _ (by simp [RlL])⟩
theorem fw_ac {σ σ' : SS} {i : Nat} {u : Int → Int} {n G a x : Int} (hG : 1 ≤ G) (h : rlQ σ i u n (fun q y => q < G ∨ (q = G ∧ y < a)) G) (hI : fwI u n G a x) (hx : x ≤ n - G) (hm : u x ≠ u (x + G)) (hs : G ≤ x - a) (hA : rlA σ σ' i a (x + G) G) : Fr (RlL i) σ σ' ∧ rlQ σ' i u n (fun q y => q < G ∨ (q = G ∧ y < x + 1)) G := by
  rcases hA with ⟨hp, rfl⟩ | ⟨hp, hF, e0, e1, e2, e3⟩
  · exact ⟨Fr_refl, fw_old h hI hm hp⟩
  · exact ⟨hF, fw_new hG h hI hx hm hs hp e0 e1 e2 e3⟩
theorem fw_next {u : Int → Int} {n g a x : Int} (h : fwI u n g a x) (hx : x ≤ n - g) (hm : u x ≠ u (x + g)) : fwI u n g (x + 1) (x + 1) := by
  have := h.1
  exact ⟨by omega, fun y y0 y1 => by omega, Or.inr (by rw [show x + 1 - 1 = x by omega]; exact hm)⟩
theorem fw_more {u : Int → Int} {n g a x : Int} (h : fwI u n g a x) (hx : x + g < n) (hm : u x = u (x + g)) : fwI u n g a (x + 1) := by
  have h0 := h.1
  refine ⟨by omega, fun y y0 y1 => ?_, h.2.2⟩
  rcases (by omega : y < x ∨ y = x) with c | c
  · exact h.2.1 y y0 c
  · rw [c]; exact ⟨hx, hm⟩
def S_Rl_findWithGap : GS := fun as σ K => match as with
  | [some (.inr (.inr (5, i))), some (.inr (.inr (10, w1))), some (.inl a2)] => (WI σ w1 ∧ 1 ≤ a2 ∧ a2 ≤ σ 501 w1 0 ∧ rlQ σ i (aW σ w1) (σ 501 w1 0) (fun q _ => q < a2) a2) ∧ ∀ σ', Fr (RlL i) σ σ' → rlQ σ' i (aW σ w1) (σ 501 w1 0) (fun q _ => q < a2 + 1) (a2 + 1) → K none σ'
  | _ => False
abbrev Lp_Rl_findWithGap_12 (i : Nat) (w1 : Nat) (a2 : Int) (σ0 : SS) (n : Nat) (L : List AV) (σ : SS) : Prop := ∃ (v4 : Int) (v5 : Int) (v6 : Int), L = [vR 5 i, vR 10 w1, vI a2, vR 20 w1, vI v4, vI v5, vI v6] ∧ n = (1000 - v6).toNat ∧ ((Fr (RlL i) σ0 σ) ∧ (v4 = σ0 501 w1 0) ∧ (v6 ≤ v4 - a2 ∨ v5 = v6) ∧ (fwI (aW σ0 w1) v4 a2 v5 v6) ∧ (rlQ σ i (aW σ0 w1) v4 (fun q y => q < a2 ∨ (q = a2 ∧ y < v5)) a2))
def Iv_Rl_findWithGap (i : Nat) (w1 : Nat) (a2 : Int) (σ0 : SS) (k : Nat) : Option (List Nat × (Nat → List AV → SS → Prop)) := match k with
  | 12 => some ([], Lp_Rl_findWithGap_12 i w1 a2 σ0)
  | _ => none
def VE_Rl_findWithGap (i : Nat) (w1 : Nat) (a2 : Int) (σ : SS) (K : AV → SS → Prop) : Prop :=
  (∃ n', Lp_Rl_findWithGap_12 i w1 a2 σ n' [vR 5 i, vR 10 w1, vI a2, vR 20 w1, vI (min (σ 501 w1 0) 120), vI 0, vI 0] σ)
def VL_Rl_findWithGap_12 (i : Nat) (w1 : Nat) (a2 : Int) (σ0 : SS) (K : AV → SS → Prop) (v4 : Int) (v5 : Int) (v6 : Int) (σ : SS) (n : Nat) : Prop :=
  (InR (v4 - a2) ∧
  (((v4 - a2) < v6 →
    (K none σ)) ∧
  (v6 ≤ (v4 - a2) →
    (InR (v6 + a2) ∧
    ((v4 ≤ (v6 + a2) →
      (InR (v6 - v5) ∧
      (((v6 - v5) < a2 →
        (InR (v6 + 1) ∧
        (InR (v6 + 1) ∧
        (∃ n', n' < n ∧ Lp_Rl_findWithGap_12 i w1 a2 σ0 n' [vR 5 i, vR 10 w1, vI a2, vR 20 w1, vI v4, vI (v6 + 1), vI (v6 + 1)] σ)))) ∧
      (a2 ≤ (v6 - v5) →
        (InR (v6 + a2) ∧
        (S_Rl_add [vR 5 i, vI v5, vI (v6 + a2), vI a2] σ (kV fun σ1 =>
          (InR (v6 + 1) ∧
          (InR (v6 + 1) ∧
          (∃ n', n' < n ∧ Lp_Rl_findWithGap_12 i w1 a2 σ0 n' [vR 5 i, vR 10 w1, vI a2, vR 20 w1, vI v4, vI (v6 + 1), vI (v6 + 1)] σ1)))))))))) ∧
    ((v6 + a2) < v4 →
      ((0 ≤ (v6 : Int) ∧ (v6 : Int) < 120) ∧
      (InR (v6 + a2) ∧
      ((0 ≤ (v6 + a2 : Int) ∧ (v6 + a2 : Int) < 120) ∧
      (((σ 20 w1 v6) ≠ (σ 20 w1 (v6 + a2)) →
        (InR (v6 - v5) ∧
        (((v6 - v5) < a2 →
          (InR (v6 + 1) ∧
          (InR (v6 + 1) ∧
          (∃ n', n' < n ∧ Lp_Rl_findWithGap_12 i w1 a2 σ0 n' [vR 5 i, vR 10 w1, vI a2, vR 20 w1, vI v4, vI (v6 + 1), vI (v6 + 1)] σ)))) ∧
        (a2 ≤ (v6 - v5) →
          (InR (v6 + a2) ∧
          (S_Rl_add [vR 5 i, vI v5, vI (v6 + a2), vI a2] σ (kV fun σ2 =>
            (InR (v6 + 1) ∧
            (InR (v6 + 1) ∧
            (∃ n', n' < n ∧ Lp_Rl_findWithGap_12 i w1 a2 σ0 n' [vR 5 i, vR 10 w1, vI a2, vR 20 w1, vI v4, vI (v6 + 1), vI (v6 + 1)] σ2)))))))))) ∧
      ((σ 20 w1 v6) = (σ 20 w1 (v6 + a2)) →
        (InR (v6 + 1) ∧
        (∃ n', n' < n ∧ Lp_Rl_findWithGap_12 i w1 a2 σ0 n' [vR 5 i, vR 10 w1, vI a2, vR 20 w1, vI v4, vI v5, vI (v6 + 1)] σ)))))))))))))
theorem l_Rl_findWithGap_12 (i : Nat) (w1 : Nat) (a2 : Int) (σ0 : SS) (K : AV → SS → Prop) (hi : i < 2) (hw1 : w1 < 14) (ha2 : InR a2) (hs0 : okS σ0) (hG : S_Rl_findWithGap [vR 5 i, vR 10 w1, vI a2] σ0 K) (v4 : Int) (v5 : Int) (v6 : Int) (σ : SS) (hv4 : InR v4) (hv5 : InR v5) (hv6 : InR v6) (hs : okS σ) (n : Nat) (hn : n = (1000 - v6).toNat) (hQ : (Fr (RlL i) σ0 σ) ∧ (v4 = σ0 501 w1 0) ∧ (v6 ≤ v4 - a2 ∨ v5 = v6) ∧ (fwI (aW σ0 w1) v4 a2 v5 v6) ∧ (rlQ σ i (aW σ0 w1) v4 (fun q y => q < a2 ∨ (q = a2 ∧ y < v5)) a2)) : VL_Rl_findWithGap_12 i w1 a2 σ0 K v4 v5 v6 σ n := by
  unfold VL_Rl_findWithGap_12
  obtain ⟨⟨hW, h1, h2, h3⟩, hG⟩ := hG
  have hb := hW.1
  obtain ⟨q0, rfl, q1, q2, q3⟩ := hQ
  obtain ⟨w1_, w2_⟩ := rl_w (j := w1) q0
  have q2a := q2.1
  have la : ∀ x, 0 ≤ x → x < σ0 501 w1 0 → σ 20 w1 x = aW σ0 w1 x := fun x x0 x1 => by rw [w1_, aW, atW_in x0 x1]
  have mis : v6 ≤ σ0 501 w1 0 - a2 → σ0 501 w1 0 ≤ v6 + a2 → aW σ0 w1 v6 ≠ aW σ0 w1 (v6 + a2) := fun z y => by
    have := WI_let hW (x := v6) (by omega) (by omega)
    rw [show aW σ0 w1 (v6 + a2) = -1 from if_neg (by omega)]
    omega
  have few := RLq_n q3 hb.2
  have m0 := q3.1
  refine ⟨(by omega), ?_⟩
  refine ⟨fun c1 => ?_, fun c1 => ?_⟩
  · skip
    refine hG _ q0 ⟨q3.1, fun k k0 k1 => ⟨(q3.2.1 k k0 k1).1, by have := (q3.2.1 k k0 k1).2; omega⟩, fun x j q r hq => q3.2.2.1 x j q r ?_, q3.2.2.2⟩
    have := r.1
    omega
  · skip
    refine ⟨(by omega), ?_⟩
    refine ⟨fun c2 => ?_, fun c2 => ?_⟩
    · skip
      have ms := mis (by omega) (by omega)
      refine ⟨(by omega), ?_⟩
      refine ⟨fun c3 => ?_, fun c3 => ?_⟩
      · skip
        refine ⟨(by omega), ?_⟩
        refine ⟨(by omega), ?_⟩
        refine ⟨_, ?_, _, _, _, rfl, rfl, ?_⟩
        · omega
        · refine ⟨?_, ?_, ?_, ?_, ?_⟩
          · first | rfl | assumption | omega
          · first | rfl | assumption | omega
          · first | rfl | assumption | omega
          · exact fw_next q2 (by omega) ms
          · exact fw_no q3 q2 ms (by omega)
      · skip
        refine ⟨(by omega), ?_⟩
        refine ⟨(by omega), (fun σ4 h4a => ?_)⟩
        intro _
        obtain ⟨f5, f6⟩ := fw_ac h1 q3 q2 (by omega) ms (by omega) h4a
        refine ⟨(by omega), ?_⟩
        refine ⟨(by omega), ?_⟩
        refine ⟨_, ?_, _, _, _, rfl, rfl, ?_⟩
        · omega
        · refine ⟨?_, ?_, ?_, ?_, ?_⟩
          · exact Fr_trans q0 f5
          · first | rfl | assumption | omega
          · first | rfl | assumption | omega
          · exact fw_next q2 (by omega) ms
          · exact f6
    · skip
      have ms : ¬ aW σ0 w1 v6 ≠ aW σ0 w1 (v6 + a2) ∨ aW σ0 w1 v6 ≠ aW σ0 w1 (v6 + a2) := by omega
      refine ⟨(by omega), ?_⟩
      refine ⟨(by omega), ?_⟩
      refine ⟨(by omega), ?_⟩
      refine ⟨fun c3 => ?_, fun c3 => ?_⟩
      · skip
        have ms : aW σ0 w1 v6 ≠ aW σ0 w1 (v6 + a2) := by rw [← la v6 (by omega) (by omega), ← la (v6 + a2) (by omega) (by omega)]; assumption
        refine ⟨(by omega), ?_⟩
        refine ⟨fun c4 => ?_, fun c4 => ?_⟩
        · skip
          refine ⟨(by omega), ?_⟩
          refine ⟨(by omega), ?_⟩
          refine ⟨_, ?_, _, _, _, rfl, rfl, ?_⟩
          · omega
          · refine ⟨?_, ?_, ?_, ?_, ?_⟩
            · first | rfl | assumption | omega
            · first | rfl | assumption | omega
            · first | rfl | assumption | omega
            · exact fw_next q2 (by omega) ms
            · exact fw_no q3 q2 ms (by omega)
        · skip
          refine ⟨(by omega), ?_⟩
          refine ⟨(by omega), (fun σ5 h5a => ?_)⟩
          intro _
          obtain ⟨f5, f6⟩ := fw_ac h1 q3 q2 (by omega) ms (by omega) h5a
          refine ⟨(by omega), ?_⟩
          refine ⟨(by omega), ?_⟩
          refine ⟨_, ?_, _, _, _, rfl, rfl, ?_⟩
          · omega
          · refine ⟨?_, ?_, ?_, ?_, ?_⟩
            · exact Fr_trans q0 f5
            · first | rfl | assumption | omega
            · first | rfl | assumption | omega
            · exact fw_next q2 (by omega) ms
            · exact f6
      · skip
        have ms : aW σ0 w1 v6 = aW σ0 w1 (v6 + a2) := by rw [← la v6 (by omega) (by omega), ← la (v6 + a2) (by omega) (by omega)]; assumption
        refine ⟨(by omega), ?_⟩
        refine ⟨_, ?_, _, _, _, rfl, rfl, ?_⟩
        · omega
        · refine ⟨?_, ?_, ?_, ?_, ?_⟩
          · first | rfl | assumption | omega
          · first | rfl | assumption | omega
          · first | rfl | assumption | omega
          · exact fw_more q2 (by omega) ms
          · first | rfl | assumption | omega
theorem e_Rl_findWithGap (i : Nat) (w1 : Nat) (a2 : Int) (σ : SS) (K : AV → SS → Prop) (hi : i < 2) (hw1 : w1 < 14) (ha2 : InR a2) (hs : okS σ) (hG : S_Rl_findWithGap [vR 5 i, vR 10 w1, vI a2] σ K) : VE_Rl_findWithGap i w1 a2 σ K := by
  unfold VE_Rl_findWithGap
  obtain ⟨⟨hW, h1, h2, h3⟩, hG⟩ := hG
  have hb := hW.1
  refine ⟨_, _, _, _, rfl, rfl, ?_⟩
  refine ⟨?_, ?_, ?_, ?_, ?_⟩
  · exact Fr_refl
  · first | rfl | assumption | omega
  · first | rfl | assumption | omega
  · exact ⟨by omega, fun y y0 y1 => by omega, Or.inl rfl⟩
  · rw [show min (σ 501 w1 0) 120 = σ 501 w1 0 by omega]
    exact ⟨h3.1, h3.2.1, fun x j q r hq => h3.2.2.1 x j q r (by have := r.1; omega), h3.2.2.2⟩
theorem H_Rl_findWithGap {d : Nat} (hd : 2 ≤ d) : Holds d I_Rl_findWithGap S_Rl_findWithGap := by
  refine holds_of (d' := d - 1) (rt := 0) (cal := [(I_Rl_add, S_Rl_add)]) (C := C_Rl_findWithGap) m_Rl_findWithGap o_Rl_findWithGap rfl rfl (by omega) ?_ ?_
  · intro x hx
    simp only [List.mem_cons, List.not_mem_nil, or_false] at hx
    subst hx
    exact H_Rl_add (by omega)
  · intro as σ K has hσ hG
    have hG2 := hG
    unfold S_Rl_findWithGap at hG2
    split at hG2
    · next i w1 a2 =>
      refine ⟨Nat.le_of_ble_eq_true rfl, (Iv_Rl_findWithGap i w1 a2 σ), ?_, 1000, ?_⟩
      · intro k n z L σ' hk hL hs hP
        unfold Iv_Rl_findWithGap at hk
        split at hk
        · cases hk
          obtain ⟨v4, v5, v6, rfl, hn, hQ⟩ := hP
          exact ⟨1000, l_Rl_findWithGap_12 i w1 a2 σ K (has _ (List.mem_of_getElem? (i := 0) rfl)) (has _ (List.mem_of_getElem? (i := 1) rfl)) (has _ (List.mem_of_getElem? (i := 2) rfl)) hσ hG v4 v5 v6 σ' (hL _ (List.mem_of_getElem? (i := 4) rfl)) (hL _ (List.mem_of_getElem? (i := 5) rfl)) (hL _ (List.mem_of_getElem? (i := 6) rfl)) hs n hn hQ⟩
        · cases hk
      · exact e_Rl_findWithGap i w1 a2 σ K (has _ (List.mem_of_getElem? (i := 0) rfl)) (has _ (List.mem_of_getElem? (i := 1) rfl)) (has _ (List.mem_of_getElem? (i := 2) rfl)) hσ hG
    · exact hG2.elim
def S_Rl_find : GS := fun as σ K => match as with
  | [some (.inr (.inr (5, i))), some (.inr (.inr (10, w1)))] => WI σ w1 ∧ ∀ σ', Fr (RlL i) σ σ' → RL (aW σ w1) (σ 501 w1 0) (σ' 303 i 0) (σ' 35 i) (σ' 36 i) (σ' 37 i) → RLt (σ' 303 i 0) (σ' 35 i) (σ' 37 i) → K none σ'
  | _ => False
abbrev Lp_Rl_find_5 (i : Nat) (w1 : Nat) (σ0 : SS) (n : Nat) (L : List AV) (σ : SS) : Prop := ∃ (v2 : Int), L = [vR 5 i, vR 10 w1, vI v2] ∧ n = (1000 - v2).toNat ∧ ((Fr (RlL i) σ0 σ) ∧ (1 ≤ v2 ∧ v2 ≤ 61) ∧ (rlQ σ i (aW σ0 w1) (σ0 501 w1 0) (fun q _ => q < v2) v2))
def Iv_Rl_find (i : Nat) (w1 : Nat) (σ0 : SS) (k : Nat) : Option (List Nat × (Nat → List AV → SS → Prop)) := match k with
  | 5 => some ([], Lp_Rl_find_5 i w1 σ0)
  | _ => none
def VE_Rl_find (i : Nat) (w1 : Nat) (σ : SS) (K : AV → SS → Prop) : Prop :=
  (∀ σ1 : SS, σ1 = u3 σ 303 i 0 0 →
  (∃ n', Lp_Rl_find_5 i w1 σ n' [vR 5 i, vR 10 w1, vI 1] σ1))
def VL_Rl_find_5 (i : Nat) (w1 : Nat) (σ0 : SS) (K : AV → SS → Prop) (v2 : Int) (σ : SS) (n : Nat) : Prop :=
  (InR (2 * v2) ∧
  (S_Wo_size [vR 10 w1] σ (kI fun r1 σ1 =>
    ((r1 < (2 * v2) →
      (K none σ1)) ∧
    ((2 * v2) ≤ r1 →
      (S_Rl_findWithGap [vR 5 i, vR 10 w1, vI v2] σ1 (kV fun σ2 =>
        (InR (v2 + 1) ∧
        (∃ n', n' < n ∧ Lp_Rl_find_5 i w1 σ0 n' [vR 5 i, vR 10 w1, vI (v2 + 1)] σ2)))))))))
theorem l_Rl_find_5 (i : Nat) (w1 : Nat) (σ0 : SS) (K : AV → SS → Prop) (hi : i < 2) (hw1 : w1 < 14) (hs0 : okS σ0) (hG : S_Rl_find [vR 5 i, vR 10 w1] σ0 K) (v2 : Int) (σ : SS) (hv2 : InR v2) (hs : okS σ) (n : Nat) (hn : n = (1000 - v2).toNat) (hQ : (Fr (RlL i) σ0 σ) ∧ (1 ≤ v2 ∧ v2 ≤ 61) ∧ (rlQ σ i (aW σ0 w1) (σ0 501 w1 0) (fun q _ => q < v2) v2)) : VL_Rl_find_5 i w1 σ0 K v2 σ n := by
  unfold VL_Rl_find_5
  obtain ⟨hW, hG⟩ := hG
  have hb := hW.1
  obtain ⟨q0, q1, q2⟩ := hQ
  obtain ⟨w1_, w2_⟩ := rl_w (j := w1) q0
  have ea : aW σ w1 = aW σ0 w1 := by unfold aW; rw [w1_, w2_]
  have es : σ 501 w1 0 = σ0 501 w1 0 := by rw [w2_]
  have hW1 : WI σ w1 := by unfold WI; rw [w1_, w2_]; exact Wd_fr hW w2_ w1_
  refine ⟨(by omega), ?_⟩
  intro _ _
  rw [es]
  refine ⟨fun c1 => ?_, fun c1 => ?_⟩
  · skip
    refine hG _ q0 ⟨q2.1, fun k k0 k1 => (q2.2.1 k k0 k1).1, fun x j q r => q2.2.2.1 x j q r ?_⟩ q2.2.2.2
    have := r.1
    omega
  · skip
    refine ⟨(by rw [ea, es]; exact ⟨hW1, by omega, by omega, q2⟩), (fun σ2 h2a h2b => ?_)⟩
    intro _
    have f1 := h2a
    have f2 := h2b
    rw [ea, es] at f2
    refine ⟨(by omega), ?_⟩
    refine ⟨_, ?_, _, rfl, rfl, ?_⟩
    · omega
    · refine ⟨?_, ?_, ?_⟩
      · exact Fr_trans q0 f1
      · first | rfl | assumption | omega
      · exact f2
theorem e_Rl_find (i : Nat) (w1 : Nat) (σ : SS) (K : AV → SS → Prop) (hi : i < 2) (hw1 : w1 < 14) (hs : okS σ) (hG : S_Rl_find [vR 5 i, vR 10 w1] σ K) : VE_Rl_find i w1 σ K := by
  unfold VE_Rl_find
  obtain ⟨hW, hG⟩ := hG
  have hb := hW.1
  refine fun σ1 e1 => ?_
  refine ⟨_, _, rfl, rfl, ?_⟩
  refine ⟨?_, ?_, ?_⟩
  · rw [e1]; exact Fr_u3 (by simp [RlL])
  · first | rfl | assumption | omega
  · have z : σ1 303 i 0 = 0 := by rw [e1, u3_s]
    unfold rlQ
    rw [z]
    exact ⟨by omega, fun k k0 k1 => by omega, fun x j q r hq => by have := r.1; omega, fun k l k0 k1 k2 => by omega⟩
theorem H_Rl_find {d : Nat} (hd : 3 ≤ d) : Holds d I_Rl_find S_Rl_find := by
  refine holds_of (d' := d - 1) (rt := 0) (cal := [(I_Wo_size, S_Wo_size), (I_Rl_findWithGap, S_Rl_findWithGap)]) (C := C_Rl_find) m_Rl_find o_Rl_find rfl rfl (by omega) ?_ ?_
  · intro x hx
    simp only [List.mem_cons, List.not_mem_nil, or_false] at hx
    rcases hx with rfl | rfl
    · exact H_Wo_size (by omega)
    · exact H_Rl_findWithGap (by omega)
  · intro as σ K has hσ hG
    have hG2 := hG
    unfold S_Rl_find at hG2
    split at hG2
    · next i w1 =>
      refine ⟨Nat.le_of_ble_eq_true rfl, (Iv_Rl_find i w1 σ), ?_, 1000, ?_⟩
      · intro k n z L σ' hk hL hs hP
        unfold Iv_Rl_find at hk
        split at hk
        · cases hk
          obtain ⟨v2, rfl, hn, hQ⟩ := hP
          exact ⟨1000, l_Rl_find_5 i w1 σ K (has _ (List.mem_of_getElem? (i := 0) rfl)) (has _ (List.mem_of_getElem? (i := 1) rfl)) hσ hG v2 σ' (hL _ (List.mem_of_getElem? (i := 2) rfl)) hs n hn hQ⟩
        · cases hk
      · exact e_Rl_find i w1 σ K (has _ (List.mem_of_getElem? (i := 0) rfl)) (has _ (List.mem_of_getElem? (i := 1) rfl)) hσ hG
    · exact hG2.elim
def S_Rl_sort : GS := fun as σ K => match as with
  | [some (.inr (.inr (5, i)))] => ((0 ≤ σ 303 i 0 ∧ σ 303 i 0 ≤ 120) ∧ RLt (σ 303 i 0) (σ 35 i) (σ 37 i)) ∧ ∀ σ', Fr (RlS i) σ σ' → (∀ a b c, inS (σ 303 i 0) (σ' 35 i) (σ' 36 i) (σ' 37 i) a b c ↔ inS (σ 303 i 0) (σ 35 i) (σ 36 i) (σ 37 i) a b c) → RLs (σ 303 i 0) (σ' 35 i) (σ' 37 i) → K none σ'
  | _ => False
abbrev Lp_Rl_sort_2 (i : Nat) (σ0 : SS) (n : Nat) (L : List AV) (σ : SS) : Prop := ∃ (v1 : Int), L = [vR 5 i, vI v1, none, none, none, none] ∧ n = (1000 * (1000 - v1)).toNat ∧ ((Fr (RlS i) σ0 σ) ∧ (1 ≤ v1 ∧ v1 ≤ max 1 (σ0 303 i 0)) ∧ (srO (σ0 303 i 0) (σ 35 i) (σ 36 i) (σ 37 i) v1 (inS (σ0 303 i 0) (σ0 35 i) (σ0 36 i) (σ0 37 i))))
abbrev Lp_Rl_sort_23 (i : Nat) (σ0 : SS) (n : Nat) (L : List AV) (σ : SS) : Prop := ∃ (v1 : Int) (v2 : Int) (v3 : Int) (v4 : Int) (v5 : Int), L = [vR 5 i, vI v1, vI v2, vI v3, vI v4, vI v5] ∧ n = (1000 * (1000 - v1) - 500 + v5).toNat ∧ ((Fr (RlS i) σ0 σ) ∧ (1 ≤ v1 ∧ v1 < σ0 303 i 0) ∧ (0 ≤ v5 ∧ v5 ≤ v1) ∧ (srI (σ0 303 i 0) (σ 35 i) (σ 36 i) (σ 37 i) v1 v5 v2 v3 v4 (inS (σ0 303 i 0) (σ0 35 i) (σ0 36 i) (σ0 37 i))))
def Iv_Rl_sort (i : Nat) (σ0 : SS) (k : Nat) : Option (List Nat × (Nat → List AV → SS → Prop)) := match k with
  | 2 => some ([2, 3, 4, 5], Lp_Rl_sort_2 i σ0)
  | 23 => some ([], Lp_Rl_sort_23 i σ0)
  | _ => none
def VE_Rl_sort (i : Nat) (σ : SS) (K : AV → SS → Prop) : Prop :=
  (∃ n', Lp_Rl_sort_2 i σ n' [vR 5 i, vI 1, none, none, none, none] σ)
def VL_Rl_sort_2 (i : Nat) (σ0 : SS) (K : AV → SS → Prop) (v1 : Int) (σ : SS) (n : Nat) : Prop :=
  (((σ 303 i 0) ≤ v1 →
    (K none σ)) ∧
  (v1 < (σ 303 i 0) →
    ((0 ≤ (v1 : Int) ∧ (v1 : Int) < 120) ∧
    ((0 ≤ (v1 : Int) ∧ (v1 : Int) < 120) ∧
    ((0 ≤ (v1 : Int) ∧ (v1 : Int) < 120) ∧
    (∃ n', n' < n ∧ Lp_Rl_sort_23 i σ0 n' [vR 5 i, vI v1, vI (σ 35 i v1), vI (σ 36 i v1), vI (σ 37 i v1), vI v1] σ))))))
def VL_Rl_sort_23 (i : Nat) (σ0 : SS) (K : AV → SS → Prop) (v1 : Int) (v2 : Int) (v3 : Int) (v4 : Int) (v5 : Int) (σ : SS) (n : Nat) : Prop :=
  ((v5 ≤ 0 →
    ((0 ≤ (v5 : Int) ∧ (v5 : Int) < 120) ∧ ∀ σ1 : SS, σ1 = u3 σ 35 i v5 v2 →
    ((0 ≤ (v5 : Int) ∧ (v5 : Int) < 120) ∧ ∀ σ2 : SS, σ2 = u3 σ1 36 i v5 v3 →
    ((0 ≤ (v5 : Int) ∧ (v5 : Int) < 120) ∧ ∀ σ3 : SS, σ3 = u3 σ2 37 i v5 v4 →
    (InR (v1 + 1) ∧
    (∃ n', n' < n ∧ Lp_Rl_sort_2 i σ0 n' [vR 5 i, vI (v1 + 1), none, none, none, none] σ3)))))) ∧
  ((0 : Int) < v5 →
    (InR (v5 - 1) ∧
    ((0 ≤ (v5 - 1 : Int) ∧ (v5 - 1 : Int) < 120) ∧
    (((σ 35 i (v5 - 1)) ≤ v2 →
      ((0 ≤ (v5 : Int) ∧ (v5 : Int) < 120) ∧ ∀ σ4 : SS, σ4 = u3 σ 35 i v5 v2 →
      ((0 ≤ (v5 : Int) ∧ (v5 : Int) < 120) ∧ ∀ σ5 : SS, σ5 = u3 σ4 36 i v5 v3 →
      ((0 ≤ (v5 : Int) ∧ (v5 : Int) < 120) ∧ ∀ σ6 : SS, σ6 = u3 σ5 37 i v5 v4 →
      (InR (v1 + 1) ∧
      (∃ n', n' < n ∧ Lp_Rl_sort_2 i σ0 n' [vR 5 i, vI (v1 + 1), none, none, none, none] σ6)))))) ∧
    (v2 < (σ 35 i (v5 - 1)) →
      (InR (v5 - 1) ∧
      ((0 ≤ (v5 - 1 : Int) ∧ (v5 - 1 : Int) < 120) ∧
      ((0 ≤ (v5 : Int) ∧ (v5 : Int) < 120) ∧ ∀ σ7 : SS, σ7 = u3 σ 35 i v5 (σ 35 i (v5 - 1)) →
      (InR (v5 - 1) ∧
      ((0 ≤ (v5 - 1 : Int) ∧ (v5 - 1 : Int) < 120) ∧
      ((0 ≤ (v5 : Int) ∧ (v5 : Int) < 120) ∧ ∀ σ8 : SS, σ8 = u3 σ7 36 i v5 (σ7 36 i (v5 - 1)) →
      (InR (v5 - 1) ∧
      ((0 ≤ (v5 - 1 : Int) ∧ (v5 - 1 : Int) < 120) ∧
      ((0 ≤ (v5 : Int) ∧ (v5 : Int) < 120) ∧ ∀ σ9 : SS, σ9 = u3 σ8 37 i v5 (σ8 37 i (v5 - 1)) →
      (InR (v5 + (-1)) ∧
      (∃ n', n' < n ∧ Lp_Rl_sort_23 i σ0 n' [vR 5 i, vI v1, vI v2, vI v3, vI v4, vI (v5 + (-1))] σ9)))))))))))))))))
theorem l_Rl_sort_2 (i : Nat) (σ0 : SS) (K : AV → SS → Prop) (hi : i < 2) (hs0 : okS σ0) (hG : S_Rl_sort [vR 5 i] σ0 K) (v1 : Int) (σ : SS) (hv1 : InR v1) (hs : okS σ) (n : Nat) (hn : n = (1000 * (1000 - v1)).toNat) (hQ : (Fr (RlS i) σ0 σ) ∧ (1 ≤ v1 ∧ v1 ≤ max 1 (σ0 303 i 0)) ∧ (srO (σ0 303 i 0) (σ 35 i) (σ 36 i) (σ 37 i) v1 (inS (σ0 303 i 0) (σ0 35 i) (σ0 36 i) (σ0 37 i)))) : VL_Rl_sort_2 i σ0 K v1 σ n := by
  unfold VL_Rl_sort_2
  obtain ⟨⟨h1, h2⟩, hG⟩ := hG
  obtain ⟨q0, q1, q2⟩ := hQ
  have es : σ 303 i 0 = σ0 303 i 0 := by rw [q0 _ _ (by simp [RlS])]
  refine ⟨fun c1 => ?_, fun c1 => ?_⟩
  · skip
    refine hG _ q0 q2.1 (fun k l k0 k1 k2 => q2.2.1 k l k0 k1 (by omega))
  · skip
    refine ⟨(by omega), ?_⟩
    refine ⟨(by omega), ?_⟩
    refine ⟨(by omega), ?_⟩
    refine ⟨_, ?_, _, _, _, _, _, rfl, rfl, ?_⟩
    · omega
    · refine ⟨?_, ?_, ?_, ?_⟩
      · first | rfl | assumption | omega
      · first | rfl | assumption | omega
      · first | rfl | assumption | omega
      · exact sr_in q2 (by omega) (by omega)
theorem l_Rl_sort_23 (i : Nat) (σ0 : SS) (K : AV → SS → Prop) (hi : i < 2) (hs0 : okS σ0) (hG : S_Rl_sort [vR 5 i] σ0 K) (v1 : Int) (v2 : Int) (v3 : Int) (v4 : Int) (v5 : Int) (σ : SS) (hv1 : InR v1) (hv2 : InR v2) (hv3 : InR v3) (hv4 : InR v4) (hv5 : InR v5) (hs : okS σ) (n : Nat) (hn : n = (1000 * (1000 - v1) - 500 + v5).toNat) (hQ : (Fr (RlS i) σ0 σ) ∧ (1 ≤ v1 ∧ v1 < σ0 303 i 0) ∧ (0 ≤ v5 ∧ v5 ≤ v1) ∧ (srI (σ0 303 i 0) (σ 35 i) (σ 36 i) (σ 37 i) v1 v5 v2 v3 v4 (inS (σ0 303 i 0) (σ0 35 i) (σ0 36 i) (σ0 37 i)))) : VL_Rl_sort_23 i σ0 K v1 v2 v3 v4 v5 σ n := by
  unfold VL_Rl_sort_23
  obtain ⟨⟨h1, h2⟩, hG⟩ := hG
  obtain ⟨q0, q1, q2, q3⟩ := hQ
  have fin : ∀ σ1 σ2 σ3 : SS, (v5 = 0 ∨ σ 35 i (v5 - 1) ≤ v2) → σ1 = u3 σ 35 i v5 v2 → σ2 = u3 σ1 36 i v5 v3 → σ3 = u3 σ2 37 i v5 v4 → Fr (RlS i) σ0 σ3 ∧ srO (σ0 303 i 0) (σ3 35 i) (σ3 36 i) (σ3 37 i) (v1 + 1) (inS (σ0 303 i 0) (σ0 35 i) (σ0 36 i) (σ0 37 i)) := fun σ1 σ2 σ3 hc e1 e2 e3 => by
    refine ⟨Fr_trans q0 ?_, sr_out q3 q2.1 q2.2 q1.2 hc (fun y => ?_) (fun y => ?_) (fun y => ?_)⟩
    · rw [e3, e2, e1]
      exact Fr_trans (Fr_u3 (by simp [RlS])) (Fr_trans (Fr_u3 (by simp [RlS])) (Fr_u3 (by simp [RlS])))
    · rw [e3, u3_f (by decide), e2, u3_f (by decide), e1, u3_e]
    · rw [e3, u3_f (by decide), e2, u3_e, e1, u3_f (by decide)]
    · rw [e3, u3_e, e2, u3_f (by decide), e1, u3_f (by decide)]
  refine ⟨fun c1 => ?_, fun c1 => ?_⟩
  · skip
    refine ⟨(by omega), fun σ2 e2 => ?_⟩
    refine ⟨(by omega), fun σ3 e3 => ?_⟩
    refine ⟨(by omega), fun σ4 e4 => ?_⟩
    refine ⟨(by omega), ?_⟩
    obtain ⟨g1, g2⟩ := fin _ _ _ (Or.inl (by omega)) e2 e3 e4
    refine ⟨_, ?_, _, rfl, rfl, ?_⟩
    · omega
    · refine ⟨?_, ?_, ?_⟩
      · exact g1
      · first | rfl | assumption | omega
      · exact g2
  · skip
    refine ⟨(by omega), ?_⟩
    refine ⟨(by omega), ?_⟩
    refine ⟨fun c2 => ?_, fun c2 => ?_⟩
    · skip
      refine ⟨(by omega), fun σ3 e3 => ?_⟩
      refine ⟨(by omega), fun σ4 e4 => ?_⟩
      refine ⟨(by omega), fun σ5 e5 => ?_⟩
      refine ⟨(by omega), ?_⟩
      obtain ⟨g1, g2⟩ := fin _ _ _ (Or.inr (by assumption)) e3 e4 e5
      refine ⟨_, ?_, _, rfl, rfl, ?_⟩
      · omega
      · refine ⟨?_, ?_, ?_⟩
        · exact g1
        · first | rfl | assumption | omega
        · exact g2
    · skip
      refine ⟨(by omega), ?_⟩
      refine ⟨(by omega), ?_⟩
      refine ⟨(by omega), fun σ3 e3 => ?_⟩
      refine ⟨(by omega), ?_⟩
      refine ⟨(by omega), ?_⟩
      refine ⟨(by omega), fun σ4 e4 => ?_⟩
      refine ⟨(by omega), ?_⟩
      refine ⟨(by omega), ?_⟩
      refine ⟨(by omega), fun σ5 e5 => ?_⟩
      refine ⟨(by omega), ?_⟩
      refine ⟨_, ?_, _, _, _, _, _, rfl, rfl, ?_⟩
      · omega
      · refine ⟨?_, ?_, ?_, ?_⟩
        · rw [e5, e4, e3]
          exact Fr_trans q0 (Fr_trans (Fr_u3 (by simp [RlS])) (Fr_trans (Fr_u3 (by simp [RlS])) (Fr_u3 (by simp [RlS]))))
        · first | rfl | assumption | omega
        · first | rfl | assumption | omega
        · refine sr_step q3 (by omega) q2.2 q1.2 (by assumption) (fun y => ?_) (fun y => ?_) (fun y => ?_)
          · rw [e5, u3_f (by decide), e4, u3_f (by decide), e3, u3_e]
          · rw [e5, u3_f (by decide), e4, u3_e, e3, u3_f (by decide), u3_f (by decide)]
          · rw [e5, u3_e, e4, u3_f (by decide), e3, u3_f (by decide), u3_f (by decide), u3_f (by decide)]
theorem e_Rl_sort (i : Nat) (σ : SS) (K : AV → SS → Prop) (hi : i < 2) (hs : okS σ) (hG : S_Rl_sort [vR 5 i] σ K) : VE_Rl_sort i σ K := by
  unfold VE_Rl_sort
  obtain ⟨⟨h1, h2⟩, hG⟩ := hG
  refine ⟨_, _, rfl, rfl, ?_⟩
  refine ⟨?_, ?_, ?_⟩
  · exact Fr_refl
  · first | rfl | assumption | omega
  · exact ⟨fun a b c => Iff.rfl, fun k l k0 k1 k2 => by omega, fun y l y0 y1 y2 y3 y4 => h2 y l y0 y1 y3 y4⟩
theorem H_Rl_sort {d : Nat} (hd : 1 ≤ d) : Holds d I_Rl_sort S_Rl_sort := by
  refine holds_of (d' := d - 1) (rt := 0) (cal := []) (C := C_Rl_sort) m_Rl_sort o_Rl_sort rfl rfl (by omega) ?_ ?_
  · intro x hx
    cases hx
  · intro as σ K has hσ hG
    have hG2 := hG
    unfold S_Rl_sort at hG2
    split at hG2
    · next i =>
      refine ⟨Nat.le_of_ble_eq_true rfl, (Iv_Rl_sort i σ), ?_, 1000, ?_⟩
      · intro k n z L σ' hk hL hs hP
        unfold Iv_Rl_sort at hk
        split at hk
        · cases hk
          obtain ⟨v1, rfl, hn, hQ⟩ := hP
          exact ⟨1000, l_Rl_sort_2 i σ K (has _ (List.mem_of_getElem? (i := 0) rfl)) hσ hG v1 σ' (hL _ (List.mem_of_getElem? (i := 1) rfl)) hs n hn hQ⟩
        · cases hk
          obtain ⟨v1, v2, v3, v4, v5, rfl, hn, hQ⟩ := hP
          exact ⟨1000, l_Rl_sort_23 i σ K (has _ (List.mem_of_getElem? (i := 0) rfl)) hσ hG v1 v2 v3 v4 v5 σ' (hL _ (List.mem_of_getElem? (i := 1) rfl)) (hL _ (List.mem_of_getElem? (i := 2) rfl)) (hL _ (List.mem_of_getElem? (i := 3) rfl)) (hL _ (List.mem_of_getElem? (i := 4) rfl)) (hL _ (List.mem_of_getElem? (i := 5) rfl)) hs n hn hQ⟩
        · cases hk
      · exact e_Rl_sort i σ K (has _ (List.mem_of_getElem? (i := 0) rfl)) hσ hG
    · exact hG2.elim
