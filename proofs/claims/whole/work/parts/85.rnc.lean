/-! RUNS: what is asked of them; the class -/
def RnL : List (Nat × Nat) := RlL 0 ++ [(553, 0)]
def RnV (σ : SS) : Prop := RL (cW σ) (σ 501 0 0) (σ 303 0 0) (σ 35 0) (σ 36 0) (σ 37 0) ∧ RLs (σ 303 0 0) (σ 35 0) (σ 37 0)
def RnC (σ : SS) : Prop := σ 553 0 0 ≠ 0 → RnV σ
def NQ (σ σ' : SS) : Prop := Fr RnL σ σ' ∧ TwC σ'
theorem NQ.rf {σ : SS} (h : TwC σ) : NQ σ σ := ⟨Fr_refl, h⟩
theorem NQ.w {σ σ' : SS} (h : NQ σ σ') : cW σ' = cW σ ∧ σ' 501 0 0 = σ 501 0 0 := by
  have e1 : σ' 20 0 = σ 20 0 := h.1 _ _ (by simp [RnL, RlL])
  have e2 : σ' 501 0 = σ 501 0 := h.1 _ _ (by simp [RnL, RlL])
  exact ⟨cW_fr e1 e2, by rw [e2]⟩
theorem RnV_few {σ : SS} (h : RnV σ) (hT : TwC σ) : 0 ≤ σ 303 0 0 ∧ σ 303 0 0 ≤ 119 := by
  have a := RL_few h.1 (RLs_d h.1 h.2)
  have b := hT.n
  have c := h.1.1
  omega
def RRun (w : Int → Int) (n k a r : Int) : Prop := ∃ (m : Int) (f t g : Int → Int), RL w n m f t g ∧ RLs m f g ∧ ((k = -1 ∧ a = 0 ∧ r = m) ∨ (¬ (k = -1 ∧ a = 0) ∧ ¬ (0 ≤ k ∧ k < m) ∧ r = -1) ∨ (¬ (k = -1 ∧ a = 0) ∧ (0 ≤ k ∧ k < m) ∧ ((a = 0 ∧ r = f k) ∨ (a = 1 ∧ r = t k) ∨ (a = 2 ∧ r = g k) ∨ (a = 3 ∧ fstL w (f k) (g k) r) ∨ (a = 4 ∧ r = Int.tdiv ((t k - f k) * 1000) (g k)) ∨ ((a < 0 ∨ 4 < a) ∧ r = -1))))
theorem RRun_u {w : Int → Int} {n k a r r' : Int} (h : RRun w n k a r) (h' : RRun w n k a r') : r = r' := by
  obtain ⟨m, f, t, g, h1, h2, h3⟩ := h
  obtain ⟨m', f', t', g', h4, h5, h6⟩ := h'
  obtain ⟨e, ag⟩ := RL_u h1 h2 h4 h5
  subst e
  rcases h3 with h3 | h3 | ⟨a1, a2, h3⟩
  · rcases h6 with h6 | h6 | h6 <;> omega
  · rcases h6 with h6 | h6 | h6 <;> omega
  · rcases h6 with h6 | h6 | ⟨b1, b2, h6⟩
    · omega
    · omega
    · obtain ⟨c1, c2, c3⟩ := ag k a2.1 a2.2
      rw [← c1, ← c2, ← c3] at h6
      rcases h3 with h3 | h3 | h3 | h3 | h3 | h3 <;> rcases h6 with h6 | h6 | h6 | h6 | h6 | h6 <;> first | exact fstL_u h3.2 h6.2 | exact h3.2.trans h6.2.symm | omega
def RRuns (w : Int → Int) (n p r : Int) : Prop := gd (0 ≤ p ∧ p < n) (-1) r (∃ (m : Int) (f t g : Int → Int), RL w n m f t g ∧ RLs m f g ∧ r = cntZ (fun k => f k ≤ p ∧ p < t k) 0 m)
theorem RRuns_u {w : Int → Int} {n p r r' : Int} (h : RRuns w n p r) (h' : RRuns w n p r') : r = r' := by
  refine gd_uniq h h' (fun _ z y => ?_)
  obtain ⟨m, f, t, g, h1, h2, h3⟩ := z
  obtain ⟨m', f', t', g', h4, h5, h6⟩ := y
  obtain ⟨e, ag⟩ := RL_u h1 h2 h4 h5
  subst e
  rw [h3, h6]
  exact cntZ_congr (fun k k0 k1 => by rw [(ag k k0 k1).1, (ag k k0 k1).2.1])
def RExp (w : Int → Int) (n r : Int) : Prop := ∃ (m : Int) (f t g : Int → Int), RL w n m f t g ∧ RLs m f g ∧ r = sumZ (fun k => Int.tdiv ((t k - f k) * 1000) (g k)) 0 m
theorem RExp_u {w : Int → Int} {n r r' : Int} (h : RExp w n r) (h' : RExp w n r') : r = r' := by
  obtain ⟨m, f, t, g, h1, h2, h3⟩ := h
  obtain ⟨m', f', t', g', h4, h5, h6⟩ := h'
  obtain ⟨e, ag⟩ := RL_u h1 h2 h4 h5
  subst e
  rw [h3, h6]
  exact sumZ_congr (fun k k0 k1 => by rw [(ag k k0 k1).1, (ag k k0 k1).2.1, (ag k k0 k1).2.2])
/-- the first greatest, from nothing on -/
def fgM (f : Int → Int) (x m b : Int) : Prop := (∀ i, 0 ≤ i → i < x → f i ≤ m) ∧ (∀ i, 0 ≤ i → i < b → f i < m) ∧ 0 ≤ b ∧ b < x ∧ f b = m
def fgS (f : Int → Int) (x m b : Int) : Prop := (x = 0 ∧ m = -1 ∧ b = 0) ∨ (0 < x ∧ fgM f x m b)
theorem fg_yes {f : Int → Int} {x m b : Int} (h : fgS f x m b) (hx : 0 ≤ x) (hf : m < f x) : fgS f (x + 1) (f x) x := by
  refine Or.inr ⟨by omega, fun i i0 i1 => ?_, fun i i0 i1 => ?_, hx, by omega, rfl⟩
  · rcases (by omega : i < x ∨ i = x) with c | c
    · rcases h with h | ⟨_, h⟩
      · omega
      · have := h.1 i i0 c; omega
    · rw [c]; exact Int.le_refl _
  · rcases h with h | ⟨_, h⟩
    · omega
    · have := h.1 i i0 i1; omega
theorem fg_no {f : Int → Int} {x m b : Int} (h : fgS f x m b) (hx : 0 ≤ x) (h0 : 0 ≤ f x) (hf : f x ≤ m) : fgS f (x + 1) m b := by
  rcases h with h | ⟨g0, g1, g2, g3, g4, g5⟩
  · omega
  · refine Or.inr ⟨by omega, fun i i0 i1 => ?_, g2, g3, by omega, g5⟩
    rcases (by omega : i < x ∨ i = x) with c | c
    · exact g1 i i0 c
    · rw [c]; exact hf
theorem fg_u {f : Int → Int} {x m b m' b' : Int} (h : fgM f x m b) (h' : fgM f x m' b') : m = m' ∧ b = b' := by
  obtain ⟨g1, g2, g3, g4, g5⟩ := h
  obtain ⟨k1, k2, k3, k4, k5⟩ := h'
  have a := g1 b' k3 k4
  have c := k1 b g3 g4
  refine ⟨by omega, ?_⟩
  rcases (by omega : b < b' ∨ b = b' ∨ b' < b) with d | d | d
  · have := k2 b g3 d; omega
  · exact d
  · have := g2 b' k3 d; omega
def updW (w : Int → Int) (p c : Int) : Int → Int := fun x => if x = p then c else w x
def RChange (w : Int → Int) (n p a r : Int) : Prop := gd ((0 ≤ p ∧ p < n) ∧ 0 ≤ a ∧ a ≤ 1) (-1) r (∃ m b, fgM (fun c => nR (updW w p c) n) 26 m b ∧ r = if a = 0 then b else m)
theorem RChange_u {w : Int → Int} {n p a r r' : Int} (h : RChange w n p a r) (h' : RChange w n p a r') : r = r' := by
  refine gd_uniq h h' (fun _ z y => ?_)
  obtain ⟨m, b, h1, h2⟩ := z
  obtain ⟨m', b', h3, h4⟩ := y
  obtain ⟨e1, e2⟩ := fg_u h1 h3
  rw [h2, h4, e1, e2]
theorem isRun_to {w w' : Int → Int} {n i j p : Int} (h : ∀ x y, 0 ≤ x → x < n → 0 ≤ y → y < n → (w x = w y ↔ w' x = w' y)) (r : isRun w n i j p) : isRun w' n i j p := by
  obtain ⟨⟨r1, r2, r3, r4⟩, r5, r6, r7, r8⟩ := r
  refine ⟨⟨r1, r2, r3, r4⟩, fun y y0 y1 => (h _ _ (by omega) (by omega) (by omega) (by omega)).mp (r5 y y0 y1), ?_, ?_, fun q q0 q1 z => r8 q q0 q1 (fun y y0 y1 => (h _ _ (by omega) (by omega) (by omega) (by omega)).mpr (z y y0 y1))⟩
  · rcases (by omega : i = 0 ∨ 0 < i) with c | c
    · exact Or.inl c
    · rcases r6 with z | z
      · exact Or.inl z
      · exact Or.inr (fun y => z ((h _ _ (by omega) (by omega) (by omega) (by omega)).mpr y))
  · rcases (by omega : j = n ∨ j < n) with c | c
    · exact Or.inl c
    · rcases r7 with z | z
      · exact Or.inl z
      · exact Or.inr (fun y => z ((h _ _ (by omega) (by omega) (by omega) (by omega)).mpr y))
theorem nR_iso {w w' : Int → Int} {n : Int} (h : ∀ x y, 0 ≤ x → x < n → 0 ≤ y → y < n → (w x = w y ↔ w' x = w' y)) : nR w n = nR w' n :=
  cntZ_congr (fun x _ _ => ⟨fun ⟨i, j, p, r, e⟩ => ⟨i, j, p, isRun_to h r, e⟩, fun ⟨i, j, p, r, e⟩ => ⟨i, j, p, isRun_to (fun x y a b c d => (h x y a b c d).symm) r, e⟩⟩)
theorem nR_congr {w w' : Int → Int} {n : Int} (h : ∀ x, 0 ≤ x → x < n → w x = w' x) : nR w n = nR w' n := nR_iso (fun x y x0 x1 y0 y1 => by rw [h x x0 x1, h y y0 y1])
theorem nR_fresh {w : Int → Int} {n p c d : Int} (hc : ∀ x, 0 ≤ x → x < n → x ≠ p → w x ≠ c) (hd : ∀ x, 0 ≤ x → x < n → x ≠ p → w x ≠ d) : nR (updW w p c) n = nR (updW w p d) n := nR_iso (fun x y x0 x1 y0 y1 => by
  unfold updW
  by_cases a : x = p
  · by_cases b : y = p
    · rw [if_pos a, if_pos b, if_pos a, if_pos b]; exact ⟨fun _ => rfl, fun _ => rfl⟩
    · rw [if_pos a, if_neg b, if_pos a, if_neg b]
      exact ⟨fun z => absurd z.symm (hc y y0 y1 b), fun z => absurd z.symm (hd y y0 y1 b)⟩
  · by_cases b : y = p
    · rw [if_neg a, if_pos b, if_neg a, if_pos b]
      exact ⟨fun z => absurd z (hc x x0 x1 a), fun z => absurd z (hd x x0 x1 a)⟩
    · rw [if_neg a, if_neg b, if_neg a, if_neg b])
theorem nR_0 {w : Int → Int} {n : Int} : 0 ≤ nR w n := (cntZ_in (a := 0) (b := 200000)).1
theorem or01 {a b : Int} (ha : a = 0 ∨ a = 1) (hb : b = 0 ∨ b = 1) : orI a b = if a = 0 ∧ b = 0 then 0 else 1 := by
  rcases ha with rfl | rfl <;> rcases hb with rfl | rfl <;> decide
def S_Wr_foundRuns : GS := fun as σ K => match as with
  | [some (.inr (.inr (11, 0)))] => (TwC σ ∧ RnC σ) ∧ ∀ σ', NQ σ σ' → RnV σ' → K (vR 5 0) σ'
  | _ => False
def VE_Wr_foundRuns (σ : SS) (K : AV → SS → Prop) : Prop :=
  (((σ 553 0 0) ≠ 0 →
    (K (vR 5 0) σ)) ∧
  ((σ 553 0 0) = 0 →
    (S_Rl_find [vR 5 0, vR 10 0] σ (kV fun σ1 =>
      (S_Rl_sort [vR 5 0] σ1 (kV fun σ2 =>
        ((0 ≤ (1 : Int) ∧ (1 : Int) ≤ 1) ∧ (∀ σ3 : SS, σ3 = u3 σ2 553 0 0 1 →
        (K (vR 5 0) σ3)))))))))
theorem e_Wr_foundRuns (σ : SS) (K : AV → SS → Prop) (hs : okS σ) (hG : S_Wr_foundRuns [vR 11 0] σ K) : VE_Wr_foundRuns σ K := by
  unfold VE_Wr_foundRuns
  obtain ⟨⟨hT, hR⟩, hG⟩ := hG
  refine ⟨fun c1 => ?_, fun c1 => ?_⟩
  · skip
    exact hG _ (NQ.rf hT) (hR (by assumption))
  · skip
    refine ⟨(by exact hT.1), (fun σ2 h2a h2b h2c => ?_)⟩
    intro _
    have f1 := h2a
    have f2 := h2b
    have f3 := h2c
    have few := RL_few f2 (RLt_d f2.2.1 f3)
    have hb := hT.n
    have m0 := f2.1
    refine ⟨(by exact ⟨⟨m0, by omega⟩, f3⟩), (fun σ3 h3a h3b h3c => ?_)⟩
    intro _
    have s1 := h3a
    have s2 := h3b
    have s3 := h3c
    refine ⟨(by omega), fun σ4 e4 => ?_⟩
    have k1 : σ3 303 0 = σ2 303 0 := s1 _ _ (by simp [RlS])
    have nq : NQ σ σ4 := by
      have fr : Fr RnL σ σ4 := Fr_trans (Fr_mono f1 (by simp [RnL, RlL])) (Fr_trans (Fr_mono s1 (by simp [RnL, RlS, RlL])) (by rw [e4]; exact Fr_u3 (by simp [RnL])))
      exact ⟨fr, TwC_o hT fr (by simp [RnL, RlL])⟩
    obtain ⟨w1, w2⟩ := nq.w
    refine hG _ nq ?_
    unfold RnV
    rw [w1, w2, show σ4 303 0 = σ3 303 0 by rw [e4]; exact congrFun (u3_F (by decide)) 0, show σ4 35 0 = σ3 35 0 by rw [e4]; exact congrFun (u3_F (by decide)) 0, show σ4 36 0 = σ3 36 0 by rw [e4]; exact congrFun (u3_F (by decide)) 0, show σ4 37 0 = σ3 37 0 by rw [e4]; exact congrFun (u3_F (by decide)) 0, k1]
    exact ⟨RL_set f2 s2, s3⟩
theorem H_Wr_foundRuns {d : Nat} (hd : 4 ≤ d) : Holds d I_Wr_foundRuns S_Wr_foundRuns := by
  refine holds_of (d' := d - 1) (rt := 3) (cal := [(I_Rl_find, S_Rl_find), (I_Rl_sort, S_Rl_sort)]) (C := C_Wr_foundRuns) m_Wr_foundRuns o_Wr_foundRuns rfl rfl (by omega) ?_ ?_
  · intro x hx
    simp only [List.mem_cons, List.not_mem_nil, or_false] at hx
    rcases hx with rfl | rfl
    · exact H_Rl_find (by omega)
    · exact H_Rl_sort (by omega)
  · intro as σ K has hσ hG
    have hG2 := hG
    unfold S_Wr_foundRuns at hG2
    split at hG2
    · skip
      refine ⟨Nat.le_of_ble_eq_true rfl, (fun _ => none), ?_, 1000, ?_⟩
      · intro k n z L σ' hk hL hs hP
        cases hk
      · exact e_Wr_foundRuns σ K  hσ hG
    · exact hG2.elim
def S_Wr_run : GS := fun as σ K => match as with
  | [some (.inr (.inr (11, 0))), some (.inl a1), some (.inl a2)] => (TwC σ ∧ RnC σ) ∧ ∀ σ' r, NQ σ σ' → RnC σ' → RRun (cW σ) (σ 501 0 0) a1 a2 r → K (vI r) σ'
  | _ => False
def VE_Wr_run (a1 : Int) (a2 : Int) (σ : SS) (K : AV → SS → Prop) : Prop :=
  (S_Wr_foundRuns [vR 11 0] σ (kR 5 fun i1 σ1 =>
    ((a1 ≠ (-1) →
      ((a1 < 0 →
        (K (vI (-1)) σ1)) ∧
      ((0 : Int) ≤ a1 →
        (S_Rl_size [vR 5 i1] σ1 (kI fun r2 σ2 =>
          ((a1 < r2 →
            (((a2 = 0 →
              (S_Rl_from [vR 5 i1, vI a1] σ2 (kI fun r3 σ3 =>
                (K (vI r3) σ3)))) ∧
            ((a2 = 1 →
              (S_Rl_to [vR 5 i1, vI a1] σ2 (kI fun r4 σ4 =>
                (K (vI r4) σ4)))) ∧
            ((a2 = 2 →
              (S_Rl_gap [vR 5 i1, vI a1] σ2 (kI fun r5 σ5 =>
                (K (vI r5) σ5)))) ∧
            ((a2 = 3 →
              (S_Rl_from [vR 5 i1, vI a1] σ2 (kI fun r6 σ6 =>
                (S_Rl_from [vR 5 i1, vI a1] σ6 (kI fun r7 σ7 =>
                  (S_Rl_from [vR 5 i1, vI a1] σ7 (kI fun r8 σ8 =>
                    (S_Rl_gap [vR 5 i1, vI a1] σ8 (kI fun r9 σ9 =>
                      (InR (r8 + r9) ∧
                      (S_Or_leastRotation [vR 1 0, vI r7, vI (r8 + r9)] σ9 (kI fun r10 σ10 =>
                        (InR (r6 + r10) ∧
                        (K (vI (r6 + r10)) σ10)))))))))))))) ∧
            ((a2 = 4 →
              (S_Rl_thousandths [vR 5 i1, vI a1] σ2 (kI fun r11 σ11 =>
                (K (vI r11) σ11)))) ∧
            True))))) ∧
            (a2 < 0 ∨ 4 < a2 →
              (K (vI (-1)) σ2)))) ∧
          (r2 ≤ a1 →
            (K (vI (-1)) σ2)))))))) ∧
    (a1 = (-1) →
      ((a2 ≠ 0 →
        ((a1 < 0 →
          (K (vI (-1)) σ1)) ∧
        ((0 : Int) ≤ a1 →
          (S_Rl_size [vR 5 i1] σ1 (kI fun r12 σ12 =>
            ((a1 < r12 →
              (((a2 = 0 →
                (S_Rl_from [vR 5 i1, vI a1] σ12 (kI fun r13 σ13 =>
                  (K (vI r13) σ13)))) ∧
              ((a2 = 1 →
                (S_Rl_to [vR 5 i1, vI a1] σ12 (kI fun r14 σ14 =>
                  (K (vI r14) σ14)))) ∧
              ((a2 = 2 →
                (S_Rl_gap [vR 5 i1, vI a1] σ12 (kI fun r15 σ15 =>
                  (K (vI r15) σ15)))) ∧
              ((a2 = 3 →
                (S_Rl_from [vR 5 i1, vI a1] σ12 (kI fun r16 σ16 =>
                  (S_Rl_from [vR 5 i1, vI a1] σ16 (kI fun r17 σ17 =>
                    (S_Rl_from [vR 5 i1, vI a1] σ17 (kI fun r18 σ18 =>
                      (S_Rl_gap [vR 5 i1, vI a1] σ18 (kI fun r19 σ19 =>
                        (InR (r18 + r19) ∧
                        (S_Or_leastRotation [vR 1 0, vI r17, vI (r18 + r19)] σ19 (kI fun r20 σ20 =>
                          (InR (r16 + r20) ∧
                          (K (vI (r16 + r20)) σ20)))))))))))))) ∧
              ((a2 = 4 →
                (S_Rl_thousandths [vR 5 i1, vI a1] σ12 (kI fun r21 σ21 =>
                  (K (vI r21) σ21)))) ∧
              True))))) ∧
              (a2 < 0 ∨ 4 < a2 →
                (K (vI (-1)) σ12)))) ∧
            (r12 ≤ a1 →
              (K (vI (-1)) σ12)))))))) ∧
      (a2 = 0 →
        (S_Rl_size [vR 5 i1] σ1 (kI fun r22 σ22 =>
          (K (vI r22) σ22)))))))))
theorem e_Wr_run (a1 : Int) (a2 : Int) (σ : SS) (K : AV → SS → Prop) (ha1 : InR a1) (ha2 : InR a2) (hs : okS σ) (hG : S_Wr_run [vR 11 0, vI a1, vI a2] σ K) : VE_Wr_run a1 a2 σ K := by
  unfold VE_Wr_run
  obtain ⟨⟨hT, hR⟩, hG⟩ := hG
  refine ⟨(by exact ⟨hT, hR⟩), (fun σ1 h1a h1b => ?_)⟩
  refine ⟨rfl, ?_⟩
  intro _ _
  have nq := h1a
  have rc : RnC σ1 := fun _ => h1b
  have few := RnV_few h1b (h1a).2
  obtain ⟨w1, w2⟩ := nq.w
  have rv := h1b
  unfold RnV at rv
  rw [w1, w2] at rv
  have bad : ¬ (a1 = -1 ∧ a2 = 0) → ¬ (0 ≤ a1 ∧ a1 < σ1 303 0 0) → K (vI (-1)) σ1 := fun x y => hG _ _ nq rc ⟨_, _, _, _, rv.1, rv.2, Or.inr (Or.inl ⟨x, y, rfl⟩)⟩
  have got : ∀ r, ¬ (a1 = -1 ∧ a2 = 0) → 0 ≤ a1 ∧ a1 < σ1 303 0 0 → _ → K (vI r) σ1 := fun r x y z => hG _ r nq rc ⟨_, _, _, _, rv.1, rv.2, Or.inr (Or.inr ⟨x, y, z⟩)⟩
  have rb : 0 ≤ a1 ∧ a1 < σ1 303 0 0 → (0 ≤ σ1 35 0 a1 ∧ σ1 36 0 a1 ≤ 120 ∧ 1 ≤ σ1 37 0 a1 ∧ 2 * σ1 37 0 a1 ≤ σ1 36 0 a1 - σ1 35 0 a1 ∧ σ1 36 0 a1 ≤ (σ 501 0 0)) ∧ fstL (cW σ) (σ1 35 0 a1) (σ1 37 0 a1) (σ1 35 0 a1 + lrF (cW σ) (σ1 35 0 a1) (σ1 37 0 a1)) ∧ 0 ≤ lrF (cW σ) (σ1 35 0 a1) (σ1 37 0 a1) ∧ lrF (cW σ) (σ1 35 0 a1) (σ1 37 0 a1) < σ1 37 0 a1 := fun x => by
    have rk := rv.1.2.1 a1 x.1 x.2
    have r0 := rk.1
    have hb := hT.n
    exact ⟨by omega, lr_fst rk⟩
  refine ⟨fun c2 => ?_, fun c2 => ?_⟩
  · skip
    refine ⟨fun c3 => ?_, fun c3 => ?_⟩
    · skip
      first
        | exact bad (by omega) (by omega)
        | exact got _ (by omega) (by omega) (Or.inl ⟨by assumption, rfl⟩)
        | exact got _ (by omega) (by omega) (Or.inr (Or.inl ⟨by assumption, rfl⟩))
        | exact got _ (by omega) (by omega) (Or.inr (Or.inr (Or.inl ⟨by assumption, rfl⟩)))
        | exact got _ (by omega) (by omega) (Or.inr (Or.inr (Or.inr (Or.inl ⟨by assumption, (rb ⟨by omega, by omega⟩).2.1⟩))))
        | exact got _ (by omega) (by omega) (Or.inr (Or.inr (Or.inr (Or.inr (Or.inl ⟨by assumption, rfl⟩)))))
        | exact got _ (by omega) (by omega) (Or.inr (Or.inr (Or.inr (Or.inr (Or.inr ⟨by omega, rfl⟩)))))
        | exact hG _ _ nq rc ⟨_, _, _, _, rv.1, rv.2, Or.inl ⟨by omega, by omega, rfl⟩⟩
    · skip
      intro _ _
      refine ⟨fun c4 => ?_, fun c4 => ?_⟩
      · skip
        have rb1 := rb (by omega)
        obtain ⟨⟨b1, b2, b3, b4, b5⟩, b6, b7, b8⟩ := rb1
        refine ⟨⟨fun c5 => ?_, fun c5 => ?_, fun c5 => ?_, fun c5 => ?_, fun c5 => ?_, trivial⟩, fun c5 => ?_⟩
        · skip
          refine ⟨(by exact ⟨by omega, by omega, by omega⟩), ?_⟩
          intro _ _
          first
            | exact bad (by omega) (by omega)
            | exact got _ (by omega) (by omega) (Or.inl ⟨by assumption, rfl⟩)
            | exact got _ (by omega) (by omega) (Or.inr (Or.inl ⟨by assumption, rfl⟩))
            | exact got _ (by omega) (by omega) (Or.inr (Or.inr (Or.inl ⟨by assumption, rfl⟩)))
            | exact got _ (by omega) (by omega) (Or.inr (Or.inr (Or.inr (Or.inl ⟨by assumption, (rb ⟨by omega, by omega⟩).2.1⟩))))
            | exact got _ (by omega) (by omega) (Or.inr (Or.inr (Or.inr (Or.inr (Or.inl ⟨by assumption, rfl⟩)))))
            | exact got _ (by omega) (by omega) (Or.inr (Or.inr (Or.inr (Or.inr (Or.inr ⟨by omega, rfl⟩)))))
            | exact hG _ _ nq rc ⟨_, _, _, _, rv.1, rv.2, Or.inl ⟨by omega, by omega, rfl⟩⟩
        · skip
          refine ⟨(by exact ⟨by omega, by omega, by omega⟩), ?_⟩
          intro _ _
          first
            | exact bad (by omega) (by omega)
            | exact got _ (by omega) (by omega) (Or.inl ⟨by assumption, rfl⟩)
            | exact got _ (by omega) (by omega) (Or.inr (Or.inl ⟨by assumption, rfl⟩))
            | exact got _ (by omega) (by omega) (Or.inr (Or.inr (Or.inl ⟨by assumption, rfl⟩)))
            | exact got _ (by omega) (by omega) (Or.inr (Or.inr (Or.inr (Or.inl ⟨by assumption, (rb ⟨by omega, by omega⟩).2.1⟩))))
            | exact got _ (by omega) (by omega) (Or.inr (Or.inr (Or.inr (Or.inr (Or.inl ⟨by assumption, rfl⟩)))))
            | exact got _ (by omega) (by omega) (Or.inr (Or.inr (Or.inr (Or.inr (Or.inr ⟨by omega, rfl⟩)))))
            | exact hG _ _ nq rc ⟨_, _, _, _, rv.1, rv.2, Or.inl ⟨by omega, by omega, rfl⟩⟩
        · skip
          refine ⟨(by exact ⟨by omega, by omega, by omega⟩), ?_⟩
          intro _ _
          first
            | exact bad (by omega) (by omega)
            | exact got _ (by omega) (by omega) (Or.inl ⟨by assumption, rfl⟩)
            | exact got _ (by omega) (by omega) (Or.inr (Or.inl ⟨by assumption, rfl⟩))
            | exact got _ (by omega) (by omega) (Or.inr (Or.inr (Or.inl ⟨by assumption, rfl⟩)))
            | exact got _ (by omega) (by omega) (Or.inr (Or.inr (Or.inr (Or.inl ⟨by assumption, (rb ⟨by omega, by omega⟩).2.1⟩))))
            | exact got _ (by omega) (by omega) (Or.inr (Or.inr (Or.inr (Or.inr (Or.inl ⟨by assumption, rfl⟩)))))
            | exact got _ (by omega) (by omega) (Or.inr (Or.inr (Or.inr (Or.inr (Or.inr ⟨by omega, rfl⟩)))))
            | exact hG _ _ nq rc ⟨_, _, _, _, rv.1, rv.2, Or.inl ⟨by omega, by omega, rfl⟩⟩
        · skip
          refine ⟨(by exact ⟨by omega, by omega, by omega⟩), ?_⟩
          intro _ _
          refine ⟨(by exact ⟨by omega, by omega, by omega⟩), ?_⟩
          intro _ _
          refine ⟨(by exact ⟨by omega, by omega, by omega⟩), ?_⟩
          intro _ _
          refine ⟨(by exact ⟨by omega, by omega, by omega⟩), ?_⟩
          intro _ _
          refine ⟨(by omega), ?_⟩
          refine ⟨(by exact ⟨nq.2, by omega, by omega, by rw [w2]; omega⟩), ?_⟩
          intro _ _
          rw [w1, show ∀ x y : Int, x + y - x = y from fun x y => by omega]
          refine ⟨(by omega), ?_⟩
          first
            | exact bad (by omega) (by omega)
            | exact got _ (by omega) (by omega) (Or.inl ⟨by assumption, rfl⟩)
            | exact got _ (by omega) (by omega) (Or.inr (Or.inl ⟨by assumption, rfl⟩))
            | exact got _ (by omega) (by omega) (Or.inr (Or.inr (Or.inl ⟨by assumption, rfl⟩)))
            | exact got _ (by omega) (by omega) (Or.inr (Or.inr (Or.inr (Or.inl ⟨by assumption, (rb ⟨by omega, by omega⟩).2.1⟩))))
            | exact got _ (by omega) (by omega) (Or.inr (Or.inr (Or.inr (Or.inr (Or.inl ⟨by assumption, rfl⟩)))))
            | exact got _ (by omega) (by omega) (Or.inr (Or.inr (Or.inr (Or.inr (Or.inr ⟨by omega, rfl⟩)))))
            | exact hG _ _ nq rc ⟨_, _, _, _, rv.1, rv.2, Or.inl ⟨by omega, by omega, rfl⟩⟩
        · skip
          refine ⟨(by exact ⟨⟨by omega, by omega, by omega⟩, by omega, by omega, by omega⟩), ?_⟩
          intro _ _
          first
            | exact bad (by omega) (by omega)
            | exact got _ (by omega) (by omega) (Or.inl ⟨by assumption, rfl⟩)
            | exact got _ (by omega) (by omega) (Or.inr (Or.inl ⟨by assumption, rfl⟩))
            | exact got _ (by omega) (by omega) (Or.inr (Or.inr (Or.inl ⟨by assumption, rfl⟩)))
            | exact got _ (by omega) (by omega) (Or.inr (Or.inr (Or.inr (Or.inl ⟨by assumption, (rb ⟨by omega, by omega⟩).2.1⟩))))
            | exact got _ (by omega) (by omega) (Or.inr (Or.inr (Or.inr (Or.inr (Or.inl ⟨by assumption, rfl⟩)))))
            | exact got _ (by omega) (by omega) (Or.inr (Or.inr (Or.inr (Or.inr (Or.inr ⟨by omega, rfl⟩)))))
            | exact hG _ _ nq rc ⟨_, _, _, _, rv.1, rv.2, Or.inl ⟨by omega, by omega, rfl⟩⟩
        · skip
          first
            | exact bad (by omega) (by omega)
            | exact got _ (by omega) (by omega) (Or.inl ⟨by assumption, rfl⟩)
            | exact got _ (by omega) (by omega) (Or.inr (Or.inl ⟨by assumption, rfl⟩))
            | exact got _ (by omega) (by omega) (Or.inr (Or.inr (Or.inl ⟨by assumption, rfl⟩)))
            | exact got _ (by omega) (by omega) (Or.inr (Or.inr (Or.inr (Or.inl ⟨by assumption, (rb ⟨by omega, by omega⟩).2.1⟩))))
            | exact got _ (by omega) (by omega) (Or.inr (Or.inr (Or.inr (Or.inr (Or.inl ⟨by assumption, rfl⟩)))))
            | exact got _ (by omega) (by omega) (Or.inr (Or.inr (Or.inr (Or.inr (Or.inr ⟨by omega, rfl⟩)))))
            | exact hG _ _ nq rc ⟨_, _, _, _, rv.1, rv.2, Or.inl ⟨by omega, by omega, rfl⟩⟩
      · skip
        first
          | exact bad (by omega) (by omega)
          | exact got _ (by omega) (by omega) (Or.inl ⟨by assumption, rfl⟩)
          | exact got _ (by omega) (by omega) (Or.inr (Or.inl ⟨by assumption, rfl⟩))
          | exact got _ (by omega) (by omega) (Or.inr (Or.inr (Or.inl ⟨by assumption, rfl⟩)))
          | exact got _ (by omega) (by omega) (Or.inr (Or.inr (Or.inr (Or.inl ⟨by assumption, (rb ⟨by omega, by omega⟩).2.1⟩))))
          | exact got _ (by omega) (by omega) (Or.inr (Or.inr (Or.inr (Or.inr (Or.inl ⟨by assumption, rfl⟩)))))
          | exact got _ (by omega) (by omega) (Or.inr (Or.inr (Or.inr (Or.inr (Or.inr ⟨by omega, rfl⟩)))))
          | exact hG _ _ nq rc ⟨_, _, _, _, rv.1, rv.2, Or.inl ⟨by omega, by omega, rfl⟩⟩
  · skip
    refine ⟨fun c3 => ?_, fun c3 => ?_⟩
    · skip
      refine ⟨fun c4 => ?_, fun c4 => ?_⟩
      · skip
        first
          | exact bad (by omega) (by omega)
          | exact got _ (by omega) (by omega) (Or.inl ⟨by assumption, rfl⟩)
          | exact got _ (by omega) (by omega) (Or.inr (Or.inl ⟨by assumption, rfl⟩))
          | exact got _ (by omega) (by omega) (Or.inr (Or.inr (Or.inl ⟨by assumption, rfl⟩)))
          | exact got _ (by omega) (by omega) (Or.inr (Or.inr (Or.inr (Or.inl ⟨by assumption, (rb ⟨by omega, by omega⟩).2.1⟩))))
          | exact got _ (by omega) (by omega) (Or.inr (Or.inr (Or.inr (Or.inr (Or.inl ⟨by assumption, rfl⟩)))))
          | exact got _ (by omega) (by omega) (Or.inr (Or.inr (Or.inr (Or.inr (Or.inr ⟨by omega, rfl⟩)))))
          | exact hG _ _ nq rc ⟨_, _, _, _, rv.1, rv.2, Or.inl ⟨by omega, by omega, rfl⟩⟩
      · skip
        intro _ _
        refine ⟨fun c5 => ?_, fun c5 => ?_⟩
        · skip
          have rb1 := rb (by omega)
          obtain ⟨⟨b1, b2, b3, b4, b5⟩, b6, b7, b8⟩ := rb1
          refine ⟨⟨fun c6 => ?_, fun c6 => ?_, fun c6 => ?_, fun c6 => ?_, fun c6 => ?_, trivial⟩, fun c6 => ?_⟩
          · skip
            refine ⟨(by exact ⟨by omega, by omega, by omega⟩), ?_⟩
            intro _ _
            first
              | exact bad (by omega) (by omega)
              | exact got _ (by omega) (by omega) (Or.inl ⟨by assumption, rfl⟩)
              | exact got _ (by omega) (by omega) (Or.inr (Or.inl ⟨by assumption, rfl⟩))
              | exact got _ (by omega) (by omega) (Or.inr (Or.inr (Or.inl ⟨by assumption, rfl⟩)))
              | exact got _ (by omega) (by omega) (Or.inr (Or.inr (Or.inr (Or.inl ⟨by assumption, (rb ⟨by omega, by omega⟩).2.1⟩))))
              | exact got _ (by omega) (by omega) (Or.inr (Or.inr (Or.inr (Or.inr (Or.inl ⟨by assumption, rfl⟩)))))
              | exact got _ (by omega) (by omega) (Or.inr (Or.inr (Or.inr (Or.inr (Or.inr ⟨by omega, rfl⟩)))))
              | exact hG _ _ nq rc ⟨_, _, _, _, rv.1, rv.2, Or.inl ⟨by omega, by omega, rfl⟩⟩
          · skip
            refine ⟨(by exact ⟨by omega, by omega, by omega⟩), ?_⟩
            intro _ _
            first
              | exact bad (by omega) (by omega)
              | exact got _ (by omega) (by omega) (Or.inl ⟨by assumption, rfl⟩)
              | exact got _ (by omega) (by omega) (Or.inr (Or.inl ⟨by assumption, rfl⟩))
              | exact got _ (by omega) (by omega) (Or.inr (Or.inr (Or.inl ⟨by assumption, rfl⟩)))
              | exact got _ (by omega) (by omega) (Or.inr (Or.inr (Or.inr (Or.inl ⟨by assumption, (rb ⟨by omega, by omega⟩).2.1⟩))))
              | exact got _ (by omega) (by omega) (Or.inr (Or.inr (Or.inr (Or.inr (Or.inl ⟨by assumption, rfl⟩)))))
              | exact got _ (by omega) (by omega) (Or.inr (Or.inr (Or.inr (Or.inr (Or.inr ⟨by omega, rfl⟩)))))
              | exact hG _ _ nq rc ⟨_, _, _, _, rv.1, rv.2, Or.inl ⟨by omega, by omega, rfl⟩⟩
          · skip
            refine ⟨(by exact ⟨by omega, by omega, by omega⟩), ?_⟩
            intro _ _
            first
              | exact bad (by omega) (by omega)
              | exact got _ (by omega) (by omega) (Or.inl ⟨by assumption, rfl⟩)
              | exact got _ (by omega) (by omega) (Or.inr (Or.inl ⟨by assumption, rfl⟩))
              | exact got _ (by omega) (by omega) (Or.inr (Or.inr (Or.inl ⟨by assumption, rfl⟩)))
              | exact got _ (by omega) (by omega) (Or.inr (Or.inr (Or.inr (Or.inl ⟨by assumption, (rb ⟨by omega, by omega⟩).2.1⟩))))
              | exact got _ (by omega) (by omega) (Or.inr (Or.inr (Or.inr (Or.inr (Or.inl ⟨by assumption, rfl⟩)))))
              | exact got _ (by omega) (by omega) (Or.inr (Or.inr (Or.inr (Or.inr (Or.inr ⟨by omega, rfl⟩)))))
              | exact hG _ _ nq rc ⟨_, _, _, _, rv.1, rv.2, Or.inl ⟨by omega, by omega, rfl⟩⟩
          · skip
            refine ⟨(by exact ⟨by omega, by omega, by omega⟩), ?_⟩
            intro _ _
            refine ⟨(by exact ⟨by omega, by omega, by omega⟩), ?_⟩
            intro _ _
            refine ⟨(by exact ⟨by omega, by omega, by omega⟩), ?_⟩
            intro _ _
            refine ⟨(by exact ⟨by omega, by omega, by omega⟩), ?_⟩
            intro _ _
            refine ⟨(by omega), ?_⟩
            refine ⟨(by exact ⟨nq.2, by omega, by omega, by rw [w2]; omega⟩), ?_⟩
            intro _ _
            rw [w1, show ∀ x y : Int, x + y - x = y from fun x y => by omega]
            refine ⟨(by omega), ?_⟩
            first
              | exact bad (by omega) (by omega)
              | exact got _ (by omega) (by omega) (Or.inl ⟨by assumption, rfl⟩)
              | exact got _ (by omega) (by omega) (Or.inr (Or.inl ⟨by assumption, rfl⟩))
              | exact got _ (by omega) (by omega) (Or.inr (Or.inr (Or.inl ⟨by assumption, rfl⟩)))
              | exact got _ (by omega) (by omega) (Or.inr (Or.inr (Or.inr (Or.inl ⟨by assumption, (rb ⟨by omega, by omega⟩).2.1⟩))))
              | exact got _ (by omega) (by omega) (Or.inr (Or.inr (Or.inr (Or.inr (Or.inl ⟨by assumption, rfl⟩)))))
              | exact got _ (by omega) (by omega) (Or.inr (Or.inr (Or.inr (Or.inr (Or.inr ⟨by omega, rfl⟩)))))
              | exact hG _ _ nq rc ⟨_, _, _, _, rv.1, rv.2, Or.inl ⟨by omega, by omega, rfl⟩⟩
          · skip
            refine ⟨(by exact ⟨⟨by omega, by omega, by omega⟩, by omega, by omega, by omega⟩), ?_⟩
            intro _ _
            first
              | exact bad (by omega) (by omega)
              | exact got _ (by omega) (by omega) (Or.inl ⟨by assumption, rfl⟩)
              | exact got _ (by omega) (by omega) (Or.inr (Or.inl ⟨by assumption, rfl⟩))
              | exact got _ (by omega) (by omega) (Or.inr (Or.inr (Or.inl ⟨by assumption, rfl⟩)))
              | exact got _ (by omega) (by omega) (Or.inr (Or.inr (Or.inr (Or.inl ⟨by assumption, (rb ⟨by omega, by omega⟩).2.1⟩))))
              | exact got _ (by omega) (by omega) (Or.inr (Or.inr (Or.inr (Or.inr (Or.inl ⟨by assumption, rfl⟩)))))
              | exact got _ (by omega) (by omega) (Or.inr (Or.inr (Or.inr (Or.inr (Or.inr ⟨by omega, rfl⟩)))))
              | exact hG _ _ nq rc ⟨_, _, _, _, rv.1, rv.2, Or.inl ⟨by omega, by omega, rfl⟩⟩
          · skip
            first
              | exact bad (by omega) (by omega)
              | exact got _ (by omega) (by omega) (Or.inl ⟨by assumption, rfl⟩)
              | exact got _ (by omega) (by omega) (Or.inr (Or.inl ⟨by assumption, rfl⟩))
              | exact got _ (by omega) (by omega) (Or.inr (Or.inr (Or.inl ⟨by assumption, rfl⟩)))
              | exact got _ (by omega) (by omega) (Or.inr (Or.inr (Or.inr (Or.inl ⟨by assumption, (rb ⟨by omega, by omega⟩).2.1⟩))))
              | exact got _ (by omega) (by omega) (Or.inr (Or.inr (Or.inr (Or.inr (Or.inl ⟨by assumption, rfl⟩)))))
              | exact got _ (by omega) (by omega) (Or.inr (Or.inr (Or.inr (Or.inr (Or.inr ⟨by omega, rfl⟩)))))
              | exact hG _ _ nq rc ⟨_, _, _, _, rv.1, rv.2, Or.inl ⟨by omega, by omega, rfl⟩⟩
        · skip
          first
            | exact bad (by omega) (by omega)
            | exact got _ (by omega) (by omega) (Or.inl ⟨by assumption, rfl⟩)
            | exact got _ (by omega) (by omega) (Or.inr (Or.inl ⟨by assumption, rfl⟩))
            | exact got _ (by omega) (by omega) (Or.inr (Or.inr (Or.inl ⟨by assumption, rfl⟩)))
            | exact got _ (by omega) (by omega) (Or.inr (Or.inr (Or.inr (Or.inl ⟨by assumption, (rb ⟨by omega, by omega⟩).2.1⟩))))
            | exact got _ (by omega) (by omega) (Or.inr (Or.inr (Or.inr (Or.inr (Or.inl ⟨by assumption, rfl⟩)))))
            | exact got _ (by omega) (by omega) (Or.inr (Or.inr (Or.inr (Or.inr (Or.inr ⟨by omega, rfl⟩)))))
            | exact hG _ _ nq rc ⟨_, _, _, _, rv.1, rv.2, Or.inl ⟨by omega, by omega, rfl⟩⟩
    · skip
      intro _ _
      first
        | exact bad (by omega) (by omega)
        | exact got _ (by omega) (by omega) (Or.inl ⟨by assumption, rfl⟩)
        | exact got _ (by omega) (by omega) (Or.inr (Or.inl ⟨by assumption, rfl⟩))
        | exact got _ (by omega) (by omega) (Or.inr (Or.inr (Or.inl ⟨by assumption, rfl⟩)))
        | exact got _ (by omega) (by omega) (Or.inr (Or.inr (Or.inr (Or.inl ⟨by assumption, (rb ⟨by omega, by omega⟩).2.1⟩))))
        | exact got _ (by omega) (by omega) (Or.inr (Or.inr (Or.inr (Or.inr (Or.inl ⟨by assumption, rfl⟩)))))
        | exact got _ (by omega) (by omega) (Or.inr (Or.inr (Or.inr (Or.inr (Or.inr ⟨by omega, rfl⟩)))))
        | exact hG _ _ nq rc ⟨_, _, _, _, rv.1, rv.2, Or.inl ⟨by omega, by omega, rfl⟩⟩
theorem H_Wr_run {d : Nat} (hd : 5 ≤ d) : Holds d I_Wr_run S_Wr_run := by
  refine holds_of (d' := d - 1) (rt := 1) (cal := [(I_Wr_foundRuns, S_Wr_foundRuns), (I_Rl_size, S_Rl_size), (I_Rl_from, S_Rl_from), (I_Rl_to, S_Rl_to), (I_Rl_gap, S_Rl_gap), (I_Or_leastRotation, S_Or_leastRotation), (I_Rl_thousandths, S_Rl_thousandths)]) (C := C_Wr_run) m_Wr_run o_Wr_run rfl rfl (by omega) ?_ ?_
  · intro x hx
    simp only [List.mem_cons, List.not_mem_nil, or_false] at hx
    rcases hx with rfl | rfl | rfl | rfl | rfl | rfl | rfl
    · exact H_Wr_foundRuns (by omega)
    · exact H_Rl_size (by omega)
    · exact H_Rl_from (by omega)
    · exact H_Rl_to (by omega)
    · exact H_Rl_gap (by omega)
    · exact H_Or_leastRotation (by omega)
    · exact H_Rl_thousandths (by omega)
  · intro as σ K has hσ hG
    have hG2 := hG
    unfold S_Wr_run at hG2
    split at hG2
    · next a1 a2 =>
      refine ⟨Nat.le_of_ble_eq_true rfl, (fun _ => none), ?_, 1000, ?_⟩
      · intro k n z L σ' hk hL hs hP
        cases hk
      · exact e_Wr_run a1 a2 σ K (has _ (List.mem_of_getElem? (i := 1) rfl)) (has _ (List.mem_of_getElem? (i := 2) rfl)) hσ hG
    · exact hG2.elim
def S_Wr_runs : GS := fun as σ K => match as with
  | [some (.inr (.inr (11, 0))), some (.inl a1)] => (TwC σ ∧ RnC σ) ∧ ∀ σ' r, NQ σ σ' → RnC σ' → RRuns (cW σ) (σ 501 0 0) a1 r → K (vI r) σ'
  | _ => False
def VE_Wr_runs (a1 : Int) (σ : SS) (K : AV → SS → Prop) : Prop :=
  (S_Wr_isPlace [vR 11 0, vI a1] σ (kI fun r1 σ1 =>
    ((r1 = 0 →
      (K (vI (-1)) σ1)) ∧
    (r1 ≠ 0 →
      (S_Wr_foundRuns [vR 11 0] σ1 (kR 5 fun i2 σ2 =>
        (S_Rl_over [vR 5 i2, vI a1] σ2 (kI fun r3 σ3 =>
          (K (vI r3) σ3)))))))))
theorem e_Wr_runs (a1 : Int) (σ : SS) (K : AV → SS → Prop) (ha1 : InR a1) (hs : okS σ) (hG : S_Wr_runs [vR 11 0, vI a1] σ K) : VE_Wr_runs a1 σ K := by
  unfold VE_Wr_runs
  obtain ⟨⟨hT, hR⟩, hG⟩ := hG
  refine bS_b0 (fun p1 _ => ?_) (fun p1 _ => ?_)
  · skip
    refine ⟨(by exact ⟨hT, hR⟩), (fun σ2 h2a h2b => ?_)⟩
    refine ⟨rfl, ?_⟩
    intro _ _
    have nq := h2a
    have rc : RnC σ2 := fun _ => h2b
    have few := RnV_few h2b (h2a).2
    obtain ⟨w1, w2⟩ := nq.w
    have rv := h2b
    unfold RnV at rv
    rw [w1, w2] at rv
    refine ⟨(by first | assumption | omega | exact ⟨by first | assumption | omega, by omega⟩ | exact ⟨by assumption, by omega, by omega⟩ | exact ⟨by assumption, by omega, by omega, by omega⟩ | exact ⟨by assumption, by omega, by omega, by omega, by omega⟩ | exact ⟨by assumption, by omega, by omega, by omega, by omega, by omega⟩), ?_⟩
    intro _ _
    first | exact hG _ _ (NQ.rf hT) hR (gd_n (by assumption)) | exact hG _ _ nq rc (gd_y (by assumption) ⟨_, _, _, _, rv.1, rv.2, rfl⟩)
  · skip
    first | exact hG _ _ (NQ.rf hT) hR (gd_n (by assumption)) | exact hG _ _ nq rc (gd_y (by assumption) ⟨_, _, _, _, rv.1, rv.2, rfl⟩)
theorem H_Wr_runs {d : Nat} (hd : 5 ≤ d) : Holds d I_Wr_runs S_Wr_runs := by
  refine holds_of (d' := d - 1) (rt := 1) (cal := [(I_Wr_isPlace, S_Wr_isPlace), (I_Wr_foundRuns, S_Wr_foundRuns), (I_Rl_over, S_Rl_over)]) (C := C_Wr_runs) m_Wr_runs o_Wr_runs rfl rfl (by omega) ?_ ?_
  · intro x hx
    simp only [List.mem_cons, List.not_mem_nil, or_false] at hx
    rcases hx with rfl | rfl | rfl
    · exact H_Wr_isPlace (by omega)
    · exact H_Wr_foundRuns (by omega)
    · exact H_Rl_over (by omega)
  · intro as σ K has hσ hG
    have hG2 := hG
    unfold S_Wr_runs at hG2
    split at hG2
    · next a1 =>
      refine ⟨Nat.le_of_ble_eq_true rfl, (fun _ => none), ?_, 1000, ?_⟩
      · intro k n z L σ' hk hL hs hP
        cases hk
      · exact e_Wr_runs a1 σ K (has _ (List.mem_of_getElem? (i := 1) rfl)) hσ hG
    · exact hG2.elim
def CgL : List (Nat × Nat) := [(20, 1), (501, 1)] ++ RlL 1
def elsE (w : Int → Int) (n p c : Int) : Prop := ∃ x, 0 ≤ x ∧ x < n ∧ x ≠ p ∧ w x = c
def CgI (σ0 σ : SS) (a1 a2 v3 v4 v5 v6 v7 : Int) : Prop := Fr CgL σ0 σ ∧ ((0 ≤ v7 ∧ v7 ≤ 26) ∧ (0 ≤ a1 ∧ a1 < (σ0 501 0 0)) ∧ 0 ≤ a2 ∧ a2 ≤ 1) ∧ (∃ c0, 0 ≤ c0 ∧ c0 < 26 ∧ Wd σ 1 (updW (cW σ0) a1 c0) (σ0 501 0 0)) ∧ bB v5 (elsE (cW σ0) (σ0 501 0 0) a1) ∧ ((v6 = 0 ∨ v6 = 1) ∧ (v6 ≠ 0 ↔ ∃ c, 0 ≤ c ∧ c < v7 ∧ ¬ elsE (cW σ0) (σ0 501 0 0) a1 c)) ∧ fgS (fun c => nR (updW (cW σ0) a1 c) (σ0 501 0 0)) v7 v4 v3
theorem cgi_try {σ0 σ : SS} {a1 a2 v3 v4 v5 v6 v7 v8 : Int} (h : CgI σ0 σ a1 a2 v3 v4 v5 v6 v7) (h7 : v7 < 26) (h8 : (v8 = 0 ∨ v8 = 1) ∧ (v8 ≠ 0 ↔ ¬ elsE (cW σ0) (σ0 501 0 0) a1 v7)) : (orI v6 v8 = 0 ∨ orI v6 v8 = 1) ∧ (orI v6 v8 ≠ 0 ↔ ∃ c, 0 ≤ c ∧ c < v7 + 1 ∧ ¬ elsE (cW σ0) (σ0 501 0 0) a1 c) := by
  obtain ⟨h1, h2, h3, h4, ⟨h5, h5b⟩, h6⟩ := h
  rw [or01 h5 h8.1]
  refine ⟨by split <;> omega, ?_⟩
  constructor
  · intro z
    by_cases c : v6 = 0
    · have : v8 ≠ 0 := fun y => by rw [if_pos ⟨c, y⟩] at z; exact z rfl
      exact ⟨v7, by omega, by omega, h8.2.mp this⟩
    · obtain ⟨c, c0, c1, c2⟩ := h5b.mp c
      exact ⟨c, c0, by omega, c2⟩
  · rintro ⟨c, c0, c1, c2⟩
    rcases (by omega : c < v7 ∨ c = v7) with d | d
    · have := h5b.mpr ⟨c, c0, d, c2⟩
      rw [if_neg (fun y => this y.1)]
      decide
    · rw [d] at c2
      have := h8.2.mpr c2
      rw [if_neg (fun y => this y.2)]
      decide
theorem cgi_set {σ0 σ σs : SS} {a1 a2 v3 v4 v5 v6 v7 : Int} (h : CgI σ0 σ a1 a2 v3 v4 v5 v6 v7) (h7 : v7 < 26) (hT : TwC σ0) (hs : σs = u3 σ 20 1 a1 v7) : Fr CgL σ0 σs ∧ Wd σs 1 (updW (cW σ0) a1 v7) (σ0 501 0 0) := by
  obtain ⟨h1, ⟨h2, h2b, h2c⟩, ⟨c0, k1, k2, k3⟩, h4, h5, h6⟩ := h
  refine ⟨Fr_trans h1 (by rw [hs]; exact Fr_u3 (by simp [CgL])), k3.1, ?_, fun x x0 x1 => ?_⟩
  · rw [hs, u3_f (by decide)]; exact k3.2.1
  · rw [hs, u3_e]
    unfold updW
    by_cases c : x = a1
    · rw [if_pos c, if_pos c]; exact ⟨rfl, h2.1, h7⟩
    · rw [if_neg c, if_neg c]
      have := k3.2.2 x x0 x1
      unfold updW at this
      rwa [if_neg c] at this
theorem cgi_n {σ0 σs σ' : SS} {a1 v7 : Int} (hT : TwC σ0) (h : Wd σs 1 (updW (cW σ0) a1 v7) (σ0 501 0 0)) (hr : RL (aW σs 1) (σs 501 1 0) (σ' 303 1 0) (σ' 35 1) (σ' 36 1) (σ' 37 1)) (ht : RLt (σ' 303 1 0) (σ' 35 1) (σ' 37 1)) : σ' 303 1 0 = nR (updW (cW σ0) a1 v7) (σ0 501 0 0) := by
  have hb := hT.n
  obtain ⟨h1, h2, h3⟩ := h
  rw [h2] at hr
  rw [RL_cnt hb.2 hr (RLt_d hr.2.1 ht)]
  refine nR_congr (fun x x0 x1 => ?_)
  rw [aW, h2, atW_in x0 x1]
  exact (h3 x x0 x1).1
theorem Wd_WI {σ : SS} {i : Nat} {w : Int → Int} {n : Int} (h : Wd σ i w n) : WI σ i := by
  obtain ⟨h1, h2, h3⟩ := h
  unfold WI Wd
  rw [h2]
  exact ⟨h1, rfl, fun x x0 x1 => by rw [(h3 x x0 x1).1]; exact ⟨rfl, (h3 x x0 x1).2⟩⟩
theorem cgi_next {σ0 σ σs σ' : SS} {a1 a2 v3 v4 v5 v6 v7 v8 : Int} (hT : TwC σ0) (h : CgI σ0 σ a1 a2 v3 v4 v5 v6 v7) (h7 : v7 < 26) (h8 : (v8 = 0 ∨ v8 = 1) ∧ (v8 ≠ 0 ↔ ¬ elsE (cW σ0) (σ0 501 0 0) a1 v7)) (s1 : Fr CgL σ0 σs) (s2 : Wd σs 1 (updW (cW σ0) a1 v7) (σ0 501 0 0)) (f : Fr (RlL 1) σs σ') (hn : σ' 303 1 0 = nR (updW (cW σ0) a1 v7) (σ0 501 0 0)) :
    (σ' 303 1 0 ≤ v4 → CgI σ0 σ' a1 a2 v3 v4 v5 (orI v6 v8) (v7 + 1)) ∧ (v4 < σ' 303 1 0 → CgI σ0 σ' a1 a2 v7 (σ' 303 1 0) v5 (orI v6 v8) (v7 + 1)) := by
  have ht := cgi_try h h7 h8
  have hf : Fr CgL σ0 σ' := Fr_trans s1 (Fr_mono f (by simp [CgL, RlL]))
  have hw : Wd σ' 1 (updW (cW σ0) a1 v7) (σ0 501 0 0) := Wd_fr s2 (f _ _ (by simp [RlL])) (f _ _ (by simp [RlL]))
  obtain ⟨h1, ⟨⟨h2, h2b⟩, h2c, h2d⟩, h3, h4, h5, h6⟩ := h
  refine ⟨fun z => ⟨hf, ⟨⟨by omega, by omega⟩, h2c, h2d⟩, ⟨v7, h2, h7, hw⟩, h4, ht, fg_no h6 h2 nR_0 (by rw [← hn]; exact z)⟩, fun z => ⟨hf, ⟨⟨by omega, by omega⟩, h2c, h2d⟩, ⟨v7, h2, h7, hw⟩, h4, ht, ?_⟩⟩
  rw [hn] at z ⊢
  exact fg_yes h6 h2 z
theorem cgi_skip {σ0 σ : SS} {a1 a2 v3 v4 v5 v6 v7 v8 : Int} (h : CgI σ0 σ a1 a2 v3 v4 v5 v6 v7) (h7 : v7 < 26) (h8 : v8 ≠ 0 ↔ ¬ elsE (cW σ0) (σ0 501 0 0) a1 v7) (g8 : v8 ≠ 0) (g6 : v6 ≠ 0) : CgI σ0 σ a1 a2 v3 v4 v5 v6 (v7 + 1) := by
  obtain ⟨h1, ⟨⟨h2, h2b⟩, h2c, h2d⟩, h3, h4, ⟨h5, h5b⟩, h6⟩ := h
  obtain ⟨c, c0, c1, c2⟩ := h5b.mp g6
  have n8 := h8.mp g8
  refine ⟨h1, ⟨⟨by omega, by omega⟩, h2c, h2d⟩, h3, h4, ⟨h5, ⟨fun _ => ⟨c, c0, by omega, c2⟩, fun _ => g6⟩⟩, fg_no h6 h2 nR_0 ?_⟩
  rw [nR_fresh (d := c) (fun x x0 x1 x2 z => n8 ⟨x, x0, x1, x2, z⟩) (fun x x0 x1 x2 z => c2 ⟨x, x0, x1, x2, z⟩)]
  rcases h6 with h6 | ⟨_, h6⟩
  · omega
  · exact h6.1 c c0 c1
theorem cg_u {v7 : Int} {n : Nat} (h : v7 < 26) (hn : n = (1000 * (1000 - v7) - 1).toNat) : (1000 * (1000 - (v7 + 1))).toNat < n := by omega
def S_Wr_change : GS := fun as σ K => match as with
  | [some (.inr (.inr (11, 0))), some (.inl a1), some (.inl a2)] => TwC σ ∧ ∀ σ' r, Fr CgL σ σ' → (WI σ 1 → WI σ' 1) → RChange (cW σ) (σ 501 0 0) a1 a2 r → K (vI r) σ'
  | _ => False
abbrev Lp_Wr_change_29 (a1 : Int) (a2 : Int) (σ0 : SS) (n : Nat) (L : List AV) (σ : SS) : Prop := ∃ (v3 : Int) (v4 : Int) (v5 : Int) (v6 : Int) (v7 : Int), L = [vR 11 0, vI a1, vI a2, vI v3, vI v4, vI v5, vI v6, vI v7, none] ∧ n = (1000 * (1000 - v7)).toNat ∧ ((CgI σ0 σ a1 a2 v3 v4 v5 v6 v7))
abbrev Lp_Wr_change_42 (a1 : Int) (a2 : Int) (σ0 : SS) (n : Nat) (L : List AV) (σ : SS) : Prop := ∃ (v3 : Int) (v4 : Int) (v5 : Int) (v6 : Int) (v7 : Int) (v8 : Int), L = [vR 11 0, vI a1, vI a2, vI v3, vI v4, vI v5, vI v6, vI v7, vI v8] ∧ n = (1000 * (1000 - v7) - 1).toNat ∧ ((CgI σ0 σ a1 a2 v3 v4 v5 v6 v7) ∧ (v7 < 26) ∧ ((v8 = 0 ∨ v8 = 1) ∧ (v8 ≠ 0 ↔ ¬ elsE (cW σ0) (σ0 501 0 0) a1 v7)))
def Iv_Wr_change (a1 : Int) (a2 : Int) (σ0 : SS) (k : Nat) : Option (List Nat × (Nat → List AV → SS → Prop)) := match k with
  | 29 => some ([8], Lp_Wr_change_29 a1 a2 σ0)
  | 42 => some ([], Lp_Wr_change_42 a1 a2 σ0)
  | _ => none
def VE_Wr_change (a1 : Int) (a2 : Int) (σ : SS) (K : AV → SS → Prop) : Prop :=
  (S_Wr_isPlace [vR 11 0, vI a1] σ (kI fun r1 σ1 =>
    ((r1 = 0 →
      (K (vI (-1)) σ1)) ∧
    (r1 ≠ 0 →
      ((a2 < 0 →
        (K (vI (-1)) σ1)) ∧
      ((0 : Int) ≤ a2 →
        ((a2 ≤ 1 →
          (S_Wo_lettersBut [vR 10 0, vI a1] σ1 (kI fun r2 σ2 =>
            (S_Wo_copy [vR 10 1, vR 10 0] σ2 (kV fun σ3 =>
              (∃ n', Lp_Wr_change_29 a1 a2 σ n' [vR 11 0, vI a1, vI a2, vI 0, vI (-1), vI r2, vI 0, vI 0, none] σ3)))))) ∧
        ((1 : Int) < a2 →
          (K (vI (-1)) σ1)))))))))
def VL_Wr_change_29 (a1 : Int) (a2 : Int) (σ0 : SS) (K : AV → SS → Prop) (v3 : Int) (v4 : Int) (v5 : Int) (v6 : Int) (v7 : Int) (σ : SS) (n : Nat) : Prop :=
  (((26 : Int) ≤ v7 →
    ((a2 ≠ 0 →
      (K (vI v4) σ)) ∧
    (a2 = 0 →
      (K (vI v3) σ)))) ∧
  (v7 < 26 →
    ((0 ≤ (v7 : Int) ∧ (v7 : Int) < 32 ∧ InR (shrI v5 v7)) ∧
    (((andI (shrI v5 v7) 1) ≠ 0 →
      (∃ n', n' < n ∧ Lp_Wr_change_42 a1 a2 σ0 n' [vR 11 0, vI a1, vI a2, vI v3, vI v4, vI v5, vI v6, vI v7, vI 0] σ)) ∧
    ((andI (shrI v5 v7) 1) = 0 →
      (∃ n', n' < n ∧ Lp_Wr_change_42 a1 a2 σ0 n' [vR 11 0, vI a1, vI a2, vI v3, vI v4, vI v5, vI v6, vI v7, vI 1] σ))))))
def VL_Wr_change_42 (a1 : Int) (a2 : Int) (σ0 : SS) (K : AV → SS → Prop) (v3 : Int) (v4 : Int) (v5 : Int) (v6 : Int) (v7 : Int) (v8 : Int) (σ : SS) (n : Nat) : Prop :=
  ((v8 = 0 →
    (S_Wo_set [vR 10 1, vI a1, vI v7] σ (kV fun σ1 =>
      (S_Rl_find [vR 5 1, vR 10 1] σ1 (kV fun σ2 =>
        (S_Rl_size [vR 5 1] σ2 (kI fun r3 σ3 =>
          ((r3 ≤ v4 →
            (InR (v7 + 1) ∧
            (∃ n', n' < n ∧ Lp_Wr_change_29 a1 a2 σ0 n' [vR 11 0, vI a1, vI a2, vI v3, vI v4, vI v5, vI (orI v6 v8), vI (v7 + 1), none] σ3))) ∧
          (v4 < r3 →
            (S_Rl_size [vR 5 1] σ3 (kI fun r4 σ4 =>
              (InR (v7 + 1) ∧
              (∃ n', n' < n ∧ Lp_Wr_change_29 a1 a2 σ0 n' [vR 11 0, vI a1, vI a2, vI v7, vI r4, vI v5, vI (orI v6 v8), vI (v7 + 1), none] σ4))))))))))))) ∧
  (v8 ≠ 0 →
    ((v6 = 0 →
      (S_Wo_set [vR 10 1, vI a1, vI v7] σ (kV fun σ5 =>
        (S_Rl_find [vR 5 1, vR 10 1] σ5 (kV fun σ6 =>
          (S_Rl_size [vR 5 1] σ6 (kI fun r7 σ7 =>
            ((r7 ≤ v4 →
              (InR (v7 + 1) ∧
              (∃ n', n' < n ∧ Lp_Wr_change_29 a1 a2 σ0 n' [vR 11 0, vI a1, vI a2, vI v3, vI v4, vI v5, vI (orI v6 v8), vI (v7 + 1), none] σ7))) ∧
            (v4 < r7 →
              (S_Rl_size [vR 5 1] σ7 (kI fun r8 σ8 =>
                (InR (v7 + 1) ∧
                (∃ n', n' < n ∧ Lp_Wr_change_29 a1 a2 σ0 n' [vR 11 0, vI a1, vI a2, vI v7, vI r8, vI v5, vI (orI v6 v8), vI (v7 + 1), none] σ8))))))))))))) ∧
    (v6 ≠ 0 →
      (InR (v7 + 1) ∧
      (∃ n', n' < n ∧ Lp_Wr_change_29 a1 a2 σ0 n' [vR 11 0, vI a1, vI a2, vI v3, vI v4, vI v5, vI v6, vI (v7 + 1), none] σ))))))
theorem l_Wr_change_29 (a1 : Int) (a2 : Int) (σ0 : SS) (K : AV → SS → Prop) (ha1 : InR a1) (ha2 : InR a2) (hs0 : okS σ0) (hG : S_Wr_change [vR 11 0, vI a1, vI a2] σ0 K) (v3 : Int) (v4 : Int) (v5 : Int) (v6 : Int) (v7 : Int) (σ : SS) (hv3 : InR v3) (hv4 : InR v4) (hv5 : InR v5) (hv6 : InR v6) (hv7 : InR v7) (hs : okS σ) (n : Nat) (hn : n = (1000 * (1000 - v7)).toNat) (hQ : (CgI σ0 σ a1 a2 v3 v4 v5 v6 v7)) : VL_Wr_change_29 a1 a2 σ0 K v3 v4 v5 v6 v7 σ n := by
  unfold VL_Wr_change_29
  obtain ⟨hT, hG⟩ := hG
  have hb := hT.n
  have hI := hQ
  have i1 := hI.1
  obtain ⟨⟨i2, i2b⟩, i2c, i2d, i2e⟩ := hI.2.1
  have i4 := hI.2.2.2.1
  have fin : v7 = 26 → fgM (fun c => nR (updW (cW σ0) a1 c) (σ0 501 0 0)) 26 v4 v3 := fun z => by
    rcases hI.2.2.2.2.2 with i6 | ⟨_, i6⟩
    · omega
    · rwa [z] at i6
  have sb := shr_bit (a := v5) (c := v7) i4.1.1 (by have := i4.1.2; omega) i2 (by omega)
  have eb := i4.2 v7 i2
  refine ⟨fun c1 => ?_, fun c1 => ?_⟩
  · skip
    refine ⟨fun c2 => ?_, fun c2 => ?_⟩
    · skip
      obtain ⟨k0, _, _, kw⟩ := hI.2.2.1
      exact hG _ _ i1 (fun _ => Wd_WI kw) (gd_y ⟨i2c, i2d, i2e⟩ ⟨_, _, fin (by omega), by rw [if_neg (by assumption)]⟩)
    · skip
      obtain ⟨k0, _, _, kw⟩ := hI.2.2.1
      exact hG _ _ i1 (fun _ => Wd_WI kw) (gd_y ⟨i2c, i2d, i2e⟩ ⟨_, _, fin (by omega), by rw [if_pos (by assumption)]⟩)
  · skip
    refine ⟨(by exact ⟨i2, by omega, sb.1⟩), ?_⟩
    refine ⟨fun c2 => ?_, fun c2 => ?_⟩
    · skip
      refine ⟨_, ?_, _, _, _, _, _, _, rfl, rfl, ?_⟩
      · omega
      · refine ⟨?_, ?_, ?_⟩
        · first | rfl | assumption | omega
        · first | rfl | assumption | omega
        · exact ⟨Or.inl rfl, fun z => absurd rfl z, fun z => absurd (eb.mp (sb.2.2.mp c2)) z⟩
    · skip
      refine ⟨_, ?_, _, _, _, _, _, _, rfl, rfl, ?_⟩
      · omega
      · refine ⟨?_, ?_, ?_⟩
        · first | rfl | assumption | omega
        · first | rfl | assumption | omega
        · exact ⟨Or.inr rfl, fun _ z => sb.2.2.mpr (eb.mpr z) c2, fun _ => by decide⟩
theorem l_Wr_change_42 (a1 : Int) (a2 : Int) (σ0 : SS) (K : AV → SS → Prop) (ha1 : InR a1) (ha2 : InR a2) (hs0 : okS σ0) (hG : S_Wr_change [vR 11 0, vI a1, vI a2] σ0 K) (v3 : Int) (v4 : Int) (v5 : Int) (v6 : Int) (v7 : Int) (v8 : Int) (σ : SS) (hv3 : InR v3) (hv4 : InR v4) (hv5 : InR v5) (hv6 : InR v6) (hv7 : InR v7) (hv8 : InR v8) (hs : okS σ) (n : Nat) (hn : n = (1000 * (1000 - v7) - 1).toNat) (hQ : (CgI σ0 σ a1 a2 v3 v4 v5 v6 v7) ∧ (v7 < 26) ∧ ((v8 = 0 ∨ v8 = 1) ∧ (v8 ≠ 0 ↔ ¬ elsE (cW σ0) (σ0 501 0 0) a1 v7))) : VL_Wr_change_42 a1 a2 σ0 K v3 v4 v5 v6 v7 v8 σ n := by
  unfold VL_Wr_change_42
  obtain ⟨hT, hG⟩ := hG
  have hb := hT.n
  obtain ⟨hI, q7, q8⟩ := hQ
  obtain ⟨⟨i2, i2b⟩, i2c, i2d, i2e⟩ := hI.2.1
  have z1 : σ 501 1 0 = (σ0 501 0 0) := by
    obtain ⟨c0, _, _, k⟩ := hI.2.2.1
    exact k.2.1
  refine ⟨fun c1 => ?_, fun c1 => ?_⟩
  · skip
    refine ⟨(by exact ⟨by omega, i2, by omega⟩), (fun h2a => ?_), (fun h3a => ?_)⟩
    · skip
      intro _
      generalize hσs : u3 σ 20 1 a1 v7 = σs
      obtain ⟨s1, s2⟩ := cgi_set hI q7 hT hσs.symm
      refine ⟨(by exact Wd_WI s2), (fun σ4 h4a h4b h4c => ?_)⟩
      intro _
      have nn := cgi_n hT s2 h4b h4c
      have nx := cgi_next hT hI q7 q8 s1 s2 h4a nn
      intro _ _
      refine ⟨fun c5 => ?_, fun c5 => ?_⟩
      · skip
        refine ⟨(by omega), ?_⟩
        refine ⟨_, ?_, _, _, _, _, _, rfl, rfl, ?_⟩
        · exact cg_u q7 hn
        · exact nx.1 (by assumption)
      · skip
        intro _ _
        refine ⟨(by omega), ?_⟩
        refine ⟨_, ?_, _, _, _, _, _, rfl, rfl, ?_⟩
        · exact cg_u q7 hn
        · exact nx.2 (by assumption)
    · skip
      intro _
      exact absurd ⟨i2c.1, by omega⟩ h3a
  · skip
    refine ⟨fun c2 => ?_, fun c2 => ?_⟩
    · skip
      refine ⟨(by exact ⟨by omega, i2, by omega⟩), (fun h3a => ?_), (fun h4a => ?_)⟩
      · skip
        intro _
        generalize hσs : u3 σ 20 1 a1 v7 = σs
        obtain ⟨s1, s2⟩ := cgi_set hI q7 hT hσs.symm
        refine ⟨(by exact Wd_WI s2), (fun σ5 h5a h5b h5c => ?_)⟩
        intro _
        have nn := cgi_n hT s2 h5b h5c
        have nx := cgi_next hT hI q7 q8 s1 s2 h5a nn
        intro _ _
        refine ⟨fun c6 => ?_, fun c6 => ?_⟩
        · skip
          refine ⟨(by omega), ?_⟩
          refine ⟨_, ?_, _, _, _, _, _, rfl, rfl, ?_⟩
          · exact cg_u q7 hn
          · exact nx.1 (by assumption)
        · skip
          intro _ _
          refine ⟨(by omega), ?_⟩
          refine ⟨_, ?_, _, _, _, _, _, rfl, rfl, ?_⟩
          · exact cg_u q7 hn
          · exact nx.2 (by assumption)
      · skip
        intro _
        exact absurd ⟨i2c.1, by omega⟩ h4a
    · skip
      refine ⟨(by omega), ?_⟩
      refine ⟨_, ?_, _, _, _, _, _, rfl, rfl, ?_⟩
      · exact cg_u q7 hn
      · exact cgi_skip hI q7 q8.2 (by assumption) (by assumption)
theorem e_Wr_change (a1 : Int) (a2 : Int) (σ : SS) (K : AV → SS → Prop) (ha1 : InR a1) (ha2 : InR a2) (hs : okS σ) (hG : S_Wr_change [vR 11 0, vI a1, vI a2] σ K) : VE_Wr_change a1 a2 σ K := by
  unfold VE_Wr_change
  obtain ⟨hT, hG⟩ := hG
  have hb := hT.n
  refine bS_b0 (fun p1 _ => ?_) (fun p1 _ => ?_)
  · skip
    refine ⟨fun c2 => ?_, fun c2 => ?_⟩
    · skip
      exact hG _ _ Fr_refl (fun z => z) (gd_n (by omega))
    · skip
      refine ⟨fun c3 => ?_, fun c3 => ?_⟩
      · skip
        refine ⟨(by exact hT.1), (fun r4 h4a => ?_)⟩
        intro _ _
        have hbb := h4a
        refine ⟨(by first | decide | exact ⟨hT.1.1, rfl, fun x x0 x1 => by rw [cW_in x0 x1]; exact ⟨rfl, (hT.1.2.2 x x0 x1).2⟩⟩), ⟨(cW σ), (σ 501 0 0), (by first | decide | exact ⟨hT.1.1, rfl, fun x x0 x1 => by rw [cW_in x0 x1]; exact ⟨rfl, (hT.1.2.2 x x0 x1).2⟩⟩), (fun σ5 h5a h5b => ?_)⟩⟩
        intro _
        have f1 := h5a
        have f2 := h5b
        have hl := hT.let (x := a1) (by omega) (by omega)
        exact ⟨_, _, _, _, _, _, rfl, rfl, Fr_mono f1 (by simp [CgL]), ⟨⟨by omega, by omega⟩, ⟨by omega, by omega⟩, by omega, by omega⟩, ⟨cW σ a1, hl.1, hl.2, f2.1, f2.2.1, fun x x0 x1 => by
          have e : updW (cW σ) a1 (cW σ a1) x = cW σ x := by
            unfold updW
            by_cases c : x = a1
            · rw [if_pos c, c]
            · rw [if_neg c]
          rw [e]; exact f2.2.2 x x0 x1⟩, hbb, ⟨Or.inl rfl, fun z => absurd rfl z, fun ⟨c, x0, x1, _⟩ => by omega⟩, Or.inl ⟨rfl, rfl, rfl⟩⟩
      · skip
        exact hG _ _ Fr_refl (fun z => z) (gd_n (by omega))
  · skip
    exact hG _ _ Fr_refl (fun z => z) (gd_n (by omega))
theorem H_Wr_change {d : Nat} (hd : 4 ≤ d) : Holds d I_Wr_change S_Wr_change := by
  refine holds_of (d' := d - 1) (rt := 1) (cal := [(I_Wr_isPlace, S_Wr_isPlace), (I_Wo_lettersBut, S_Wo_lettersBut), (I_Wo_copy, S_Wo_copy), (I_Wo_set, S_Wo_set), (I_Rl_find, S_Rl_find), (I_Rl_size, S_Rl_size)]) (C := C_Wr_change) m_Wr_change o_Wr_change rfl rfl (by omega) ?_ ?_
  · intro x hx
    simp only [List.mem_cons, List.not_mem_nil, or_false] at hx
    rcases hx with rfl | rfl | rfl | rfl | rfl | rfl
    · exact H_Wr_isPlace (by omega)
    · exact H_Wo_lettersBut (by omega)
    · exact H_Wo_copy (by omega)
    · exact H_Wo_set (by omega)
    · exact H_Rl_find (by omega)
    · exact H_Rl_size (by omega)
  · intro as σ K has hσ hG
    have hG2 := hG
    unfold S_Wr_change at hG2
    split at hG2
    · next a1 a2 =>
      refine ⟨Nat.le_of_ble_eq_true rfl, (Iv_Wr_change a1 a2 σ), ?_, 1000, ?_⟩
      · intro k n z L σ' hk hL hs hP
        unfold Iv_Wr_change at hk
        split at hk
        · cases hk
          obtain ⟨v3, v4, v5, v6, v7, rfl, hn, hQ⟩ := hP
          exact ⟨1000, l_Wr_change_29 a1 a2 σ K (has _ (List.mem_of_getElem? (i := 1) rfl)) (has _ (List.mem_of_getElem? (i := 2) rfl)) hσ hG v3 v4 v5 v6 v7 σ' (hL _ (List.mem_of_getElem? (i := 3) rfl)) (hL _ (List.mem_of_getElem? (i := 4) rfl)) (hL _ (List.mem_of_getElem? (i := 5) rfl)) (hL _ (List.mem_of_getElem? (i := 6) rfl)) (hL _ (List.mem_of_getElem? (i := 7) rfl)) hs n hn hQ⟩
        · cases hk
          obtain ⟨v3, v4, v5, v6, v7, v8, rfl, hn, hQ⟩ := hP
          exact ⟨1000, l_Wr_change_42 a1 a2 σ K (has _ (List.mem_of_getElem? (i := 1) rfl)) (has _ (List.mem_of_getElem? (i := 2) rfl)) hσ hG v3 v4 v5 v6 v7 v8 σ' (hL _ (List.mem_of_getElem? (i := 3) rfl)) (hL _ (List.mem_of_getElem? (i := 4) rfl)) (hL _ (List.mem_of_getElem? (i := 5) rfl)) (hL _ (List.mem_of_getElem? (i := 6) rfl)) (hL _ (List.mem_of_getElem? (i := 7) rfl)) (hL _ (List.mem_of_getElem? (i := 8) rfl)) hs n hn hQ⟩
        · cases hk
      · exact e_Wr_change a1 a2 σ K (has _ (List.mem_of_getElem? (i := 1) rfl)) (has _ (List.mem_of_getElem? (i := 2) rfl)) hσ hG
    · exact hG2.elim
