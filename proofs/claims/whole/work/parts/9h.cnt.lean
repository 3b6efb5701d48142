/-! count: the class, the reference -/
def RCnt (w : Int → Int) (n u t k a r : Int) : Prop := (a = 0 ∧ r = n) ∨ (a = 1 ∧ r = cntZ (occ w n) 0 26) ∨ (a = 2 ∧ r = u) ∨ (a = 3 ∧ r = t) ∨ (a = 4 ∧ r = k) ∨ (a = 5 ∧ RExp w n r) ∨ ((a < 0 ∨ 5 < a) ∧ r = -1)
theorem RCnt_u {w : Int → Int} {n u t k a r r' : Int} (h : RCnt w n u t k a r) (h' : RCnt w n u t k a r') : r = r' := by
  rcases h with h | h | h | h | h | h | h <;> rcases h' with h' | h' | h' | h' | h' | h' | h' <;> first | exact RExp_u h.2 h'.2 | omega
theorem occ_bits {w : Int → Int} {n r : Int} (h : bB r (fun c => ∃ x, 0 ≤ x ∧ x < n ∧ x ≠ -1 ∧ w x = c)) : (popN r.toNat : Int) = cntZ (occ w n) 0 26 := by
  rw [pop_cnt h.1.1 h.1.2]
  exact cntZ_congr (fun c c0 _ => (h.2 c c0).trans ⟨fun ⟨x, x0, x1, _, e⟩ => ⟨x, x0, x1, e⟩, fun ⟨x, x0, x1, e⟩ => ⟨x, x0, x1, by omega, e⟩⟩)
def S_Wr_count : GS := fun as σ K => match as with
  | [some (.inr (.inr (11, 0))), some (.inl a1)] => (TwC σ ∧ RnC σ) ∧ ∀ σ' r, NQ σ σ' → RnC σ' → RCnt (cW σ) (σ 501 0 0) (σ 182 0 0) (σ 221 0 0) (σ 554 0 0) a1 r → K (vI r) σ'
  | _ => False
def VE_Wr_count (a1 : Int) (σ : SS) (K : AV → SS → Prop) : Prop :=
  (((a1 = 0 →
    (S_Wo_size [vR 10 0] σ (kI fun r1 σ1 =>
      (K (vI r1) σ1)))) ∧
  ((a1 = 1 →
    (S_Wo_lettersBut [vR 10 0, vI (-1)] σ (kI fun r2 σ2 =>
      (S_In_bitCount [vI r2] σ2 (kI fun r3 σ3 =>
        (K (vI r3) σ3)))))) ∧
  ((a1 = 2 →
    (S_Pa_size [vR 2 0] σ (kI fun r4 σ4 =>
      (K (vI r4) σ4)))) ∧
  ((a1 = 3 →
    (S_Re_size [vR 3 0] σ (kI fun r5 σ5 =>
      (K (vI r5) σ5)))) ∧
  ((a1 = 4 →
    (K (vI (σ 554 0 0)) σ)) ∧
  ((a1 = 5 →
    (S_Wr_foundRuns [vR 11 0] σ (kR 5 fun i6 σ6 =>
      (S_Rl_allThousandths [vR 5 i6] σ6 (kI fun r7 σ7 =>
        (K (vI r7) σ7)))))) ∧
  True)))))) ∧
  (a1 < 0 ∨ 5 < a1 →
    (K (vI (-1)) σ)))
theorem e_Wr_count (a1 : Int) (σ : SS) (K : AV → SS → Prop) (ha1 : InR a1) (hs : okS σ) (hG : S_Wr_count [vR 11 0, vI a1] σ K) : VE_Wr_count a1 σ K := by
  unfold VE_Wr_count
  obtain ⟨⟨hT, hR⟩, hG⟩ := hG
  have sm : ∀ r, RCnt (cW σ) (σ 501 0 0) (σ 182 0 0) (σ 221 0 0) (σ 554 0 0) a1 r → K (vI r) σ := fun r z => hG σ r (NQ.rf hT) hR z
  refine ⟨⟨fun c1 => ?_, fun c1 => ?_, fun c1 => ?_, fun c1 => ?_, fun c1 => ?_, fun c1 => ?_, trivial⟩, fun c1 => ?_⟩
  · skip
    intro _ _
    exact sm _ (Or.inl ⟨by assumption, rfl⟩)
  · skip
    refine ⟨(by exact hT.1), (fun r2 h2a => ?_)⟩
    intro _ _
    have bb := h2a
    refine ⟨(by exact bb.1), ?_⟩
    intro _ _
    exact sm _ (Or.inr (Or.inl ⟨by assumption, occ_bits bb⟩))
  · skip
    intro _ _
    exact sm _ (Or.inr (Or.inr (Or.inl ⟨by assumption, rfl⟩)))
  · skip
    intro _ _
    exact sm _ (Or.inr (Or.inr (Or.inr (Or.inl ⟨by assumption, rfl⟩))))
  · skip
    exact sm _ (Or.inr (Or.inr (Or.inr (Or.inr (Or.inl ⟨by assumption, rfl⟩)))))
  · skip
    refine ⟨(by exact ⟨hT, hR⟩), (fun σ2 h2a h2b => ?_)⟩
    refine ⟨rfl, ?_⟩
    intro _ _
    have nq := h2a
    have rc : RnC σ2 := fun _ => h2b
    have few := RnV_few h2b (h2a).2
    obtain ⟨w1, w2⟩ := nq.w
    have rv := h2b
    unfold RnV at rv
    rw [w1, w2] at rv
    have hb := hT.n
    refine ⟨(by exact ⟨⟨by omega, by omega⟩, fun k k0 k1 => by have r0 := (rv.1.2.1 k k0 k1).1; omega⟩), ?_⟩
    intro _ _
    exact hG _ _ nq rc (Or.inr (Or.inr (Or.inr (Or.inr (Or.inr (Or.inl ⟨by assumption, ⟨_, _, _, _, rv.1, rv.2, rfl⟩⟩))))))
  · skip
    exact sm _ (Or.inr (Or.inr (Or.inr (Or.inr (Or.inr (Or.inr ⟨by assumption, rfl⟩))))))
theorem H_Wr_count {d : Nat} (hd : 5 ≤ d) : Holds d I_Wr_count S_Wr_count := by
  refine holds_of (d' := d - 1) (rt := 1) (cal := [(I_Wo_size, S_Wo_size), (I_Wo_lettersBut, S_Wo_lettersBut), (I_In_bitCount, S_In_bitCount), (I_Pa_size, S_Pa_size), (I_Re_size, S_Re_size), (I_Wr_foundRuns, S_Wr_foundRuns), (I_Rl_allThousandths, S_Rl_allThousandths)]) (C := C_Wr_count) m_Wr_count o_Wr_count rfl rfl (by omega) ?_ ?_
  · intro x hx
    simp only [List.mem_cons, List.not_mem_nil, or_false] at hx
    rcases hx with rfl | rfl | rfl | rfl | rfl | rfl | rfl
    · exact H_Wo_size (by omega)
    · exact H_Wo_lettersBut (by omega)
    · exact H_In_bitCount (by omega)
    · exact H_Pa_size (by omega)
    · exact H_Re_size (by omega)
    · exact H_Wr_foundRuns (by omega)
    · exact H_Rl_allThousandths (by omega)
  · intro as σ K has hσ hG
    have hG2 := hG
    unfold S_Wr_count at hG2
    split at hG2
    · next a1 =>
      refine ⟨Nat.le_of_ble_eq_true rfl, (fun _ => none), ?_, 1000, ?_⟩
      · intro k n z L σ' hk hL hs hP
        cases hk
      · exact e_Wr_count a1 σ K (has _ (List.mem_of_getElem? (i := 1) rfl)) hσ hG
    · exact hG2.elim
def S_Mo_count : GS := fun as σ K => match as with
  | [some (.inr (.inr (12, 0))), some (.inl a1)] => (MoW σ ∧ MrC σ ∧ (σ 43 0 0 = 0 ∨ σ 43 0 0 = 1) ∧ (σ 43 0 1 = 0 ∨ σ 43 0 1 = 1)) ∧ ∀ σ' r, Fr MrL σ σ' → MrC σ' → RCnt (mW σ) (σ 40 0 0) (σ 582 0 0) (σ 596 0 0) (σ 43 0 0 + 2 * σ 43 0 1) a1 r → K (vI r) σ'
  | _ => False
def VE_Mo_count (a1 : Int) (σ : SS) (K : AV → SS → Prop) : Prop :=
  (((a1 = 0 →
    (S_Mo_size [vR 12 0] σ (kI fun r1 σ1 =>
      (K (vI r1) σ1)))) ∧
  ((a1 = 1 →
    (S_Mo_unlikeLetters [vR 12 0] σ (kI fun r2 σ2 =>
      (K (vI r2) σ2)))) ∧
  ((a1 = 2 →
    (K (vI (σ 582 0 0)) σ)) ∧
  ((a1 = 3 →
    (K (vI (σ 596 0 0)) σ)) ∧
  ((a1 = 4 →
    ((0 ≤ (0 : Int) ∧ (0 : Int) < 2) ∧
    (((σ 43 0 0) = 0 →
      ((0 ≤ (1 : Int) ∧ (1 : Int) < 2) ∧
      (((σ 43 0 1) = 0 →
        (InR (0 + 0) ∧
        (K (vI (0 + 0)) σ))) ∧
      ((σ 43 0 1) ≠ 0 →
        (InR (0 + 2) ∧
        (K (vI (0 + 2)) σ)))))) ∧
    ((σ 43 0 0) ≠ 0 →
      ((0 ≤ (1 : Int) ∧ (1 : Int) < 2) ∧
      (((σ 43 0 1) = 0 →
        (InR (1 + 0) ∧
        (K (vI (1 + 0)) σ))) ∧
      ((σ 43 0 1) ≠ 0 →
        (InR (1 + 2) ∧
        (K (vI (1 + 2)) σ))))))))) ∧
  ((a1 = 5 →
    (S_Mo_exponents [vR 12 0] σ (kI fun r3 σ3 =>
      (K (vI r3) σ3)))) ∧
  True)))))) ∧
  (a1 < 0 ∨ 5 < a1 →
    (K (vI (-1)) σ)))
theorem e_Mo_count (a1 : Int) (σ : SS) (K : AV → SS → Prop) (ha1 : InR a1) (hs : okS σ) (hG : S_Mo_count [vR 12 0, vI a1] σ K) : VE_Mo_count a1 σ K := by
  unfold VE_Mo_count
  obtain ⟨⟨hM, hC, hk0, hk1⟩, hG⟩ := hG
  have sm : ∀ r, RCnt (mW σ) (σ 40 0 0) (σ 582 0 0) (σ 596 0 0) (σ 43 0 0 + 2 * σ 43 0 1) a1 r → K (vI r) σ := fun r z => hG σ r Fr_refl hC z
  refine ⟨⟨fun c1 => ?_, fun c1 => ?_, fun c1 => ?_, fun c1 => ?_, fun c1 => ?_, fun c1 => ?_, trivial⟩, fun c1 => ?_⟩
  · skip
    intro _ _
    first
      | exact sm _ (Or.inl ⟨by assumption, rfl⟩)
      | exact sm _ (Or.inr (Or.inl ⟨by assumption, rfl⟩))
      | exact sm _ (Or.inr (Or.inr (Or.inl ⟨by assumption, rfl⟩)))
      | exact sm _ (Or.inr (Or.inr (Or.inr (Or.inl ⟨by assumption, rfl⟩))))
      | exact sm _ (Or.inr (Or.inr (Or.inr (Or.inr (Or.inl ⟨by assumption, by omega⟩)))))
      | exact hG _ _ fr rc (Or.inr (Or.inr (Or.inr (Or.inr (Or.inr (Or.inl ⟨by assumption, ex⟩))))))
      | exact sm _ (Or.inr (Or.inr (Or.inr (Or.inr (Or.inr (Or.inr ⟨by assumption, rfl⟩))))))
  · skip
    refine ⟨(by exact hM), ?_⟩
    intro _ _
    first
      | exact sm _ (Or.inl ⟨by assumption, rfl⟩)
      | exact sm _ (Or.inr (Or.inl ⟨by assumption, rfl⟩))
      | exact sm _ (Or.inr (Or.inr (Or.inl ⟨by assumption, rfl⟩)))
      | exact sm _ (Or.inr (Or.inr (Or.inr (Or.inl ⟨by assumption, rfl⟩))))
      | exact sm _ (Or.inr (Or.inr (Or.inr (Or.inr (Or.inl ⟨by assumption, by omega⟩)))))
      | exact hG _ _ fr rc (Or.inr (Or.inr (Or.inr (Or.inr (Or.inr (Or.inl ⟨by assumption, ex⟩))))))
      | exact sm _ (Or.inr (Or.inr (Or.inr (Or.inr (Or.inr (Or.inr ⟨by assumption, rfl⟩))))))
  · skip
    first
      | exact sm _ (Or.inl ⟨by assumption, rfl⟩)
      | exact sm _ (Or.inr (Or.inl ⟨by assumption, rfl⟩))
      | exact sm _ (Or.inr (Or.inr (Or.inl ⟨by assumption, rfl⟩)))
      | exact sm _ (Or.inr (Or.inr (Or.inr (Or.inl ⟨by assumption, rfl⟩))))
      | exact sm _ (Or.inr (Or.inr (Or.inr (Or.inr (Or.inl ⟨by assumption, by omega⟩)))))
      | exact hG _ _ fr rc (Or.inr (Or.inr (Or.inr (Or.inr (Or.inr (Or.inl ⟨by assumption, ex⟩))))))
      | exact sm _ (Or.inr (Or.inr (Or.inr (Or.inr (Or.inr (Or.inr ⟨by assumption, rfl⟩))))))
  · skip
    first
      | exact sm _ (Or.inl ⟨by assumption, rfl⟩)
      | exact sm _ (Or.inr (Or.inl ⟨by assumption, rfl⟩))
      | exact sm _ (Or.inr (Or.inr (Or.inl ⟨by assumption, rfl⟩)))
      | exact sm _ (Or.inr (Or.inr (Or.inr (Or.inl ⟨by assumption, rfl⟩))))
      | exact sm _ (Or.inr (Or.inr (Or.inr (Or.inr (Or.inl ⟨by assumption, by omega⟩)))))
      | exact hG _ _ fr rc (Or.inr (Or.inr (Or.inr (Or.inr (Or.inr (Or.inl ⟨by assumption, ex⟩))))))
      | exact sm _ (Or.inr (Or.inr (Or.inr (Or.inr (Or.inr (Or.inr ⟨by assumption, rfl⟩))))))
  · skip
    refine ⟨(by omega), ?_⟩
    refine ⟨fun c2 => ?_, fun c2 => ?_⟩
    · skip
      refine ⟨(by omega), ?_⟩
      refine ⟨fun c3 => ?_, fun c3 => ?_⟩
      · skip
        refine ⟨(by omega), ?_⟩
        first
          | exact sm _ (Or.inl ⟨by assumption, rfl⟩)
          | exact sm _ (Or.inr (Or.inl ⟨by assumption, rfl⟩))
          | exact sm _ (Or.inr (Or.inr (Or.inl ⟨by assumption, rfl⟩)))
          | exact sm _ (Or.inr (Or.inr (Or.inr (Or.inl ⟨by assumption, rfl⟩))))
          | exact sm _ (Or.inr (Or.inr (Or.inr (Or.inr (Or.inl ⟨by assumption, by omega⟩)))))
          | exact hG _ _ fr rc (Or.inr (Or.inr (Or.inr (Or.inr (Or.inr (Or.inl ⟨by assumption, ex⟩))))))
          | exact sm _ (Or.inr (Or.inr (Or.inr (Or.inr (Or.inr (Or.inr ⟨by assumption, rfl⟩))))))
      · skip
        refine ⟨(by omega), ?_⟩
        first
          | exact sm _ (Or.inl ⟨by assumption, rfl⟩)
          | exact sm _ (Or.inr (Or.inl ⟨by assumption, rfl⟩))
          | exact sm _ (Or.inr (Or.inr (Or.inl ⟨by assumption, rfl⟩)))
          | exact sm _ (Or.inr (Or.inr (Or.inr (Or.inl ⟨by assumption, rfl⟩))))
          | exact sm _ (Or.inr (Or.inr (Or.inr (Or.inr (Or.inl ⟨by assumption, by omega⟩)))))
          | exact hG _ _ fr rc (Or.inr (Or.inr (Or.inr (Or.inr (Or.inr (Or.inl ⟨by assumption, ex⟩))))))
          | exact sm _ (Or.inr (Or.inr (Or.inr (Or.inr (Or.inr (Or.inr ⟨by assumption, rfl⟩))))))
    · skip
      refine ⟨(by omega), ?_⟩
      refine ⟨fun c3 => ?_, fun c3 => ?_⟩
      · skip
        refine ⟨(by omega), ?_⟩
        first
          | exact sm _ (Or.inl ⟨by assumption, rfl⟩)
          | exact sm _ (Or.inr (Or.inl ⟨by assumption, rfl⟩))
          | exact sm _ (Or.inr (Or.inr (Or.inl ⟨by assumption, rfl⟩)))
          | exact sm _ (Or.inr (Or.inr (Or.inr (Or.inl ⟨by assumption, rfl⟩))))
          | exact sm _ (Or.inr (Or.inr (Or.inr (Or.inr (Or.inl ⟨by assumption, by omega⟩)))))
          | exact hG _ _ fr rc (Or.inr (Or.inr (Or.inr (Or.inr (Or.inr (Or.inl ⟨by assumption, ex⟩))))))
          | exact sm _ (Or.inr (Or.inr (Or.inr (Or.inr (Or.inr (Or.inr ⟨by assumption, rfl⟩))))))
      · skip
        refine ⟨(by omega), ?_⟩
        first
          | exact sm _ (Or.inl ⟨by assumption, rfl⟩)
          | exact sm _ (Or.inr (Or.inl ⟨by assumption, rfl⟩))
          | exact sm _ (Or.inr (Or.inr (Or.inl ⟨by assumption, rfl⟩)))
          | exact sm _ (Or.inr (Or.inr (Or.inr (Or.inl ⟨by assumption, rfl⟩))))
          | exact sm _ (Or.inr (Or.inr (Or.inr (Or.inr (Or.inl ⟨by assumption, by omega⟩)))))
          | exact hG _ _ fr rc (Or.inr (Or.inr (Or.inr (Or.inr (Or.inr (Or.inl ⟨by assumption, ex⟩))))))
          | exact sm _ (Or.inr (Or.inr (Or.inr (Or.inr (Or.inr (Or.inr ⟨by assumption, rfl⟩))))))
  · skip
    refine ⟨(by exact ⟨hM, hC⟩), (fun σ2 r2 h2a h2b h2c => ?_)⟩
    intro _ _
    have fr := h2a
    have rc := h2b
    have ex := h2c
    first
      | exact sm _ (Or.inl ⟨by assumption, rfl⟩)
      | exact sm _ (Or.inr (Or.inl ⟨by assumption, rfl⟩))
      | exact sm _ (Or.inr (Or.inr (Or.inl ⟨by assumption, rfl⟩)))
      | exact sm _ (Or.inr (Or.inr (Or.inr (Or.inl ⟨by assumption, rfl⟩))))
      | exact sm _ (Or.inr (Or.inr (Or.inr (Or.inr (Or.inl ⟨by assumption, by omega⟩)))))
      | exact hG _ _ fr rc (Or.inr (Or.inr (Or.inr (Or.inr (Or.inr (Or.inl ⟨by assumption, ex⟩))))))
      | exact sm _ (Or.inr (Or.inr (Or.inr (Or.inr (Or.inr (Or.inr ⟨by assumption, rfl⟩))))))
  · skip
    first
      | exact sm _ (Or.inl ⟨by assumption, rfl⟩)
      | exact sm _ (Or.inr (Or.inl ⟨by assumption, rfl⟩))
      | exact sm _ (Or.inr (Or.inr (Or.inl ⟨by assumption, rfl⟩)))
      | exact sm _ (Or.inr (Or.inr (Or.inr (Or.inl ⟨by assumption, rfl⟩))))
      | exact sm _ (Or.inr (Or.inr (Or.inr (Or.inr (Or.inl ⟨by assumption, by omega⟩)))))
      | exact hG _ _ fr rc (Or.inr (Or.inr (Or.inr (Or.inr (Or.inr (Or.inl ⟨by assumption, ex⟩))))))
      | exact sm _ (Or.inr (Or.inr (Or.inr (Or.inr (Or.inr (Or.inr ⟨by assumption, rfl⟩))))))
theorem H_Mo_count {d : Nat} (hd : 8 ≤ d) : Holds d I_Mo_count S_Mo_count := by
  refine holds_of (d' := d - 1) (rt := 1) (cal := [(I_Mo_size, S_Mo_size), (I_Mo_unlikeLetters, S_Mo_unlikeLetters), (I_Mo_exponents, S_Mo_exponents)]) (C := C_Mo_count) m_Mo_count o_Mo_count rfl rfl (by omega) ?_ ?_
  · intro x hx
    simp only [List.mem_cons, List.not_mem_nil, or_false] at hx
    rcases hx with rfl | rfl | rfl
    · exact H_Mo_size (by omega)
    · exact H_Mo_unlikeLetters (by omega)
    · exact H_Mo_exponents (by omega)
  · intro as σ K has hσ hG
    have hG2 := hG
    unfold S_Mo_count at hG2
    split at hG2
    · next a1 =>
      refine ⟨Nat.le_of_ble_eq_true rfl, (fun _ => none), ?_, 1000, ?_⟩
      · intro k n z L σ' hk hL hs hP
        cases hk
      · exact e_Mo_count a1 σ K (has _ (List.mem_of_getElem? (i := 1) rfl)) hσ hG
    · exact hG2.elim
