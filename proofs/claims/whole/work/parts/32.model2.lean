/-! the reference: borders, periods, covers, where a part lies, which is less -/
theorem MoW.n {σ : SS} (h : MoW σ) : 0 ≤ (σ 40 0 0) ∧ (σ 40 0 0) ≤ 120 := h.1
def S_Mo_letter : GS := fun as σ K => match as with
  | [some (.inr (.inr (12, 0))), some (.inl a1)] => MoW σ ∧ K (vI (mW σ a1)) σ
  | _ => False
def VE_Mo_letter (a1 : Int) (σ : SS) (K : AV → SS → Prop) : Prop :=
  (S_Mo_isPlace [vR 12 0, vI a1] σ (kI fun r1 σ1 =>
    ((r1 = 0 →
      (K (vI (-1)) σ1)) ∧
    (r1 ≠ 0 →
      (S_Mo_at [vR 12 0, vI a1] σ1 (kI fun r2 σ2 =>
        (K (vI r2) σ2)))))))
theorem e_Mo_letter (a1 : Int) (σ : SS) (K : AV → SS → Prop) (ha1 : InR a1) (hs : okS σ) (hG : S_Mo_letter [vR 12 0, vI a1] σ K) : VE_Mo_letter a1 σ K := by
  unfold VE_Mo_letter
  obtain ⟨hM, hG⟩ := hG
  have hn := hM.n
  refine ⟨hM, bS_b0 (fun hp _ => ⟨by omega, ?_⟩) (fun hp _ => ?_)⟩
  · intro _ _
    exact hG
  · rwa [show mW σ a1 = -1 from if_neg (by omega)] at hG
theorem H_Mo_letter {d : Nat} (hd : 3 ≤ d) : Holds d I_Mo_letter S_Mo_letter := by
  refine holds_of (d' := d - 1) (rt := 1) (cal := [(I_Mo_isPlace, S_Mo_isPlace), (I_Mo_at, S_Mo_at)]) (C := C_Mo_letter) m_Mo_letter o_Mo_letter rfl rfl (by omega) ?_ ?_
  · intro x hx
    simp only [List.mem_cons, List.not_mem_nil, or_false] at hx
    rcases hx with rfl | rfl
    · exact H_Mo_isPlace (by omega)
    · exact H_Mo_at (by omega)
  · intro as σ K has hσ hG
    have hG2 := hG
    unfold S_Mo_letter at hG2
    split at hG2
    · next a1 =>
      refine ⟨Nat.le_of_ble_eq_true rfl, (fun _ => none), ?_, 1000, ?_⟩
      · intro k n z L σ' hk hL hs hP
        cases hk
      · exact e_Mo_letter a1 σ K (has _ (List.mem_of_getElem? (i := 1) rfl)) hσ hG
    · exact hG2.elim
def S_Mo_order : GS := fun as σ K => match as with
  | [some (.inl a0), some (.inl a1), some (.inl a2)] => K (vI (ordI a0 a1 a2)) σ
  | _ => False
def VE_Mo_order (a0 : Int) (a1 : Int) (a2 : Int) (σ : SS) (K : AV → SS → Prop) : Prop :=
  ((a1 ≤ a0 →
    ((a0 ≤ a1 →
      ((a2 = 0 →
        (InR (-0) ∧
        (K (vI (-0)) σ))) ∧
      (a2 ≠ 0 →
        (K (vI 0) σ)))) ∧
    (a1 < a0 →
      ((a2 = 0 →
        (InR (-1) ∧
        (K (vI (-1)) σ))) ∧
      (a2 ≠ 0 →
        (K (vI 1) σ)))))) ∧
  (a0 < a1 →
    ((a2 = 0 →
      (InR (-(-1)) ∧
      (K (vI (-(-1))) σ))) ∧
    (a2 ≠ 0 →
      (K (vI (-1)) σ)))))
theorem e_Mo_order (a0 : Int) (a1 : Int) (a2 : Int) (σ : SS) (K : AV → SS → Prop) (ha0 : InR a0) (ha1 : InR a1) (ha2 : InR a2) (hs : okS σ) (hG : S_Mo_order [vI a0, vI a1, vI a2] σ K) : VE_Mo_order a0 a1 a2 σ K := by
  unfold VE_Mo_order
  have hG : K (vI (ordI a0 a1 a2)) σ := hG
  unfold ordI at hG
  refine ⟨fun h => ⟨fun h2 => ⟨fun h3 => ⟨by omega, ?_⟩, fun h3 => ?_⟩, fun h2 => ⟨fun h3 => ⟨by omega, ?_⟩, fun h3 => ?_⟩⟩, fun h => ⟨fun h3 => ⟨by omega, ?_⟩, fun h3 => ?_⟩⟩
  · rw [Int.neg_zero]; grind
  all_goals grind
theorem H_Mo_order {d : Nat} (hd : 1 ≤ d) : Holds d I_Mo_order S_Mo_order := by
  refine holds_of (d' := d - 1) (rt := 1) (cal := []) (C := C_Mo_order) m_Mo_order o_Mo_order rfl rfl (by omega) ?_ ?_
  · intro x hx
    cases hx
  · intro as σ K has hσ hG
    have hG2 := hG
    unfold S_Mo_order at hG2
    split at hG2
    · next a0 a1 a2 =>
      refine ⟨Nat.le_of_ble_eq_true rfl, (fun _ => none), ?_, 1000, ?_⟩
      · intro k n z L σ' hk hL hs hP
        cases hk
      · exact e_Mo_order a0 a1 a2 σ K (has _ (List.mem_of_getElem? (i := 0) rfl)) (has _ (List.mem_of_getElem? (i := 1) rfl)) (has _ (List.mem_of_getElem? (i := 2) rfl)) hσ hG
    · exact hG2.elim
def S_Mo_compare : GS := fun as σ K => match as with
  | [some (.inr (.inr (12, 0))), some (.inl a1), some (.inl a2), some (.inl a3), some (.inl a4)] => MoW σ ∧ ∀ r, RCompare (mW σ) (σ 40 0 0) a1 a2 a3 a4 r → K (vI r) σ
  | _ => False
def VE_Mo_compare (a1 : Int) (a2 : Int) (a3 : Int) (a4 : Int) (σ : SS) (K : AV → SS → Prop) : Prop :=
  (S_Mo_isPart [vR 12 0, vI a1, vI a2] σ (kI fun r1 σ1 =>
    ((r1 = 0 →
      (K (vI (-2)) σ1)) ∧
    (r1 ≠ 0 →
      (S_Mo_isPart [vR 12 0, vI a3, vI a4] σ1 (kI fun r2 σ2 =>
        ((r2 ≠ 0 →
          (InR (a2 - a1) ∧
          (InR (a4 - a3) ∧
          (S_Mo_least [vI (a2 - a1), vI (a4 - a3)] σ2 (kI fun r3 σ3 =>
            (S_Mo_common [vR 12 0, vI a1, vI a3, vI r3] σ3 (kI fun r4 σ4 =>
              ((r3 ≤ r4 →
                (InR (a2 - a1) ∧
                (InR (a4 - a3) ∧
                (S_Mo_order [vI (a2 - a1), vI (a4 - a3), vI 1] σ4 (kI fun r5 σ5 =>
                  (K (vI r5) σ5)))))) ∧
              (r4 < r3 →
                (InR (a1 + r4) ∧
                (S_Mo_at [vR 12 0, vI (a1 + r4)] σ4 (kI fun r6 σ6 =>
                  (InR (a3 + r4) ∧
                  (S_Mo_at [vR 12 0, vI (a3 + r4)] σ6 (kI fun r7 σ7 =>
                    (S_Mo_order [vI r6, vI r7, vI 1] σ7 (kI fun r8 σ8 =>
                      (K (vI r8) σ8)))))))))))))))))) ∧
        (r2 = 0 →
          (K (vI (-2)) σ2)))))))))
theorem e_Mo_compare (a1 : Int) (a2 : Int) (a3 : Int) (a4 : Int) (σ : SS) (K : AV → SS → Prop) (ha1 : InR a1) (ha2 : InR a2) (ha3 : InR a3) (ha4 : InR a4) (hs : okS σ) (hG : S_Mo_compare [vR 12 0, vI a1, vI a2, vI a3, vI a4] σ K) : VE_Mo_compare a1 a2 a3 a4 σ K := by
  unfold VE_Mo_compare
  obtain ⟨hM, hG⟩ := hG
  have hn := hM.n
  refine ⟨hM, bS_b0 (fun hp _ => ⟨hM, bS_b1 (fun hp2 _ => ⟨by omega, by omega, ?_⟩) (fun hp2 _ => hG _ (gd_n (by omega)))⟩) (fun hp _ => hG _ (gd_n (by omega)))⟩
  intro _ _
  refine ⟨by omega, ?_⟩
  intro _ _
  have hG := hG _ (gd_y ⟨hp, hp2⟩ rfl)
  unfold cmpP at hG
  obtain ⟨g1, g2, g3, g4⟩ := lceF_spec (mW σ) (min (a2 - a1) (a4 - a3)).toNat a1 a3
  refine ⟨fun h => ⟨by omega, by omega, ?_⟩, fun h => ⟨by omega, by omega, ?_⟩⟩
  · intro _ _
    rwa [if_neg (by omega)] at hG
  · intro _ _
    refine ⟨by omega, by omega, ?_⟩
    intro _ _ _ _
    rwa [if_pos h] at hG
theorem H_Mo_compare {d : Nat} (hd : 3 ≤ d) : Holds d I_Mo_compare S_Mo_compare := by
  refine holds_of (d' := d - 1) (rt := 1) (cal := [(I_Mo_isPart, S_Mo_isPart), (I_Mo_least, S_Mo_least), (I_Mo_common, S_Mo_common), (I_Mo_at, S_Mo_at), (I_Mo_order, S_Mo_order)]) (C := C_Mo_compare) m_Mo_compare o_Mo_compare rfl rfl (by omega) ?_ ?_
  · intro x hx
    simp only [List.mem_cons, List.not_mem_nil, or_false] at hx
    rcases hx with rfl | rfl | rfl | rfl | rfl
    · exact H_Mo_isPart (by omega)
    · exact H_Mo_least (by omega)
    · exact H_Mo_common (by omega)
    · exact H_Mo_at (by omega)
    · exact H_Mo_order (by omega)
  · intro as σ K has hσ hG
    have hG2 := hG
    unfold S_Mo_compare at hG2
    split at hG2
    · next a1 a2 a3 a4 =>
      refine ⟨Nat.le_of_ble_eq_true rfl, (fun _ => none), ?_, 1000, ?_⟩
      · intro k n z L σ' hk hL hs hP
        cases hk
      · exact e_Mo_compare a1 a2 a3 a4 σ K (has _ (List.mem_of_getElem? (i := 1) rfl)) (has _ (List.mem_of_getElem? (i := 2) rfl)) (has _ (List.mem_of_getElem? (i := 3) rfl)) (has _ (List.mem_of_getElem? (i := 4) rfl)) hσ hG
    · exact hG2.elim
def S_Mo_border : GS := fun as σ K => match as with
  | [some (.inr (.inr (12, 0))), some (.inl a1), some (.inl a2), some (.inl a3)] => MoW σ ∧ ∀ r, RBorder (mW σ) (σ 40 0 0) a1 a2 a3 r → K (vI r) σ
  | _ => False
abbrev Lp_Mo_border_18 (a1 : Int) (a2 : Int) (a3 : Int) (σ0 : SS) (n : Nat) (L : List AV) (σ : SS) : Prop := ∃ (v4 : Int) (v5 : Int), L = [vR 12 0, vI a1, vI a2, vI a3, vI v4, vI v5] ∧ n = (v5).toNat ∧ ((σ = σ0) ∧ (0 ≤ a1 ∧ a1 ≤ a2 ∧ a2 ≤ (σ0 40 0 0)) ∧ (-1 ≤ a3) ∧ (-1 ≤ v5 ∧ (a1 < a2 → 0 ≤ v5)) ∧ (v5 ≤ a2 - a1 - 1) ∧ (kL (isP (mW σ0) a1 a2) 1 a3 v4 (a2 - a1 - v5)))
def Iv_Mo_border (a1 : Int) (a2 : Int) (a3 : Int) (σ0 : SS) (k : Nat) : Option (List Nat × (Nat → List AV → SS → Prop)) := match k with
  | 18 => some ([], Lp_Mo_border_18 a1 a2 a3 σ0)
  | _ => none
def VE_Mo_border (a1 : Int) (a2 : Int) (a3 : Int) (σ : SS) (K : AV → SS → Prop) : Prop :=
  (S_Mo_isPart [vR 12 0, vI a1, vI a2] σ (kI fun r1 σ1 =>
    ((r1 = 0 →
      (K (vI (-1)) σ1)) ∧
    (r1 ≠ 0 →
      (((-1 : Int) ≤ a3 →
        (InR (a2 - a1) ∧
        (InR ((a2 - a1) - 1) ∧
        (∃ n', Lp_Mo_border_18 a1 a2 a3 σ n' [vR 12 0, vI a1, vI a2, vI a3, vI 0, vI ((a2 - a1) - 1)] σ1)))) ∧
      (a3 < (-1) →
        (K (vI (-1)) σ1)))))))
def VL_Mo_border_18 (a1 : Int) (a2 : Int) (a3 : Int) (σ0 : SS) (K : AV → SS → Prop) (v4 : Int) (v5 : Int) (σ : SS) (n : Nat) : Prop :=
  ((v5 ≤ 0 →
    ((a3 ≠ (-1) →
      (K (vI (-2)) σ)) ∧
    (a3 = (-1) →
      (K (vI v4) σ)))) ∧
  ((0 : Int) < v5 →
    (InR (a2 - a1) ∧
    (InR ((a2 - a1) - v5) ∧
    (S_Mo_isPeriod [vR 12 0, vI a1, vI a2, vI ((a2 - a1) - v5)] σ (kI fun r1 σ1 =>
      ((r1 ≠ 0 →
        ((v4 ≠ a3 →
          (InR (v4 + 1) ∧
          (InR (v5 + (-1)) ∧
          (∃ n', n' < n ∧ Lp_Mo_border_18 a1 a2 a3 σ0 n' [vR 12 0, vI a1, vI a2, vI a3, vI (v4 + 1), vI (v5 + (-1))] σ1)))) ∧
        (v4 = a3 →
          (K (vI v5) σ1)))) ∧
      (r1 = 0 →
        (InR (v5 + (-1)) ∧
        (∃ n', n' < n ∧ Lp_Mo_border_18 a1 a2 a3 σ0 n' [vR 12 0, vI a1, vI a2, vI a3, vI v4, vI (v5 + (-1))] σ1))))))))))
theorem l_Mo_border_18 (a1 : Int) (a2 : Int) (a3 : Int) (σ0 : SS) (K : AV → SS → Prop) (ha1 : InR a1) (ha2 : InR a2) (ha3 : InR a3) (hs0 : okS σ0) (hG : S_Mo_border [vR 12 0, vI a1, vI a2, vI a3] σ0 K) (v4 : Int) (v5 : Int) (σ : SS) (hv4 : InR v4) (hv5 : InR v5) (hs : okS σ) (n : Nat) (hn : n = (v5).toNat) (hQ : (σ = σ0) ∧ (0 ≤ a1 ∧ a1 ≤ a2 ∧ a2 ≤ (σ0 40 0 0)) ∧ (-1 ≤ a3) ∧ (-1 ≤ v5 ∧ (a1 < a2 → 0 ≤ v5)) ∧ (v5 ≤ a2 - a1 - 1) ∧ (kL (isP (mW σ0) a1 a2) 1 a3 v4 (a2 - a1 - v5))) : VL_Mo_border_18 a1 a2 a3 σ0 K v4 v5 σ n := by
  unfold VL_Mo_border_18
  obtain ⟨hM, hG⟩ := hG
  have hn := hM.n
  obtain ⟨rfl, q1, q2, q3, q4, q5⟩ := hQ
  have hin := kL_in q5
  refine ⟨fun h => ?_, fun h => ⟨by omega, by omega, ⟨hM, by omega, by omega, by omega, by omega⟩, bS_b1 (fun hp _ => ⟨fun h2 => ⟨by omega, by omega, _, ?_, _, _, rfl, rfl, rfl, q1, q2, by omega, by omega, ?_⟩, fun h2 => ?_⟩) (fun hp _ => ⟨by omega, _, ?_, _, _, rfl, rfl, rfl, q1, q2, by omega, by omega, ?_⟩)⟩⟩
  · have q6 : kL (isP (mW σ) a1 a2) 1 a3 v4 (max 1 (a2 - a1)) := by
      rcases (by omega : v5 = 0 ∧ 1 ≤ a2 - a1 ∨ v5 = -1 ∧ a2 - a1 = 0) with z | z
      · rwa [show max 1 (a2 - a1) = a2 - a1 - v5 by omega]
      · rwa [show max 1 (a2 - a1) = a2 - a1 - v5 by omega]
    refine ⟨fun h2 => hG _ (gd_y (by omega) ⟨_, kL_end q6 q2 h2, by rw [if_pos (Or.inr rfl)]⟩), fun h2 => hG _ (gd_y (by omega) ⟨_, kL_all q6 h2, by rw [if_pos (Or.inl h2)]⟩)⟩
  · omega
  · rw [show a2 - a1 - (v5 + -1) = a2 - a1 - v5 + 1 by omega]
    exact kL_yes q5 (by omega) hp h2
  · exact hG _ (gd_y (by omega) ⟨_, kL_hit q5 (by omega) (by omega) hp h2, by rw [if_neg (by omega)]; omega⟩)
  · omega
  · rw [show a2 - a1 - (v5 + -1) = a2 - a1 - v5 + 1 by omega]
    exact kL_no q5 (by omega) hp
theorem e_Mo_border (a1 : Int) (a2 : Int) (a3 : Int) (σ : SS) (K : AV → SS → Prop) (ha1 : InR a1) (ha2 : InR a2) (ha3 : InR a3) (hs : okS σ) (hG : S_Mo_border [vR 12 0, vI a1, vI a2, vI a3] σ K) : VE_Mo_border a1 a2 a3 σ K := by
  unfold VE_Mo_border
  obtain ⟨hM, hG⟩ := hG
  have hn := hM.n
  exact ⟨hM, bS_b0 (fun hp _ => ⟨fun h => ⟨by omega, by omega, _, _, _, rfl, rfl, rfl, hp, h, by omega, by omega, by rw [show a2 - a1 - (a2 - a1 - 1) = 1 by omega]; exact kL_0⟩, fun h => hG _ (gd_n (by omega))⟩) (fun hp _ => hG _ (gd_n (by omega)))⟩
theorem H_Mo_border {d : Nat} (hd : 5 ≤ d) : Holds d I_Mo_border S_Mo_border := by
  refine holds_of (d' := d - 1) (rt := 1) (cal := [(I_Mo_isPart, S_Mo_isPart), (I_Mo_isPeriod, S_Mo_isPeriod)]) (C := C_Mo_border) m_Mo_border o_Mo_border rfl rfl (by omega) ?_ ?_
  · intro x hx
    simp only [List.mem_cons, List.not_mem_nil, or_false] at hx
    rcases hx with rfl | rfl
    · exact H_Mo_isPart (by omega)
    · exact H_Mo_isPeriod (by omega)
  · intro as σ K has hσ hG
    have hG2 := hG
    unfold S_Mo_border at hG2
    split at hG2
    · next a1 a2 a3 =>
      refine ⟨Nat.le_of_ble_eq_true rfl, (Iv_Mo_border a1 a2 a3 σ), ?_, 1000, ?_⟩
      · intro k n z L σ' hk hL hs hP
        unfold Iv_Mo_border at hk
        split at hk
        · cases hk
          obtain ⟨v4, v5, rfl, hn, hQ⟩ := hP
          exact ⟨1000, l_Mo_border_18 a1 a2 a3 σ K (has _ (List.mem_of_getElem? (i := 1) rfl)) (has _ (List.mem_of_getElem? (i := 2) rfl)) (has _ (List.mem_of_getElem? (i := 3) rfl)) hσ hG v4 v5 σ' (hL _ (List.mem_of_getElem? (i := 4) rfl)) (hL _ (List.mem_of_getElem? (i := 5) rfl)) hs n hn hQ⟩
        · cases hk
      · exact e_Mo_border a1 a2 a3 σ K (has _ (List.mem_of_getElem? (i := 1) rfl)) (has _ (List.mem_of_getElem? (i := 2) rfl)) (has _ (List.mem_of_getElem? (i := 3) rfl)) hσ hG
    · exact hG2.elim
def S_Mo_period : GS := fun as σ K => match as with
  | [some (.inr (.inr (12, 0))), some (.inl a1), some (.inl a2), some (.inl a3)] => MoW σ ∧ ∀ r, RPeriod (mW σ) (σ 40 0 0) a1 a2 a3 r → K (vI r) σ
  | _ => False
abbrev Lp_Mo_period_14 (a1 : Int) (a2 : Int) (a3 : Int) (σ0 : SS) (n : Nat) (L : List AV) (σ : SS) : Prop := ∃ (v4 : Int) (v5 : Int), L = [vR 12 0, vI a1, vI a2, vI a3, vI v4, vI v5] ∧ n = (a2 - a1 + 1 - v5).toNat ∧ ((σ = σ0) ∧ (0 ≤ a1 ∧ a1 ≤ a2 ∧ a2 ≤ (σ0 40 0 0)) ∧ (-1 ≤ a3) ∧ (1 ≤ v5) ∧ (v5 ≤ max 1 (a2 - a1 + 1)) ∧ (kL (isP (mW σ0) a1 a2) 1 a3 v4 v5))
def Iv_Mo_period (a1 : Int) (a2 : Int) (a3 : Int) (σ0 : SS) (k : Nat) : Option (List Nat × (Nat → List AV → SS → Prop)) := match k with
  | 14 => some ([], Lp_Mo_period_14 a1 a2 a3 σ0)
  | _ => none
def VE_Mo_period (a1 : Int) (a2 : Int) (a3 : Int) (σ : SS) (K : AV → SS → Prop) : Prop :=
  (S_Mo_isPart [vR 12 0, vI a1, vI a2] σ (kI fun r1 σ1 =>
    ((r1 = 0 →
      (K (vI (-1)) σ1)) ∧
    (r1 ≠ 0 →
      (((-1 : Int) ≤ a3 →
        (∃ n', Lp_Mo_period_14 a1 a2 a3 σ n' [vR 12 0, vI a1, vI a2, vI a3, vI 0, vI 1] σ1)) ∧
      (a3 < (-1) →
        (K (vI (-1)) σ1)))))))
def VL_Mo_period_14 (a1 : Int) (a2 : Int) (a3 : Int) (σ0 : SS) (K : AV → SS → Prop) (v4 : Int) (v5 : Int) (σ : SS) (n : Nat) : Prop :=
  (InR (a2 - a1) ∧
  (((a2 - a1) < v5 →
    ((a3 ≠ (-1) →
      (K (vI (-2)) σ)) ∧
    (a3 = (-1) →
      (K (vI v4) σ)))) ∧
  (v5 ≤ (a2 - a1) →
    (S_Mo_isPeriod [vR 12 0, vI a1, vI a2, vI v5] σ (kI fun r1 σ1 =>
      ((r1 ≠ 0 →
        ((v4 ≠ a3 →
          (InR (v4 + 1) ∧
          (InR (v5 + 1) ∧
          (∃ n', n' < n ∧ Lp_Mo_period_14 a1 a2 a3 σ0 n' [vR 12 0, vI a1, vI a2, vI a3, vI (v4 + 1), vI (v5 + 1)] σ1)))) ∧
        (v4 = a3 →
          (K (vI v5) σ1)))) ∧
      (r1 = 0 →
        (InR (v5 + 1) ∧
        (∃ n', n' < n ∧ Lp_Mo_period_14 a1 a2 a3 σ0 n' [vR 12 0, vI a1, vI a2, vI a3, vI v4, vI (v5 + 1)] σ1)))))))))
theorem l_Mo_period_14 (a1 : Int) (a2 : Int) (a3 : Int) (σ0 : SS) (K : AV → SS → Prop) (ha1 : InR a1) (ha2 : InR a2) (ha3 : InR a3) (hs0 : okS σ0) (hG : S_Mo_period [vR 12 0, vI a1, vI a2, vI a3] σ0 K) (v4 : Int) (v5 : Int) (σ : SS) (hv4 : InR v4) (hv5 : InR v5) (hs : okS σ) (n : Nat) (hn : n = (a2 - a1 + 1 - v5).toNat) (hQ : (σ = σ0) ∧ (0 ≤ a1 ∧ a1 ≤ a2 ∧ a2 ≤ (σ0 40 0 0)) ∧ (-1 ≤ a3) ∧ (1 ≤ v5) ∧ (v5 ≤ max 1 (a2 - a1 + 1)) ∧ (kL (isP (mW σ0) a1 a2) 1 a3 v4 v5)) : VL_Mo_period_14 a1 a2 a3 σ0 K v4 v5 σ n := by
  unfold VL_Mo_period_14
  obtain ⟨hM, hG⟩ := hG
  have hn := hM.n
  obtain ⟨rfl, q1, q2, q3, q4, q5⟩ := hQ
  have hin := kL_in q5
  refine ⟨by omega, fun h => ?_, fun h => ⟨⟨hM, by omega, by omega, by omega, by omega⟩, bS_b1 (fun hp _ => ⟨fun h2 => ⟨by omega, by omega, _, ?_, _, _, rfl, rfl, rfl, q1, q2, by omega, by omega, kL_yes q5 q3 hp h2⟩, fun h2 => hG _ (gd_y (by omega) (kL_hit q5 q3 (by omega) hp h2))⟩) (fun hp _ => ⟨by omega, _, ?_, _, _, rfl, rfl, rfl, q1, q2, by omega, by omega, kL_no q5 q3 hp⟩)⟩⟩
  · rw [show v5 = max 1 (a2 - a1 + 1) by omega] at q5
    exact ⟨fun h2 => hG _ (gd_y (by omega) (kL_end q5 q2 h2)), fun h2 => hG _ (gd_y (by omega) (kL_all q5 h2))⟩
  · omega
  · omega
theorem e_Mo_period (a1 : Int) (a2 : Int) (a3 : Int) (σ : SS) (K : AV → SS → Prop) (ha1 : InR a1) (ha2 : InR a2) (ha3 : InR a3) (hs : okS σ) (hG : S_Mo_period [vR 12 0, vI a1, vI a2, vI a3] σ K) : VE_Mo_period a1 a2 a3 σ K := by
  unfold VE_Mo_period
  obtain ⟨hM, hG⟩ := hG
  have hn := hM.n
  exact ⟨hM, bS_b0 (fun hp _ => ⟨fun h => ⟨_, _, _, rfl, rfl, rfl, hp, h, by omega, by omega, kL_0⟩, fun h => hG _ (gd_n (by omega))⟩) (fun hp _ => hG _ (gd_n (by omega)))⟩
theorem H_Mo_period {d : Nat} (hd : 5 ≤ d) : Holds d I_Mo_period S_Mo_period := by
  refine holds_of (d' := d - 1) (rt := 1) (cal := [(I_Mo_isPart, S_Mo_isPart), (I_Mo_isPeriod, S_Mo_isPeriod)]) (C := C_Mo_period) m_Mo_period o_Mo_period rfl rfl (by omega) ?_ ?_
  · intro x hx
    simp only [List.mem_cons, List.not_mem_nil, or_false] at hx
    rcases hx with rfl | rfl
    · exact H_Mo_isPart (by omega)
    · exact H_Mo_isPeriod (by omega)
  · intro as σ K has hσ hG
    have hG2 := hG
    unfold S_Mo_period at hG2
    split at hG2
    · next a1 a2 a3 =>
      refine ⟨Nat.le_of_ble_eq_true rfl, (Iv_Mo_period a1 a2 a3 σ), ?_, 1000, ?_⟩
      · intro k n z L σ' hk hL hs hP
        unfold Iv_Mo_period at hk
        split at hk
        · cases hk
          obtain ⟨v4, v5, rfl, hn, hQ⟩ := hP
          exact ⟨1000, l_Mo_period_14 a1 a2 a3 σ K (has _ (List.mem_of_getElem? (i := 1) rfl)) (has _ (List.mem_of_getElem? (i := 2) rfl)) (has _ (List.mem_of_getElem? (i := 3) rfl)) hσ hG v4 v5 σ' (hL _ (List.mem_of_getElem? (i := 4) rfl)) (hL _ (List.mem_of_getElem? (i := 5) rfl)) hs n hn hQ⟩
        · cases hk
      · exact e_Mo_period a1 a2 a3 σ K (has _ (List.mem_of_getElem? (i := 1) rfl)) (has _ (List.mem_of_getElem? (i := 2) rfl)) (has _ (List.mem_of_getElem? (i := 3) rfl)) hσ hG
    · exact hG2.elim
def S_Mo_isCover : GS := fun as σ K => match as with
  | [some (.inr (.inr (12, 0))), some (.inl a1), some (.inl a2), some (.inl a3)] => (MoW σ ∧ 0 ≤ a1 ∧ a1 < a2 ∧ a2 ≤ (σ 40 0 0) ∧ 1 ≤ a3 ∧ a3 ≤ a2 - a1) ∧ bS (isCv (mW σ) a1 a2 a3) K σ
  | _ => False
abbrev Lp_Mo_isCover_4 (a1 : Int) (a2 : Int) (a3 : Int) (σ0 : SS) (n : Nat) (L : List AV) (σ : SS) : Prop := ∃ (v4 : Int) (v5 : Int), L = [vR 12 0, vI a1, vI a2, vI a3, vI v4, vI v5] ∧ n = (a2 - v5).toNat ∧ ((σ = σ0) ∧ (a1 ≤ v4) ∧ (v4 ≤ a2) ∧ (a1 ≤ v5) ∧ (v5 ≤ a2 - a3 + 1) ∧ (∀ x, a1 ≤ x → x < v4 → ∃ o, a1 ≤ o ∧ o + a3 ≤ a2 ∧ o ≤ x ∧ x < o + a3 ∧ eqs (mW σ0) a1 o a3) ∧ (∀ o, a1 ≤ o → o < v5 → eqs (mW σ0) a1 o a3 → o + a3 ≤ v4))
def Iv_Mo_isCover (a1 : Int) (a2 : Int) (a3 : Int) (σ0 : SS) (k : Nat) : Option (List Nat × (Nat → List AV → SS → Prop)) := match k with
  | 4 => some ([], Lp_Mo_isCover_4 a1 a2 a3 σ0)
  | _ => none
def VE_Mo_isCover (a1 : Int) (a2 : Int) (a3 : Int) (σ : SS) (K : AV → SS → Prop) : Prop :=
  (∃ n', Lp_Mo_isCover_4 a1 a2 a3 σ n' [vR 12 0, vI a1, vI a2, vI a3, vI a1, vI a1] σ)
def VL_Mo_isCover_4 (a1 : Int) (a2 : Int) (a3 : Int) (σ0 : SS) (K : AV → SS → Prop) (v4 : Int) (v5 : Int) (σ : SS) (n : Nat) : Prop :=
  (InR (v5 + a3) ∧
  ((a2 < (v5 + a3) →
    ((v4 ≠ a2 →
      ((0 ≤ (0 : Int) ∧ (0 : Int) ≤ 1) ∧ K (vI 0) σ)) ∧
    (v4 = a2 →
      ((0 ≤ (1 : Int) ∧ (1 : Int) ≤ 1) ∧ K (vI 1) σ)))) ∧
  ((v5 + a3) ≤ a2 →
    (S_Mo_areAlike [vR 12 0, vI a1, vI v5, vI a3] σ (kI fun r1 σ1 =>
      ((r1 ≠ 0 →
        ((v5 ≤ v4 →
          (InR (v5 + a3) ∧
          (InR (v5 + 1) ∧
          (∃ n', n' < n ∧ Lp_Mo_isCover_4 a1 a2 a3 σ0 n' [vR 12 0, vI a1, vI a2, vI a3, vI (v5 + a3), vI (v5 + 1)] σ1)))) ∧
        (v4 < v5 →
          ((0 ≤ (0 : Int) ∧ (0 : Int) ≤ 1) ∧ K (vI 0) σ1)))) ∧
      (r1 = 0 →
        (InR (v5 + 1) ∧
        (∃ n', n' < n ∧ Lp_Mo_isCover_4 a1 a2 a3 σ0 n' [vR 12 0, vI a1, vI a2, vI a3, vI v4, vI (v5 + 1)] σ1)))))))))
theorem l_Mo_isCover_4 (a1 : Int) (a2 : Int) (a3 : Int) (σ0 : SS) (K : AV → SS → Prop) (ha1 : InR a1) (ha2 : InR a2) (ha3 : InR a3) (hs0 : okS σ0) (hG : S_Mo_isCover [vR 12 0, vI a1, vI a2, vI a3] σ0 K) (v4 : Int) (v5 : Int) (σ : SS) (hv4 : InR v4) (hv5 : InR v5) (hs : okS σ) (n : Nat) (hn : n = (a2 - v5).toNat) (hQ : (σ = σ0) ∧ (a1 ≤ v4) ∧ (v4 ≤ a2) ∧ (a1 ≤ v5) ∧ (v5 ≤ a2 - a3 + 1) ∧ (∀ x, a1 ≤ x → x < v4 → ∃ o, a1 ≤ o ∧ o + a3 ≤ a2 ∧ o ≤ x ∧ x < o + a3 ∧ eqs (mW σ0) a1 o a3) ∧ (∀ o, a1 ≤ o → o < v5 → eqs (mW σ0) a1 o a3 → o + a3 ≤ v4)) : VL_Mo_isCover_4 a1 a2 a3 σ0 K v4 v5 σ n := by
  unfold VL_Mo_isCover_4
  obtain ⟨⟨hM, h1⟩, hG⟩ := hG
  obtain ⟨rfl, q1, q2, q3, q4, q5, q6⟩ := hQ
  have hn := hM.n
  have hfull : v4 = a2 → isCv (mW σ) a1 a2 a3 := by
    intro h x g1 g2
    exact q5 x g1 (by omega)
  have hpart : (a2 - a3 < v5 ∨ v4 < v5) → v4 ≠ a2 → ¬ isCv (mW σ) a1 a2 a3 := by
    intro h g z
    obtain ⟨o, k1, k2, k3, k4, k5⟩ := z v4 q1 (by omega)
    have := q6 o k1 (by omega) k5
    omega
  refine ⟨by omega, fun h => ⟨fun g => bS_n hG (hpart (Or.inl (by omega)) g), fun g => bS_y hG (hfull g)⟩, fun h => ⟨⟨by omega, by omega, by omega, by omega, by omega, by omega⟩, bS_b1 (fun hp _ => ⟨fun h2 => ⟨by omega, by omega, _, ?_, _, _, rfl, rfl, rfl, by omega, by omega, by omega, by omega, fun x g1 g2 => ?_, fun o g1 g2 g3 => ?_⟩, fun h2 => bS_n hG (hpart (Or.inr h2) (by omega))⟩) (fun hp _ => ⟨by omega, _, ?_, _, _, rfl, rfl, rfl, q1, q2, by omega, by omega, q5, fun o g1 g2 g3 => ?_⟩)⟩⟩
  · omega
  · by_cases z : x < v4
    · exact q5 x g1 z
    · exact ⟨v5, q3, by omega, by omega, by omega, hp⟩
  · rcases (by omega : o < v5 ∨ o = v5) with z | z
    · have := q6 o g1 z g3; omega
    · omega
  · omega
  · rcases (by omega : o < v5 ∨ o = v5) with z | z
    · exact q6 o g1 z g3
    · subst z
      exact absurd g3 hp
theorem e_Mo_isCover (a1 : Int) (a2 : Int) (a3 : Int) (σ : SS) (K : AV → SS → Prop) (ha1 : InR a1) (ha2 : InR a2) (ha3 : InR a3) (hs : okS σ) (hG : S_Mo_isCover [vR 12 0, vI a1, vI a2, vI a3] σ K) : VE_Mo_isCover a1 a2 a3 σ K := by
  unfold VE_Mo_isCover
  obtain ⟨⟨hM, h1⟩, hG⟩ := hG
  exact ⟨_, _, _, rfl, rfl, rfl, by omega, by omega, by omega, by omega, fun x g1 g2 => absurd g1 (by omega), fun o g1 g2 g3 => absurd g1 (by omega)⟩
theorem H_Mo_isCover {d : Nat} (hd : 4 ≤ d) : Holds d I_Mo_isCover S_Mo_isCover := by
  refine holds_of (d' := d - 1) (rt := 2) (cal := [(I_Mo_areAlike, S_Mo_areAlike)]) (C := C_Mo_isCover) m_Mo_isCover o_Mo_isCover rfl rfl (by omega) ?_ ?_
  · intro x hx
    simp only [List.mem_cons, List.not_mem_nil, or_false] at hx
    subst hx
    exact H_Mo_areAlike (by omega)
  · intro as σ K has hσ hG
    have hG2 := hG
    unfold S_Mo_isCover at hG2
    split at hG2
    · next a1 a2 a3 =>
      refine ⟨Nat.le_of_ble_eq_true rfl, (Iv_Mo_isCover a1 a2 a3 σ), ?_, 1000, ?_⟩
      · intro k n z L σ' hk hL hs hP
        unfold Iv_Mo_isCover at hk
        split at hk
        · cases hk
          obtain ⟨v4, v5, rfl, hn, hQ⟩ := hP
          exact ⟨1000, l_Mo_isCover_4 a1 a2 a3 σ K (has _ (List.mem_of_getElem? (i := 1) rfl)) (has _ (List.mem_of_getElem? (i := 2) rfl)) (has _ (List.mem_of_getElem? (i := 3) rfl)) hσ hG v4 v5 σ' (hL _ (List.mem_of_getElem? (i := 4) rfl)) (hL _ (List.mem_of_getElem? (i := 5) rfl)) hs n hn hQ⟩
        · cases hk
      · exact e_Mo_isCover a1 a2 a3 σ K (has _ (List.mem_of_getElem? (i := 1) rfl)) (has _ (List.mem_of_getElem? (i := 2) rfl)) (has _ (List.mem_of_getElem? (i := 3) rfl)) hσ hG
    · exact hG2.elim
def S_Mo_cover : GS := fun as σ K => match as with
  | [some (.inr (.inr (12, 0))), some (.inl a1), some (.inl a2), some (.inl a3)] => MoW σ ∧ ∀ r, RCover (mW σ) (σ 40 0 0) a1 a2 a3 r → K (vI r) σ
  | _ => False
abbrev Lp_Mo_cover_14 (a1 : Int) (a2 : Int) (a3 : Int) (σ0 : SS) (n : Nat) (L : List AV) (σ : SS) : Prop := ∃ (v4 : Int) (v5 : Int), L = [vR 12 0, vI a1, vI a2, vI a3, vI v4, vI v5] ∧ n = (a2 - a1 + 1 - v5).toNat ∧ ((σ = σ0) ∧ (0 ≤ a1 ∧ a1 < a2 ∧ a2 ≤ (σ0 40 0 0)) ∧ (-1 ≤ a3) ∧ (1 ≤ v5) ∧ (v5 ≤ a2 - a1 + 1) ∧ (kL (isCv (mW σ0) a1 a2) 1 a3 v4 v5))
def Iv_Mo_cover (a1 : Int) (a2 : Int) (a3 : Int) (σ0 : SS) (k : Nat) : Option (List Nat × (Nat → List AV → SS → Prop)) := match k with
  | 14 => some ([], Lp_Mo_cover_14 a1 a2 a3 σ0)
  | _ => none
def VE_Mo_cover (a1 : Int) (a2 : Int) (a3 : Int) (σ : SS) (K : AV → SS → Prop) : Prop :=
  (S_Mo_isSome [vR 12 0, vI a1, vI a2] σ (kI fun r1 σ1 =>
    ((r1 = 0 →
      (K (vI (-1)) σ1)) ∧
    (r1 ≠ 0 →
      (((-1 : Int) ≤ a3 →
        (∃ n', Lp_Mo_cover_14 a1 a2 a3 σ n' [vR 12 0, vI a1, vI a2, vI a3, vI 0, vI 1] σ1)) ∧
      (a3 < (-1) →
        (K (vI (-1)) σ1)))))))
def VL_Mo_cover_14 (a1 : Int) (a2 : Int) (a3 : Int) (σ0 : SS) (K : AV → SS → Prop) (v4 : Int) (v5 : Int) (σ : SS) (n : Nat) : Prop :=
  (InR (a2 - a1) ∧
  (((a2 - a1) < v5 →
    ((a3 ≠ (-1) →
      (K (vI (-2)) σ)) ∧
    (a3 = (-1) →
      (K (vI v4) σ)))) ∧
  (v5 ≤ (a2 - a1) →
    (S_Mo_isCover [vR 12 0, vI a1, vI a2, vI v5] σ (kI fun r1 σ1 =>
      ((r1 ≠ 0 →
        ((v4 ≠ a3 →
          (InR (v4 + 1) ∧
          (InR (v5 + 1) ∧
          (∃ n', n' < n ∧ Lp_Mo_cover_14 a1 a2 a3 σ0 n' [vR 12 0, vI a1, vI a2, vI a3, vI (v4 + 1), vI (v5 + 1)] σ1)))) ∧
        (v4 = a3 →
          (K (vI v5) σ1)))) ∧
      (r1 = 0 →
        (InR (v5 + 1) ∧
        (∃ n', n' < n ∧ Lp_Mo_cover_14 a1 a2 a3 σ0 n' [vR 12 0, vI a1, vI a2, vI a3, vI v4, vI (v5 + 1)] σ1)))))))))
theorem l_Mo_cover_14 (a1 : Int) (a2 : Int) (a3 : Int) (σ0 : SS) (K : AV → SS → Prop) (ha1 : InR a1) (ha2 : InR a2) (ha3 : InR a3) (hs0 : okS σ0) (hG : S_Mo_cover [vR 12 0, vI a1, vI a2, vI a3] σ0 K) (v4 : Int) (v5 : Int) (σ : SS) (hv4 : InR v4) (hv5 : InR v5) (hs : okS σ) (n : Nat) (hn : n = (a2 - a1 + 1 - v5).toNat) (hQ : (σ = σ0) ∧ (0 ≤ a1 ∧ a1 < a2 ∧ a2 ≤ (σ0 40 0 0)) ∧ (-1 ≤ a3) ∧ (1 ≤ v5) ∧ (v5 ≤ a2 - a1 + 1) ∧ (kL (isCv (mW σ0) a1 a2) 1 a3 v4 v5)) : VL_Mo_cover_14 a1 a2 a3 σ0 K v4 v5 σ n := by
  unfold VL_Mo_cover_14
  obtain ⟨hM, hG⟩ := hG
  have hn := hM.n
  obtain ⟨rfl, q1, q2, q3, q4, q5⟩ := hQ
  have hin := kL_in q5
  refine ⟨by omega, fun h => ?_, fun h => ⟨⟨hM, by omega, by omega, by omega, by omega, by omega⟩, bS_b1 (fun hp _ => ⟨fun h2 => ⟨by omega, by omega, _, ?_, _, _, rfl, rfl, rfl, q1, q2, by omega, by omega, kL_yes q5 q3 hp h2⟩, fun h2 => hG _ (gd_y (by omega) (kL_hit q5 q3 (by omega) hp h2))⟩) (fun hp _ => ⟨by omega, _, ?_, _, _, rfl, rfl, rfl, q1, q2, by omega, by omega, kL_no q5 q3 hp⟩)⟩⟩
  · rw [show v5 = a2 - a1 + 1 by omega] at q5
    exact ⟨fun h2 => hG _ (gd_y (by omega) (kL_end q5 q2 h2)), fun h2 => hG _ (gd_y (by omega) (kL_all q5 h2))⟩
  · omega
  · omega
theorem e_Mo_cover (a1 : Int) (a2 : Int) (a3 : Int) (σ : SS) (K : AV → SS → Prop) (ha1 : InR a1) (ha2 : InR a2) (ha3 : InR a3) (hs : okS σ) (hG : S_Mo_cover [vR 12 0, vI a1, vI a2, vI a3] σ K) : VE_Mo_cover a1 a2 a3 σ K := by
  unfold VE_Mo_cover
  obtain ⟨hM, hG⟩ := hG
  have hn := hM.n
  exact ⟨hM, bS_b0 (fun hp _ => ⟨fun h => ⟨_, _, _, rfl, rfl, rfl, hp, h, by omega, by omega, kL_0⟩, fun h => hG _ (gd_n (by omega))⟩) (fun hp _ => hG _ (gd_n (by omega)))⟩
theorem H_Mo_cover {d : Nat} (hd : 5 ≤ d) : Holds d I_Mo_cover S_Mo_cover := by
  refine holds_of (d' := d - 1) (rt := 1) (cal := [(I_Mo_isSome, S_Mo_isSome), (I_Mo_isCover, S_Mo_isCover)]) (C := C_Mo_cover) m_Mo_cover o_Mo_cover rfl rfl (by omega) ?_ ?_
  · intro x hx
    simp only [List.mem_cons, List.not_mem_nil, or_false] at hx
    rcases hx with rfl | rfl
    · exact H_Mo_isSome (by omega)
    · exact H_Mo_isCover (by omega)
  · intro as σ K has hσ hG
    have hG2 := hG
    unfold S_Mo_cover at hG2
    split at hG2
    · next a1 a2 a3 =>
      refine ⟨Nat.le_of_ble_eq_true rfl, (Iv_Mo_cover a1 a2 a3 σ), ?_, 1000, ?_⟩
      · intro k n z L σ' hk hL hs hP
        unfold Iv_Mo_cover at hk
        split at hk
        · cases hk
          obtain ⟨v4, v5, rfl, hn, hQ⟩ := hP
          exact ⟨1000, l_Mo_cover_14 a1 a2 a3 σ K (has _ (List.mem_of_getElem? (i := 1) rfl)) (has _ (List.mem_of_getElem? (i := 2) rfl)) (has _ (List.mem_of_getElem? (i := 3) rfl)) hσ hG v4 v5 σ' (hL _ (List.mem_of_getElem? (i := 4) rfl)) (hL _ (List.mem_of_getElem? (i := 5) rfl)) hs n hn hQ⟩
        · cases hk
      · exact e_Mo_cover a1 a2 a3 σ K (has _ (List.mem_of_getElem? (i := 1) rfl)) (has _ (List.mem_of_getElem? (i := 2) rfl)) (has _ (List.mem_of_getElem? (i := 3) rfl)) hσ hG
    · exact hG2.elim
def S_Mo_nextOf : GS := fun as σ K => match as with
  | [some (.inr (.inr (12, 0))), some (.inl a1), some (.inl a2), some (.inl a3)] => (MoW σ ∧ 0 ≤ a1 ∧ 1 ≤ a2 ∧ a1 + a2 ≤ (σ 40 0 0) ∧ 0 ≤ a3 ∧ a3 ≤ (σ 40 0 0)) ∧ (∀ r, a3 ≤ r → r + a2 ≤ (σ 40 0 0) → eqs (mW σ) a1 r a2 → (∀ o, a3 ≤ o → o < r → ¬ eqs (mW σ) a1 o a2) → K (vI r) σ) ∧ ((∀ o, a3 ≤ o → o + a2 ≤ (σ 40 0 0) → ¬ eqs (mW σ) a1 o a2) → K (vI (-1)) σ)
  | _ => False
abbrev Lp_Mo_nextOf_2 (a1 : Int) (a2 : Int) (a3 : Int) (σ0 : SS) (n : Nat) (L : List AV) (σ : SS) : Prop := ∃ (v4 : Int), L = [vR 12 0, vI a1, vI a2, vI a3, vI v4] ∧ n = ((σ0 40 0 0) - v4).toNat ∧ ((σ = σ0) ∧ (a3 ≤ v4) ∧ (v4 ≤ (σ0 40 0 0)) ∧ (∀ o, a3 ≤ o → o < v4 → ¬ eqs (mW σ0) a1 o a2))
def Iv_Mo_nextOf (a1 : Int) (a2 : Int) (a3 : Int) (σ0 : SS) (k : Nat) : Option (List Nat × (Nat → List AV → SS → Prop)) := match k with
  | 2 => some ([], Lp_Mo_nextOf_2 a1 a2 a3 σ0)
  | _ => none
def VE_Mo_nextOf (a1 : Int) (a2 : Int) (a3 : Int) (σ : SS) (K : AV → SS → Prop) : Prop :=
  (∃ n', Lp_Mo_nextOf_2 a1 a2 a3 σ n' [vR 12 0, vI a1, vI a2, vI a3, vI a3] σ)
def VL_Mo_nextOf_2 (a1 : Int) (a2 : Int) (a3 : Int) (σ0 : SS) (K : AV → SS → Prop) (v4 : Int) (σ : SS) (n : Nat) : Prop :=
  (InR (v4 + a2) ∧
  (S_Mo_size [vR 12 0] σ (kI fun r1 σ1 =>
    ((r1 < (v4 + a2) →
      (K (vI (-1)) σ1)) ∧
    ((v4 + a2) ≤ r1 →
      (S_Mo_areAlike [vR 12 0, vI a1, vI v4, vI a2] σ1 (kI fun r2 σ2 =>
        ((r2 = 0 →
          (InR (v4 + 1) ∧
          (∃ n', n' < n ∧ Lp_Mo_nextOf_2 a1 a2 a3 σ0 n' [vR 12 0, vI a1, vI a2, vI a3, vI (v4 + 1)] σ2))) ∧
        (r2 ≠ 0 →
          (K (vI v4) σ2))))))))))
theorem l_Mo_nextOf_2 (a1 : Int) (a2 : Int) (a3 : Int) (σ0 : SS) (K : AV → SS → Prop) (ha1 : InR a1) (ha2 : InR a2) (ha3 : InR a3) (hs0 : okS σ0) (hG : S_Mo_nextOf [vR 12 0, vI a1, vI a2, vI a3] σ0 K) (v4 : Int) (σ : SS) (hv4 : InR v4) (hs : okS σ) (n : Nat) (hn : n = ((σ0 40 0 0) - v4).toNat) (hQ : (σ = σ0) ∧ (a3 ≤ v4) ∧ (v4 ≤ (σ0 40 0 0)) ∧ (∀ o, a3 ≤ o → o < v4 → ¬ eqs (mW σ0) a1 o a2)) : VL_Mo_nextOf_2 a1 a2 a3 σ0 K v4 σ n := by
  unfold VL_Mo_nextOf_2
  obtain ⟨⟨hM, h1⟩, hG1, hG2⟩ := hG
  have hn := hM.n
  obtain ⟨rfl, q1, q2, q3⟩ := hQ
  refine ⟨by omega, ?_⟩
  intro _ _
  refine ⟨fun h => hG2 (fun o g1 g2 => q3 o g1 (by omega)), fun h => ⟨by omega, bS_b0 (fun hp _ => hG1 _ q1 h hp q3) (fun hp _ => ⟨by omega, _, ?_, _, rfl, rfl, rfl, by omega, by omega, fun o g1 g2 => ?_⟩)⟩⟩
  · omega
  · rcases (by omega : o < v4 ∨ o = v4) with z | z
    · exact q3 o g1 z
    · rw [z]; exact hp
theorem kL_skip {P : Int → Prop} {a k m x y : Int} (h : kL P a k m x) (hx : a ≤ x) (hy : x ≤ y) (hp : ∀ o, x ≤ o → o < y → ¬ P o) : kL P a k m y := by
  have key : ∀ d : Nat, (∀ o, x ≤ o → o < x + d → ¬ P o) → kL P a k m (x + d) := by
    intro d
    induction d with
    | zero => intro _; rwa [show x + ((0 : Nat) : Int) = x by omega]
    | succ d ih =>
      intro hd
      rw [show x + ((d + 1 : Nat) : Int) = x + (d : Int) + 1 by omega]
      exact kL_no (ih (fun o g1 g2 => hd o g1 (by omega))) (by omega) (hd _ (by omega) (by omega))
  have := key (y - x).toNat (fun o g1 g2 => hp o g1 (by omega))
  rwa [show x + ((y - x).toNat : Int) = y by omega] at this
theorem e_Mo_nextOf (a1 : Int) (a2 : Int) (a3 : Int) (σ : SS) (K : AV → SS → Prop) (ha1 : InR a1) (ha2 : InR a2) (ha3 : InR a3) (hs : okS σ) (hG : S_Mo_nextOf [vR 12 0, vI a1, vI a2, vI a3] σ K) : VE_Mo_nextOf a1 a2 a3 σ K := by
  unfold VE_Mo_nextOf
  obtain ⟨⟨hM, h1⟩, hG⟩ := hG
  exact ⟨_, _, rfl, rfl, rfl, by omega, by omega, fun o g1 g2 => absurd g1 (by omega)⟩
theorem H_Mo_nextOf {d : Nat} (hd : 4 ≤ d) : Holds d I_Mo_nextOf S_Mo_nextOf := by
  refine holds_of (d' := d - 1) (rt := 1) (cal := [(I_Mo_size, S_Mo_size), (I_Mo_areAlike, S_Mo_areAlike)]) (C := C_Mo_nextOf) m_Mo_nextOf o_Mo_nextOf rfl rfl (by omega) ?_ ?_
  · intro x hx
    simp only [List.mem_cons, List.not_mem_nil, or_false] at hx
    rcases hx with rfl | rfl
    · exact H_Mo_size (by omega)
    · exact H_Mo_areAlike (by omega)
  · intro as σ K has hσ hG
    have hG2 := hG
    unfold S_Mo_nextOf at hG2
    split at hG2
    · next a1 a2 a3 =>
      refine ⟨Nat.le_of_ble_eq_true rfl, (Iv_Mo_nextOf a1 a2 a3 σ), ?_, 1000, ?_⟩
      · intro k n z L σ' hk hL hs hP
        unfold Iv_Mo_nextOf at hk
        split at hk
        · cases hk
          obtain ⟨v4, rfl, hn, hQ⟩ := hP
          exact ⟨1000, l_Mo_nextOf_2 a1 a2 a3 σ K (has _ (List.mem_of_getElem? (i := 1) rfl)) (has _ (List.mem_of_getElem? (i := 2) rfl)) (has _ (List.mem_of_getElem? (i := 3) rfl)) hσ hG v4 σ' (hL _ (List.mem_of_getElem? (i := 4) rfl)) hs n hn hQ⟩
        · cases hk
      · exact e_Mo_nextOf a1 a2 a3 σ K (has _ (List.mem_of_getElem? (i := 1) rfl)) (has _ (List.mem_of_getElem? (i := 2) rfl)) (has _ (List.mem_of_getElem? (i := 3) rfl)) hσ hG
    · exact hG2.elim
def S_Mo_lies : GS := fun as σ K => match as with
  | [some (.inr (.inr (12, 0))), some (.inl a1), some (.inl a2), some (.inl a3)] => MoW σ ∧ ∀ r, RLies (mW σ) (σ 40 0 0) a1 a2 a3 r → K (vI r) σ
  | _ => False
abbrev Lp_Mo_lies_20 (a1 : Int) (a2 : Int) (a3 : Int) (σ0 : SS) (n : Nat) (L : List AV) (σ : SS) : Prop := ∃ (v4 : Int) (v5 : Int), L = [vR 12 0, vI a1, vI a2, vI a3, vI v4, vI v5] ∧ n = (if v5 = -1 then 0 else (σ0 40 0 0) - v5).toNat ∧ ((σ = σ0) ∧ (0 ≤ a1 ∧ a1 < a2 ∧ a2 ≤ (σ0 40 0 0)) ∧ (-1 ≤ a3) ∧ ((v5 = -1 ∧ kL (fun o => eqs (mW σ0) a1 o (a2 - a1)) 0 a3 v4 ((σ0 40 0 0) - (a2 - a1) + 1)) ∨ (0 ≤ v5 ∧ v5 + (a2 - a1) ≤ (σ0 40 0 0) ∧ eqs (mW σ0) a1 v5 (a2 - a1) ∧ kL (fun o => eqs (mW σ0) a1 o (a2 - a1)) 0 a3 v4 v5)))
def Iv_Mo_lies (a1 : Int) (a2 : Int) (a3 : Int) (σ0 : SS) (k : Nat) : Option (List Nat × (Nat → List AV → SS → Prop)) := match k with
  | 20 => some ([], Lp_Mo_lies_20 a1 a2 a3 σ0)
  | _ => none
def VE_Mo_lies (a1 : Int) (a2 : Int) (a3 : Int) (σ : SS) (K : AV → SS → Prop) : Prop :=
  (S_Mo_isSome [vR 12 0, vI a1, vI a2] σ (kI fun r1 σ1 =>
    ((r1 = 0 →
      (K (vI (-1)) σ1)) ∧
    (r1 ≠ 0 →
      (((-1 : Int) ≤ a3 →
        (InR (a2 - a1) ∧
        (S_Mo_nextOf [vR 12 0, vI a1, vI (a2 - a1), vI 0] σ1 (kI fun r2 σ2 =>
          (∃ n', Lp_Mo_lies_20 a1 a2 a3 σ n' [vR 12 0, vI a1, vI a2, vI a3, vI 0, vI r2] σ2))))) ∧
      (a3 < (-1) →
        (K (vI (-1)) σ1)))))))
def VL_Mo_lies_20 (a1 : Int) (a2 : Int) (a3 : Int) (σ0 : SS) (K : AV → SS → Prop) (v4 : Int) (v5 : Int) (σ : SS) (n : Nat) : Prop :=
  ((v5 = (-1) →
    ((a3 ≠ (-1) →
      (K (vI (-2)) σ)) ∧
    (a3 = (-1) →
      (K (vI v4) σ)))) ∧
  (v5 ≠ (-1) →
    ((v4 ≠ a3 →
      (InR (v4 + 1) ∧
      (InR (a2 - a1) ∧
      (InR (v5 + 1) ∧
      (S_Mo_nextOf [vR 12 0, vI a1, vI (a2 - a1), vI (v5 + 1)] σ (kI fun r1 σ1 =>
        (∃ n', n' < n ∧ Lp_Mo_lies_20 a1 a2 a3 σ0 n' [vR 12 0, vI a1, vI a2, vI a3, vI (v4 + 1), vI r1] σ1))))))) ∧
    (v4 = a3 →
      (K (vI v5) σ)))))
theorem l_Mo_lies_20 (a1 : Int) (a2 : Int) (a3 : Int) (σ0 : SS) (K : AV → SS → Prop) (ha1 : InR a1) (ha2 : InR a2) (ha3 : InR a3) (hs0 : okS σ0) (hG : S_Mo_lies [vR 12 0, vI a1, vI a2, vI a3] σ0 K) (v4 : Int) (v5 : Int) (σ : SS) (hv4 : InR v4) (hv5 : InR v5) (hs : okS σ) (n : Nat) (hn : n = (if v5 = -1 then 0 else (σ0 40 0 0) - v5).toNat) (hQ : (σ = σ0) ∧ (0 ≤ a1 ∧ a1 < a2 ∧ a2 ≤ (σ0 40 0 0)) ∧ (-1 ≤ a3) ∧ ((v5 = -1 ∧ kL (fun o => eqs (mW σ0) a1 o (a2 - a1)) 0 a3 v4 ((σ0 40 0 0) - (a2 - a1) + 1)) ∨ (0 ≤ v5 ∧ v5 + (a2 - a1) ≤ (σ0 40 0 0) ∧ eqs (mW σ0) a1 v5 (a2 - a1) ∧ kL (fun o => eqs (mW σ0) a1 o (a2 - a1)) 0 a3 v4 v5))) : VL_Mo_lies_20 a1 a2 a3 σ0 K v4 v5 σ n := by
  unfold VL_Mo_lies_20
  obtain ⟨hM, hG⟩ := hG
  have hb := hM.n
  obtain ⟨rfl, q1, q2, q3⟩ := hQ
  refine ⟨fun h => ?_, fun h => ?_⟩
  · rcases q3 with ⟨-, q3⟩ | q3
    · exact ⟨fun h2 => hG _ (gd_y (by omega) (kL_end q3 q2 h2)), fun h2 => hG _ (gd_y (by omega) (kL_all q3 h2))⟩
    · omega
  · rcases q3 with q3 | ⟨g1, g2, g3, g4⟩
    · omega
    · have hin := kL_in g4
      refine ⟨fun h2 => ⟨by omega, by omega, by omega, ⟨hM, by omega, by omega, by omega, by omega, by omega⟩, fun r k1 k2 k3 k4 => ?_, fun k => ?_⟩, fun h2 => hG _ (gd_y (by omega) (kL_hit g4 g1 (by omega) g3 h2))⟩
      · intro _ _
        refine ⟨_, ?_, _, _, rfl, rfl, rfl, q1, q2, Or.inr ⟨by omega, by omega, k3, kL_skip (kL_yes g4 g1 g3 h2) (by omega) k1 k4⟩⟩
        rw [hn, if_neg h, if_neg (by omega)]
        omega
      · intro _ _
        refine ⟨_, ?_, _, _, rfl, rfl, rfl, q1, q2, Or.inl ⟨rfl, kL_skip (kL_yes g4 g1 g3 h2) (by omega) (by omega) (fun o k1 k2 => k o k1 (by omega))⟩⟩
        rw [hn, if_neg h, if_pos rfl]
        omega
theorem e_Mo_lies (a1 : Int) (a2 : Int) (a3 : Int) (σ : SS) (K : AV → SS → Prop) (ha1 : InR a1) (ha2 : InR a2) (ha3 : InR a3) (hs : okS σ) (hG : S_Mo_lies [vR 12 0, vI a1, vI a2, vI a3] σ K) : VE_Mo_lies a1 a2 a3 σ K := by
  unfold VE_Mo_lies
  obtain ⟨hM, hG⟩ := hG
  have hn := hM.n
  refine ⟨hM, bS_b0 (fun hp _ => ⟨fun h => ⟨by omega, ⟨hM, by omega, by omega, by omega, by omega, by omega⟩, fun r g1 g2 g3 g4 => ?_, fun g => ?_⟩, fun h => hG _ (gd_n (by omega))⟩) (fun hp _ => hG _ (gd_n (by omega)))⟩
  · intro _ _
    exact ⟨_, _, _, rfl, rfl, rfl, hp, h, Or.inr ⟨by omega, by omega, g3, kL_skip (k := a3) kL_0 (Int.le_refl _) g1 g4⟩⟩
  · intro _ _
    refine ⟨_, _, _, rfl, rfl, rfl, hp, h, Or.inl ⟨rfl, kL_skip kL_0 (Int.le_refl _) (by omega) (fun o g1 g2 => g o g1 (by omega))⟩⟩
theorem H_Mo_lies {d : Nat} (hd : 5 ≤ d) : Holds d I_Mo_lies S_Mo_lies := by
  refine holds_of (d' := d - 1) (rt := 1) (cal := [(I_Mo_isSome, S_Mo_isSome), (I_Mo_nextOf, S_Mo_nextOf)]) (C := C_Mo_lies) m_Mo_lies o_Mo_lies rfl rfl (by omega) ?_ ?_
  · intro x hx
    simp only [List.mem_cons, List.not_mem_nil, or_false] at hx
    rcases hx with rfl | rfl
    · exact H_Mo_isSome (by omega)
    · exact H_Mo_nextOf (by omega)
  · intro as σ K has hσ hG
    have hG2 := hG
    unfold S_Mo_lies at hG2
    split at hG2
    · next a1 a2 a3 =>
      refine ⟨Nat.le_of_ble_eq_true rfl, (Iv_Mo_lies a1 a2 a3 σ), ?_, 1000, ?_⟩
      · intro k n z L σ' hk hL hs hP
        unfold Iv_Mo_lies at hk
        split at hk
        · cases hk
          obtain ⟨v4, v5, rfl, hn, hQ⟩ := hP
          exact ⟨1000, l_Mo_lies_20 a1 a2 a3 σ K (has _ (List.mem_of_getElem? (i := 1) rfl)) (has _ (List.mem_of_getElem? (i := 2) rfl)) (has _ (List.mem_of_getElem? (i := 3) rfl)) hσ hG v4 v5 σ' (hL _ (List.mem_of_getElem? (i := 4) rfl)) (hL _ (List.mem_of_getElem? (i := 5) rfl)) hs n hn hQ⟩
        · cases hk
      · exact e_Mo_lies a1 a2 a3 σ K (has _ (List.mem_of_getElem? (i := 1) rfl)) (has _ (List.mem_of_getElem? (i := 2) rfl)) (has _ (List.mem_of_getElem? (i := 3) rfl)) hσ hG
    · exact hG2.elim
def S_Mo_alike : GS := fun as σ K => match as with
  | [some (.inr (.inr (12, 0))), some (.inl a1), some (.inl a2)] => MoW σ ∧ ∀ r, RAlike (mW σ) (σ 40 0 0) a1 a2 r → K (vI r) σ
  | _ => False
def VE_Mo_alike (a1 : Int) (a2 : Int) (σ : SS) (K : AV → SS → Prop) : Prop :=
  (S_Mo_isPlace [vR 12 0, vI a1] σ (kI fun r1 σ1 =>
    ((r1 = 0 →
      (K (vI (-1)) σ1)) ∧
    (r1 ≠ 0 →
      (S_Mo_isPlace [vR 12 0, vI a2] σ1 (kI fun r2 σ2 =>
        ((r2 = 0 →
          (K (vI (-1)) σ2)) ∧
        (r2 ≠ 0 →
          (S_Mo_size [vR 12 0] σ2 (kI fun r3 σ3 =>
            ((a1 ≤ a2 →
              (InR (r3 - a2) ∧
              (S_Mo_common [vR 12 0, vI a1, vI a2, vI (r3 - a2)] σ3 (kI fun r4 σ4 =>
                (K (vI r4) σ4))))) ∧
            (a2 < a1 →
              (InR (r3 - a1) ∧
              (S_Mo_common [vR 12 0, vI a1, vI a2, vI (r3 - a1)] σ3 (kI fun r5 σ5 =>
                (K (vI r5) σ5))))))))))))))))
theorem e_Mo_alike (a1 : Int) (a2 : Int) (σ : SS) (K : AV → SS → Prop) (ha1 : InR a1) (ha2 : InR a2) (hs : okS σ) (hG : S_Mo_alike [vR 12 0, vI a1, vI a2] σ K) : VE_Mo_alike a1 a2 σ K := by
  unfold VE_Mo_alike
  obtain ⟨hM, hG⟩ := hG
  have hn := hM.n
  refine ⟨hM, bS_b0 (fun hp _ => ⟨hM, bS_b0 (fun hp2 _ => ?_) (fun hp2 _ => hG _ (gd_n (by omega)))⟩) (fun hp _ => hG _ (gd_n (by omega)))⟩
  intro _ _
  have hG := hG _ (gd_y ⟨hp, hp2⟩ rfl)
  unfold lce at hG
  refine ⟨fun h => ⟨by omega, by omega, ?_⟩, fun h => ⟨by omega, by omega, ?_⟩⟩
  · intro _ _
    rwa [show max a1 a2 = a2 by omega] at hG
  · intro _ _
    rwa [show max a1 a2 = a1 by omega] at hG
theorem H_Mo_alike {d : Nat} (hd : 3 ≤ d) : Holds d I_Mo_alike S_Mo_alike := by
  refine holds_of (d' := d - 1) (rt := 1) (cal := [(I_Mo_isPlace, S_Mo_isPlace), (I_Mo_size, S_Mo_size), (I_Mo_common, S_Mo_common)]) (C := C_Mo_alike) m_Mo_alike o_Mo_alike rfl rfl (by omega) ?_ ?_
  · intro x hx
    simp only [List.mem_cons, List.not_mem_nil, or_false] at hx
    rcases hx with rfl | rfl | rfl
    · exact H_Mo_isPlace (by omega)
    · exact H_Mo_size (by omega)
    · exact H_Mo_common (by omega)
  · intro as σ K has hσ hG
    have hG2 := hG
    unfold S_Mo_alike at hG2
    split at hG2
    · next a1 a2 =>
      refine ⟨Nat.le_of_ble_eq_true rfl, (fun _ => none), ?_, 1000, ?_⟩
      · intro k n z L σ' hk hL hs hP
        cases hk
      · exact e_Mo_alike a1 a2 σ K (has _ (List.mem_of_getElem? (i := 1) rfl)) (has _ (List.mem_of_getElem? (i := 2) rfl)) hσ hG
    · exact hG2.elim
