/-! the reference: its word, parts alike, periods, roots, rotations -/
def MoW (σ : SS) : Prop := (0 ≤ (σ 40 0 0) ∧ (σ 40 0 0) ≤ 120) ∧ ∀ x, 0 ≤ x → x < (σ 40 0 0) → 0 ≤ mW σ x ∧ mW σ x < 26
theorem cmpI_lt {a b : Int} : cmpI a b < 0 ↔ a < b := by unfold cmpI; split <;> (try split) <;> omega
theorem cmpI_gt {a b : Int} : 0 < cmpI a b ↔ b < a := by unfold cmpI; split <;> (try split) <;> omega
def S_Mo_in : GS := fun as σ K => match as with
  | [some (.inr (.inl a0)), some (.inr (.inl a2)), some (.inr (.inl a4))] => bS (a2 ≤ a0 ∧ a0 ≤ a4) K σ
  | _ => False
def VE_Mo_in (a0 : Int) (a2 : Int) (a4 : Int) (σ : SS) (K : AV → SS → Prop) : Prop :=
  (((cmpI a0 a2) < 0 →
    ((0 ≤ (0 : Int) ∧ (0 : Int) ≤ 1) ∧ K (vI 0) σ)) ∧
  ((0 : Int) ≤ (cmpI a0 a2) →
    (((0 : Int) < (cmpI a0 a4) →
      ((0 ≤ (0 : Int) ∧ (0 : Int) ≤ 1) ∧ K (vI 0) σ)) ∧
    ((cmpI a0 a4) ≤ 0 →
      ((0 ≤ (1 : Int) ∧ (1 : Int) ≤ 1) ∧ K (vI 1) σ)))))
theorem e_Mo_in (a0 : Int) (a2 : Int) (a4 : Int) (σ : SS) (K : AV → SS → Prop) (ha0 : InL a0) (ha2 : InL a2) (ha4 : InL a4) (hs : okS σ) (hG : S_Mo_in [vL a0, vL a2, vL a4] σ K) : VE_Mo_in a0 a2 a4 σ K := by
  unfold VE_Mo_in
  have h1 := cmpI_lt (a := a0) (b := a2)
  have h2 := cmpI_gt (a := a0) (b := a4)
  refine ⟨fun h => bS_n hG (by omega), fun h => ⟨fun h3 => bS_n hG (by omega), fun h3 => bS_y hG (by omega)⟩⟩
theorem H_Mo_in {d : Nat} (hd : 1 ≤ d) : Holds d I_Mo_in S_Mo_in := by
  refine holds_of (d' := d - 1) (rt := 2) (cal := []) (C := C_Mo_in) m_Mo_in o_Mo_in rfl rfl (by omega) ?_ ?_
  · intro x hx
    cases hx
  · intro as σ K has hσ hG
    have hG2 := hG
    unfold S_Mo_in at hG2
    split at hG2
    · next a0 a2 a4 =>
      refine ⟨Nat.le_of_ble_eq_true rfl, (fun _ => none), ?_, 1000, ?_⟩
      · intro k n z L σ' hk hL hs hP
        cases hk
      · exact e_Mo_in a0 a2 a4 σ K (has _ (List.mem_of_getElem? (i := 0) rfl)) (has _ (List.mem_of_getElem? (i := 1) rfl)) (has _ (List.mem_of_getElem? (i := 2) rfl)) hσ hG
    · exact hG2.elim
def S_Mo_size : GS := fun as σ K => match as with
  | [some (.inr (.inr (12, 0)))] => K (vI (σ 40 0 0)) σ
  | _ => False
def VE_Mo_size (σ : SS) (K : AV → SS → Prop) : Prop :=
  ((0 ≤ (0 : Int) ∧ (0 : Int) < 121) ∧
  (K (vI (σ 40 0 0)) σ))
theorem e_Mo_size (σ : SS) (K : AV → SS → Prop) (hs : okS σ) (hG : S_Mo_size [vR 12 0] σ K) : VE_Mo_size σ K := by
  unfold VE_Mo_size
  exact ⟨by omega, hG⟩
theorem H_Mo_size {d : Nat} (hd : 1 ≤ d) : Holds d I_Mo_size S_Mo_size := by
  refine holds_of (d' := d - 1) (rt := 1) (cal := []) (C := C_Mo_size) m_Mo_size o_Mo_size rfl rfl (by omega) ?_ ?_
  · intro x hx
    cases hx
  · intro as σ K has hσ hG
    have hG2 := hG
    unfold S_Mo_size at hG2
    split at hG2
    · skip
      refine ⟨Nat.le_of_ble_eq_true rfl, (fun _ => none), ?_, 1000, ?_⟩
      · intro k n z L σ' hk hL hs hP
        cases hk
      · exact e_Mo_size σ K  hσ hG
    · exact hG2.elim
def S_Mo_at : GS := fun as σ K => match as with
  | [some (.inr (.inr (12, 0))), some (.inl a1)] => (0 ≤ a1 ∧ a1 < (σ 40 0 0) ∧ (σ 40 0 0) ≤ 120) ∧ K (vI (mW σ a1)) σ
  | _ => False
def VE_Mo_at (a1 : Int) (σ : SS) (K : AV → SS → Prop) : Prop :=
  (InR (1 + a1) ∧
  ((0 ≤ (1 + a1 : Int) ∧ (1 + a1 : Int) < 121) ∧
  (K (vI (σ 40 0 (1 + a1))) σ)))
theorem e_Mo_at (a1 : Int) (σ : SS) (K : AV → SS → Prop) (ha1 : InR a1) (hs : okS σ) (hG : S_Mo_at [vR 12 0, vI a1] σ K) : VE_Mo_at a1 σ K := by
  unfold VE_Mo_at
  obtain ⟨h1, h2⟩ := hG
  rw [show mW σ a1 = σ 40 0 (1 + a1) from atW_in h1.1 h1.2.1] at h2
  exact ⟨by omega, by omega, h2⟩
theorem H_Mo_at {d : Nat} (hd : 1 ≤ d) : Holds d I_Mo_at S_Mo_at := by
  refine holds_of (d' := d - 1) (rt := 1) (cal := []) (C := C_Mo_at) m_Mo_at o_Mo_at rfl rfl (by omega) ?_ ?_
  · intro x hx
    cases hx
  · intro as σ K has hσ hG
    have hG2 := hG
    unfold S_Mo_at at hG2
    split at hG2
    · next a1 =>
      refine ⟨Nat.le_of_ble_eq_true rfl, (fun _ => none), ?_, 1000, ?_⟩
      · intro k n z L σ' hk hL hs hP
        cases hk
      · exact e_Mo_at a1 σ K (has _ (List.mem_of_getElem? (i := 1) rfl)) hσ hG
    · exact hG2.elim
def S_Mo_isPlace : GS := fun as σ K => match as with
  | [some (.inr (.inr (12, 0))), some (.inl a1)] => MoW σ ∧ bS (0 ≤ a1 ∧ a1 < (σ 40 0 0)) K σ
  | _ => False
def VE_Mo_isPlace (a1 : Int) (σ : SS) (K : AV → SS → Prop) : Prop :=
  (S_Mo_size [vR 12 0] σ (kI fun r1 σ1 =>
    (InR (r1 - 1) ∧
    (S_Mo_in [vL a1, vL 0, vL (r1 - 1)] σ1 (kI fun r2 σ2 =>
      ((0 ≤ (r2 : Int) ∧ (r2 : Int) ≤ 1) ∧ K (vI r2) σ2))))))
theorem e_Mo_isPlace (a1 : Int) (σ : SS) (K : AV → SS → Prop) (ha1 : InR a1) (hs : okS σ) (hG : S_Mo_isPlace [vR 12 0, vI a1] σ K) : VE_Mo_isPlace a1 σ K := by
  unfold VE_Mo_isPlace
  obtain ⟨⟨h1, -⟩, h2⟩ := hG
  intro _ _
  refine ⟨by omega, ⟨fun h => ?_, fun h => ?_⟩⟩
  · intro _ _
    exact bS_y h2 (by omega)
  · intro _ _
    exact bS_n h2 (by omega)
theorem H_Mo_isPlace {d : Nat} (hd : 2 ≤ d) : Holds d I_Mo_isPlace S_Mo_isPlace := by
  refine holds_of (d' := d - 1) (rt := 2) (cal := [(I_Mo_size, S_Mo_size), (I_Mo_in, S_Mo_in)]) (C := C_Mo_isPlace) m_Mo_isPlace o_Mo_isPlace rfl rfl (by omega) ?_ ?_
  · intro x hx
    simp only [List.mem_cons, List.not_mem_nil, or_false] at hx
    rcases hx with rfl | rfl
    · exact H_Mo_size (by omega)
    · exact H_Mo_in (by omega)
  · intro as σ K has hσ hG
    have hG2 := hG
    unfold S_Mo_isPlace at hG2
    split at hG2
    · next a1 =>
      refine ⟨Nat.le_of_ble_eq_true rfl, (fun _ => none), ?_, 1000, ?_⟩
      · intro k n z L σ' hk hL hs hP
        cases hk
      · exact e_Mo_isPlace a1 σ K (has _ (List.mem_of_getElem? (i := 1) rfl)) hσ hG
    · exact hG2.elim
def S_Mo_isPart : GS := fun as σ K => match as with
  | [some (.inr (.inr (12, 0))), some (.inl a1), some (.inl a2)] => MoW σ ∧ bS (0 ≤ a1 ∧ a1 ≤ a2 ∧ a2 ≤ (σ 40 0 0)) K σ
  | _ => False
def VE_Mo_isPart (a1 : Int) (a2 : Int) (σ : SS) (K : AV → SS → Prop) : Prop :=
  (S_Mo_size [vR 12 0] σ (kI fun r1 σ1 =>
    (S_Mo_in [vL a1, vL 0, vL r1] σ1 (kI fun r2 σ2 =>
      ((r2 = 0 →
        ((0 ≤ (0 : Int) ∧ (0 : Int) ≤ 1) ∧ K (vI 0) σ2)) ∧
      (r2 ≠ 0 →
        (S_Mo_size [vR 12 0] σ2 (kI fun r3 σ3 =>
          (S_Mo_in [vL a2, vL a1, vL r3] σ3 (kI fun r4 σ4 =>
            ((r4 = 0 →
              ((0 ≤ (0 : Int) ∧ (0 : Int) ≤ 1) ∧ K (vI 0) σ4)) ∧
            (r4 ≠ 0 →
              ((0 ≤ (1 : Int) ∧ (1 : Int) ≤ 1) ∧ K (vI 1) σ4)))))))))))))
theorem e_Mo_isPart (a1 : Int) (a2 : Int) (σ : SS) (K : AV → SS → Prop) (ha1 : InR a1) (ha2 : InR a2) (hs : okS σ) (hG : S_Mo_isPart [vR 12 0, vI a1, vI a2] σ K) : VE_Mo_isPart a1 a2 σ K := by
  unfold VE_Mo_isPart
  obtain ⟨⟨h1, -⟩, h2⟩ := hG
  intro _ _
  refine ⟨fun h => ?_, fun h => ?_⟩
  · intro _ _
    refine ⟨fun h3 => absurd h3 (by decide), fun h3 => ?_⟩
    intro _ _
    refine ⟨fun h4 => ?_, fun h4 => ?_⟩
    · intro _ _
      exact ⟨fun z => absurd z (by decide), fun _ => bS_y h2 (by omega)⟩
    · intro _ _
      exact ⟨fun _ => bS_n h2 (by omega), fun z => absurd rfl z⟩
  · intro _ _
    exact ⟨fun _ => bS_n h2 (by omega), fun z => absurd rfl z⟩
theorem H_Mo_isPart {d : Nat} (hd : 2 ≤ d) : Holds d I_Mo_isPart S_Mo_isPart := by
  refine holds_of (d' := d - 1) (rt := 2) (cal := [(I_Mo_size, S_Mo_size), (I_Mo_in, S_Mo_in)]) (C := C_Mo_isPart) m_Mo_isPart o_Mo_isPart rfl rfl (by omega) ?_ ?_
  · intro x hx
    simp only [List.mem_cons, List.not_mem_nil, or_false] at hx
    rcases hx with rfl | rfl
    · exact H_Mo_size (by omega)
    · exact H_Mo_in (by omega)
  · intro as σ K has hσ hG
    have hG2 := hG
    unfold S_Mo_isPart at hG2
    split at hG2
    · next a1 a2 =>
      refine ⟨Nat.le_of_ble_eq_true rfl, (fun _ => none), ?_, 1000, ?_⟩
      · intro k n z L σ' hk hL hs hP
        cases hk
      · exact e_Mo_isPart a1 a2 σ K (has _ (List.mem_of_getElem? (i := 1) rfl)) (has _ (List.mem_of_getElem? (i := 2) rfl)) hσ hG
    · exact hG2.elim
def S_Mo_isSome : GS := fun as σ K => match as with
  | [some (.inr (.inr (12, 0))), some (.inl a1), some (.inl a2)] => MoW σ ∧ bS (0 ≤ a1 ∧ a1 < a2 ∧ a2 ≤ (σ 40 0 0)) K σ
  | _ => False
def VE_Mo_isSome (a1 : Int) (a2 : Int) (σ : SS) (K : AV → SS → Prop) : Prop :=
  (S_Mo_isPart [vR 12 0, vI a1, vI a2] σ (kI fun r1 σ1 =>
    ((r1 = 0 →
      ((0 ≤ (0 : Int) ∧ (0 : Int) ≤ 1) ∧ K (vI 0) σ1)) ∧
    (r1 ≠ 0 →
      ((a2 ≤ a1 →
        ((0 ≤ (0 : Int) ∧ (0 : Int) ≤ 1) ∧ K (vI 0) σ1)) ∧
      (a1 < a2 →
        ((0 ≤ (1 : Int) ∧ (1 : Int) ≤ 1) ∧ K (vI 1) σ1)))))))
theorem e_Mo_isSome (a1 : Int) (a2 : Int) (σ : SS) (K : AV → SS → Prop) (ha1 : InR a1) (ha2 : InR a2) (hs : okS σ) (hG : S_Mo_isSome [vR 12 0, vI a1, vI a2] σ K) : VE_Mo_isSome a1 a2 σ K := by
  unfold VE_Mo_isSome
  obtain ⟨h1, h2⟩ := hG
  refine ⟨h1, fun h => ?_, fun h => ?_⟩
  · intro _ _
    exact ⟨fun z => absurd z (by decide), fun _ => ⟨fun h3 => bS_n h2 (by omega), fun h3 => bS_y h2 (by omega)⟩⟩
  · intro _ _
    exact ⟨fun _ => bS_n h2 (by omega), fun z => absurd rfl z⟩
theorem H_Mo_isSome {d : Nat} (hd : 3 ≤ d) : Holds d I_Mo_isSome S_Mo_isSome := by
  refine holds_of (d' := d - 1) (rt := 2) (cal := [(I_Mo_isPart, S_Mo_isPart)]) (C := C_Mo_isSome) m_Mo_isSome o_Mo_isSome rfl rfl (by omega) ?_ ?_
  · intro x hx
    simp only [List.mem_cons, List.not_mem_nil, or_false] at hx
    subst hx
    exact H_Mo_isPart (by omega)
  · intro as σ K has hσ hG
    have hG2 := hG
    unfold S_Mo_isSome at hG2
    split at hG2
    · next a1 a2 =>
      refine ⟨Nat.le_of_ble_eq_true rfl, (fun _ => none), ?_, 1000, ?_⟩
      · intro k n z L σ' hk hL hs hP
        cases hk
      · exact e_Mo_isSome a1 a2 σ K (has _ (List.mem_of_getElem? (i := 1) rfl)) (has _ (List.mem_of_getElem? (i := 2) rfl)) hσ hG
    · exact hG2.elim
def S_Mo_least : GS := fun as σ K => match as with
  | [some (.inl a0), some (.inl a1)] => K (vI (min a0 a1)) σ
  | _ => False
def VE_Mo_least (a0 : Int) (a1 : Int) (σ : SS) (K : AV → SS → Prop) : Prop :=
  ((a1 ≤ a0 →
    (K (vI a1) σ)) ∧
  (a0 < a1 →
    (K (vI a0) σ)))
theorem e_Mo_least (a0 : Int) (a1 : Int) (σ : SS) (K : AV → SS → Prop) (ha0 : InR a0) (ha1 : InR a1) (hs : okS σ) (hG : S_Mo_least [vI a0, vI a1] σ K) : VE_Mo_least a0 a1 σ K := by
  unfold VE_Mo_least
  have hG : K (vI (min a0 a1)) σ := hG
  refine ⟨fun h => ?_, fun h => ?_⟩
  · rwa [show min a0 a1 = a1 by omega] at hG
  · rwa [show min a0 a1 = a0 by omega] at hG
theorem H_Mo_least {d : Nat} (hd : 1 ≤ d) : Holds d I_Mo_least S_Mo_least := by
  refine holds_of (d' := d - 1) (rt := 1) (cal := []) (C := C_Mo_least) m_Mo_least o_Mo_least rfl rfl (by omega) ?_ ?_
  · intro x hx
    cases hx
  · intro as σ K has hσ hG
    have hG2 := hG
    unfold S_Mo_least at hG2
    split at hG2
    · next a0 a1 =>
      refine ⟨Nat.le_of_ble_eq_true rfl, (fun _ => none), ?_, 1000, ?_⟩
      · intro k n z L σ' hk hL hs hP
        cases hk
      · exact e_Mo_least a0 a1 σ K (has _ (List.mem_of_getElem? (i := 0) rfl)) (has _ (List.mem_of_getElem? (i := 1) rfl)) hσ hG
    · exact hG2.elim
def S_Mo_common : GS := fun as σ K => match as with
  | [some (.inr (.inr (12, 0))), some (.inl a1), some (.inl a2), some (.inl a3)] => (0 ≤ a1 ∧ 0 ≤ a2 ∧ a1 + a3 ≤ (σ 40 0 0) ∧ a2 + a3 ≤ (σ 40 0 0) ∧ (σ 40 0 0) ≤ 120) ∧ K (vI (lceF (mW σ) a3.toNat a1 a2)) σ
  | _ => False
abbrev Lp_Mo_common_2 (a1 : Int) (a2 : Int) (a3 : Int) (σ0 : SS) (n : Nat) (L : List AV) (σ : SS) : Prop := ∃ (v4 : Int), L = [vR 12 0, vI a1, vI a2, vI a3, vI v4] ∧ n = (a3 - v4).toNat ∧ ((σ = σ0) ∧ (0 ≤ v4) ∧ (v4 ≤ max 0 a3) ∧ (eqs (mW σ0) a1 a2 v4))
def Iv_Mo_common (a1 : Int) (a2 : Int) (a3 : Int) (σ0 : SS) (k : Nat) : Option (List Nat × (Nat → List AV → SS → Prop)) := match k with
  | 2 => some ([], Lp_Mo_common_2 a1 a2 a3 σ0)
  | _ => none
def VE_Mo_common (a1 : Int) (a2 : Int) (a3 : Int) (σ : SS) (K : AV → SS → Prop) : Prop :=
  (∃ n', Lp_Mo_common_2 a1 a2 a3 σ n' [vR 12 0, vI a1, vI a2, vI a3, vI 0] σ)
def VL_Mo_common_2 (a1 : Int) (a2 : Int) (a3 : Int) (σ0 : SS) (K : AV → SS → Prop) (v4 : Int) (σ : SS) (n : Nat) : Prop :=
  ((a3 ≤ v4 →
    (K (vI v4) σ)) ∧
  (v4 < a3 →
    (InR (a1 + v4) ∧
    (S_Mo_at [vR 12 0, vI (a1 + v4)] σ (kI fun r1 σ1 =>
      (InR (a2 + v4) ∧
      (S_Mo_at [vR 12 0, vI (a2 + v4)] σ1 (kI fun r2 σ2 =>
        ((r1 ≠ r2 →
          (K (vI v4) σ2)) ∧
        (r1 = r2 →
          (InR (v4 + 1) ∧
          (∃ n', n' < n ∧ Lp_Mo_common_2 a1 a2 a3 σ0 n' [vR 12 0, vI a1, vI a2, vI a3, vI (v4 + 1)] σ2))))))))))))
theorem l_Mo_common_2 (a1 : Int) (a2 : Int) (a3 : Int) (σ0 : SS) (K : AV → SS → Prop) (ha1 : InR a1) (ha2 : InR a2) (ha3 : InR a3) (hs0 : okS σ0) (hG : S_Mo_common [vR 12 0, vI a1, vI a2, vI a3] σ0 K) (v4 : Int) (σ : SS) (hv4 : InR v4) (hs : okS σ) (n : Nat) (hn : n = (a3 - v4).toNat) (hQ : (σ = σ0) ∧ (0 ≤ v4) ∧ (v4 ≤ max 0 a3) ∧ (eqs (mW σ0) a1 a2 v4)) : VL_Mo_common_2 a1 a2 a3 σ0 K v4 σ n := by
  unfold VL_Mo_common_2
  obtain ⟨h1, hG⟩ := hG
  obtain ⟨rfl, q1, q2, q3⟩ := hQ
  obtain ⟨g1, g2, g3, g4⟩ := lceF_spec (mW σ) a3.toNat a1 a2
  have hend : v4 ≤ lceF (mW σ) a3.toNat a1 a2 := by
    by_cases hc : v4 ≤ lceF (mW σ) a3.toNat a1 a2
    · exact hc
    · exact absurd (q3 _ g1 (by omega)) (g4 (by omega))
  refine ⟨fun h => ?_, fun h => ⟨by omega, by omega, ?_⟩⟩
  · rwa [show v4 = lceF (mW σ) a3.toNat a1 a2 by omega]
  · intro _ _
    refine ⟨by omega, by omega, ?_⟩
    intro _ _
    refine ⟨fun hne => ?_, fun he => ⟨by omega, _, ?_, _, rfl, rfl, rfl, by omega, by omega, eqs_succ q3 he⟩⟩
    · have : ¬ v4 < lceF (mW σ) a3.toNat a1 a2 := fun z => hne (g3 v4 q1 z)
      rwa [show v4 = lceF (mW σ) a3.toNat a1 a2 by omega]
    · omega
theorem e_Mo_common (a1 : Int) (a2 : Int) (a3 : Int) (σ : SS) (K : AV → SS → Prop) (ha1 : InR a1) (ha2 : InR a2) (ha3 : InR a3) (hs : okS σ) (hG : S_Mo_common [vR 12 0, vI a1, vI a2, vI a3] σ K) : VE_Mo_common a1 a2 a3 σ K := by
  unfold VE_Mo_common
  exact ⟨_, _, rfl, rfl, rfl, by omega, by omega, eqs_0 (by omega)⟩
theorem H_Mo_common {d : Nat} (hd : 2 ≤ d) : Holds d I_Mo_common S_Mo_common := by
  refine holds_of (d' := d - 1) (rt := 1) (cal := [(I_Mo_at, S_Mo_at)]) (C := C_Mo_common) m_Mo_common o_Mo_common rfl rfl (by omega) ?_ ?_
  · intro x hx
    simp only [List.mem_cons, List.not_mem_nil, or_false] at hx
    subst hx
    exact H_Mo_at (by omega)
  · intro as σ K has hσ hG
    have hG2 := hG
    unfold S_Mo_common at hG2
    split at hG2
    · next a1 a2 a3 =>
      refine ⟨Nat.le_of_ble_eq_true rfl, (Iv_Mo_common a1 a2 a3 σ), ?_, 1000, ?_⟩
      · intro k n z L σ' hk hL hs hP
        unfold Iv_Mo_common at hk
        split at hk
        · cases hk
          obtain ⟨v4, rfl, hn, hQ⟩ := hP
          exact ⟨1000, l_Mo_common_2 a1 a2 a3 σ K (has _ (List.mem_of_getElem? (i := 1) rfl)) (has _ (List.mem_of_getElem? (i := 2) rfl)) (has _ (List.mem_of_getElem? (i := 3) rfl)) hσ hG v4 σ' (hL _ (List.mem_of_getElem? (i := 4) rfl)) hs n hn hQ⟩
        · cases hk
      · exact e_Mo_common a1 a2 a3 σ K (has _ (List.mem_of_getElem? (i := 1) rfl)) (has _ (List.mem_of_getElem? (i := 2) rfl)) (has _ (List.mem_of_getElem? (i := 3) rfl)) hσ hG
    · exact hG2.elim
def S_Mo_areAlike : GS := fun as σ K => match as with
  | [some (.inr (.inr (12, 0))), some (.inl a1), some (.inl a2), some (.inl a3)] => (0 ≤ a1 ∧ 0 ≤ a2 ∧ 0 ≤ a3 ∧ a1 + a3 ≤ (σ 40 0 0) ∧ a2 + a3 ≤ (σ 40 0 0) ∧ (σ 40 0 0) ≤ 120) ∧ bS (eqs (mW σ) a1 a2 a3) K σ
  | _ => False
def VE_Mo_areAlike (a1 : Int) (a2 : Int) (a3 : Int) (σ : SS) (K : AV → SS → Prop) : Prop :=
  (S_Mo_common [vR 12 0, vI a1, vI a2, vI a3] σ (kI fun r1 σ1 =>
    ((r1 ≠ a3 →
      ((0 ≤ (0 : Int) ∧ (0 : Int) ≤ 1) ∧ K (vI 0) σ1)) ∧
    (r1 = a3 →
      ((0 ≤ (1 : Int) ∧ (1 : Int) ≤ 1) ∧ K (vI 1) σ1)))))
theorem e_Mo_areAlike (a1 : Int) (a2 : Int) (a3 : Int) (σ : SS) (K : AV → SS → Prop) (ha1 : InR a1) (ha2 : InR a2) (ha3 : InR a3) (hs : okS σ) (hG : S_Mo_areAlike [vR 12 0, vI a1, vI a2, vI a3] σ K) : VE_Mo_areAlike a1 a2 a3 σ K := by
  unfold VE_Mo_areAlike
  obtain ⟨h1, h2⟩ := hG
  obtain ⟨g1, g2, g3, g4⟩ := lceF_spec (mW σ) a3.toNat a1 a2
  refine ⟨by omega, ?_⟩
  intro _ _
  refine ⟨fun h => bS_n h2 (fun z => ?_), fun h => bS_y h2 ?_⟩
  · exact g4 (by omega) (z _ g1 (by omega))
  · rw [h] at g3; exact g3
theorem H_Mo_areAlike {d : Nat} (hd : 3 ≤ d) : Holds d I_Mo_areAlike S_Mo_areAlike := by
  refine holds_of (d' := d - 1) (rt := 2) (cal := [(I_Mo_common, S_Mo_common)]) (C := C_Mo_areAlike) m_Mo_areAlike o_Mo_areAlike rfl rfl (by omega) ?_ ?_
  · intro x hx
    simp only [List.mem_cons, List.not_mem_nil, or_false] at hx
    subst hx
    exact H_Mo_common (by omega)
  · intro as σ K has hσ hG
    have hG2 := hG
    unfold S_Mo_areAlike at hG2
    split at hG2
    · next a1 a2 a3 =>
      refine ⟨Nat.le_of_ble_eq_true rfl, (fun _ => none), ?_, 1000, ?_⟩
      · intro k n z L σ' hk hL hs hP
        cases hk
      · exact e_Mo_areAlike a1 a2 a3 σ K (has _ (List.mem_of_getElem? (i := 1) rfl)) (has _ (List.mem_of_getElem? (i := 2) rfl)) (has _ (List.mem_of_getElem? (i := 3) rfl)) hσ hG
    · exact hG2.elim
def S_Mo_isPeriod : GS := fun as σ K => match as with
  | [some (.inr (.inr (12, 0))), some (.inl a1), some (.inl a2), some (.inl a3)] => (MoW σ ∧ 0 ≤ a1 ∧ a2 ≤ (σ 40 0 0) ∧ 0 ≤ a3 ∧ a1 + a3 ≤ a2) ∧ bS (isP (mW σ) a1 a2 a3) K σ
  | _ => False
def VE_Mo_isPeriod (a1 : Int) (a2 : Int) (a3 : Int) (σ : SS) (K : AV → SS → Prop) : Prop :=
  (InR (a1 + a3) ∧
  (InR (a2 - a1) ∧
  (InR ((a2 - a1) - a3) ∧
  (S_Mo_areAlike [vR 12 0, vI a1, vI (a1 + a3), vI ((a2 - a1) - a3)] σ (kI fun r1 σ1 =>
    ((0 ≤ (r1 : Int) ∧ (r1 : Int) ≤ 1) ∧ K (vI r1) σ1))))))
theorem e_Mo_isPeriod (a1 : Int) (a2 : Int) (a3 : Int) (σ : SS) (K : AV → SS → Prop) (ha1 : InR a1) (ha2 : InR a2) (ha3 : InR a3) (hs : okS σ) (hG : S_Mo_isPeriod [vR 12 0, vI a1, vI a2, vI a3] σ K) : VE_Mo_isPeriod a1 a2 a3 σ K := by
  unfold VE_Mo_isPeriod
  obtain ⟨⟨h0, h1⟩, h2⟩ := hG
  obtain ⟨h3, -⟩ := h0
  refine ⟨by omega, by omega, by omega, by omega, fun h => ?_, fun h => ?_⟩
  · intro _ _
    exact bS_y h2 h
  · intro _ _
    exact bS_n h2 h
theorem H_Mo_isPeriod {d : Nat} (hd : 4 ≤ d) : Holds d I_Mo_isPeriod S_Mo_isPeriod := by
  refine holds_of (d' := d - 1) (rt := 2) (cal := [(I_Mo_areAlike, S_Mo_areAlike)]) (C := C_Mo_isPeriod) m_Mo_isPeriod o_Mo_isPeriod rfl rfl (by omega) ?_ ?_
  · intro x hx
    simp only [List.mem_cons, List.not_mem_nil, or_false] at hx
    subst hx
    exact H_Mo_areAlike (by omega)
  · intro as σ K has hσ hG
    have hG2 := hG
    unfold S_Mo_isPeriod at hG2
    split at hG2
    · next a1 a2 a3 =>
      refine ⟨Nat.le_of_ble_eq_true rfl, (fun _ => none), ?_, 1000, ?_⟩
      · intro k n z L σ' hk hL hs hP
        cases hk
      · exact e_Mo_isPeriod a1 a2 a3 σ K (has _ (List.mem_of_getElem? (i := 1) rfl)) (has _ (List.mem_of_getElem? (i := 2) rfl)) (has _ (List.mem_of_getElem? (i := 3) rfl)) hσ hG
    · exact hG2.elim
def S_Mo_leastPeriod : GS := fun as σ K => match as with
  | [some (.inr (.inr (12, 0))), some (.inl a1), some (.inl a2)] => (MoW σ ∧ 0 ≤ a1 ∧ a1 < a2 ∧ a2 ≤ (σ 40 0 0)) ∧ ∀ r, r ≤ a2 - a1 → leastIs (isP (mW σ) a1 a2) 1 r → K (vI r) σ
  | _ => False
abbrev Lp_Mo_leastPeriod_2 (a1 : Int) (a2 : Int) (σ0 : SS) (n : Nat) (L : List AV) (σ : SS) : Prop := ∃ (v3 : Int), L = [vR 12 0, vI a1, vI a2, vI v3] ∧ n = (a2 - a1 - v3).toNat ∧ ((σ = σ0) ∧ (1 ≤ v3) ∧ (v3 ≤ a2 - a1) ∧ (∀ q, 1 ≤ q → q < v3 → ¬ isP (mW σ0) a1 a2 q))
def Iv_Mo_leastPeriod (a1 : Int) (a2 : Int) (σ0 : SS) (k : Nat) : Option (List Nat × (Nat → List AV → SS → Prop)) := match k with
  | 2 => some ([], Lp_Mo_leastPeriod_2 a1 a2 σ0)
  | _ => none
def VE_Mo_leastPeriod (a1 : Int) (a2 : Int) (σ : SS) (K : AV → SS → Prop) : Prop :=
  (∃ n', Lp_Mo_leastPeriod_2 a1 a2 σ n' [vR 12 0, vI a1, vI a2, vI 1] σ)
def VL_Mo_leastPeriod_2 (a1 : Int) (a2 : Int) (σ0 : SS) (K : AV → SS → Prop) (v3 : Int) (σ : SS) (n : Nat) : Prop :=
  (S_Mo_isPeriod [vR 12 0, vI a1, vI a2, vI v3] σ (kI fun r1 σ1 =>
    ((r1 ≠ 0 →
      (K (vI v3) σ1)) ∧
    (r1 = 0 →
      (InR (v3 + 1) ∧
      (∃ n', n' < n ∧ Lp_Mo_leastPeriod_2 a1 a2 σ0 n' [vR 12 0, vI a1, vI a2, vI (v3 + 1)] σ1))))))
theorem l_Mo_leastPeriod_2 (a1 : Int) (a2 : Int) (σ0 : SS) (K : AV → SS → Prop) (ha1 : InR a1) (ha2 : InR a2) (hs0 : okS σ0) (hG : S_Mo_leastPeriod [vR 12 0, vI a1, vI a2] σ0 K) (v3 : Int) (σ : SS) (hv3 : InR v3) (hs : okS σ) (n : Nat) (hn : n = (a2 - a1 - v3).toNat) (hQ : (σ = σ0) ∧ (1 ≤ v3) ∧ (v3 ≤ a2 - a1) ∧ (∀ q, 1 ≤ q → q < v3 → ¬ isP (mW σ0) a1 a2 q)) : VL_Mo_leastPeriod_2 a1 a2 σ0 K v3 σ n := by
  unfold VL_Mo_leastPeriod_2
  obtain ⟨⟨h0, h1⟩, hG⟩ := hG
  obtain ⟨rfl, q1, q2, q3⟩ := hQ
  have h3 := h0.1
  refine ⟨⟨h0, by omega, by omega, by omega, by omega⟩, fun h => ?_, fun h => ?_⟩
  · intro _ _
    exact ⟨fun _ => hG v3 q2 ⟨q1, h, q3⟩, fun z => absurd z (by decide)⟩
  · intro _ _
    refine ⟨fun z => absurd rfl z, fun _ => ?_⟩
    have hlt : v3 < a2 - a1 := by
      rcases (by omega : v3 = a2 - a1 ∨ v3 < a2 - a1) with z | z
      · exact absurd (by rw [z]; exact isP_end (Int.le_refl _)) h
      · exact z
    refine ⟨by omega, _, ?_, _, rfl, rfl, rfl, by omega, by omega, fun q g1 g2 => ?_⟩
    · omega
    · rcases (by omega : q < v3 ∨ q = v3) with z | z
      · exact q3 q g1 z
      · rw [z]; exact h
theorem e_Mo_leastPeriod (a1 : Int) (a2 : Int) (σ : SS) (K : AV → SS → Prop) (ha1 : InR a1) (ha2 : InR a2) (hs : okS σ) (hG : S_Mo_leastPeriod [vR 12 0, vI a1, vI a2] σ K) : VE_Mo_leastPeriod a1 a2 σ K := by
  unfold VE_Mo_leastPeriod
  obtain ⟨⟨hM, h1⟩, hG⟩ := hG
  exact ⟨_, _, rfl, rfl, rfl, by omega, by omega, fun q h1 h2 => absurd h1 (by omega)⟩
theorem H_Mo_leastPeriod {d : Nat} (hd : 5 ≤ d) : Holds d I_Mo_leastPeriod S_Mo_leastPeriod := by
  refine holds_of (d' := d - 1) (rt := 1) (cal := [(I_Mo_isPeriod, S_Mo_isPeriod)]) (C := C_Mo_leastPeriod) m_Mo_leastPeriod o_Mo_leastPeriod rfl rfl (by omega) ?_ ?_
  · intro x hx
    simp only [List.mem_cons, List.not_mem_nil, or_false] at hx
    subst hx
    exact H_Mo_isPeriod (by omega)
  · intro as σ K has hσ hG
    have hG2 := hG
    unfold S_Mo_leastPeriod at hG2
    split at hG2
    · next a1 a2 =>
      refine ⟨Nat.le_of_ble_eq_true rfl, (Iv_Mo_leastPeriod a1 a2 σ), ?_, 1000, ?_⟩
      · intro k n z L σ' hk hL hs hP
        unfold Iv_Mo_leastPeriod at hk
        split at hk
        · cases hk
          obtain ⟨v3, rfl, hn, hQ⟩ := hP
          exact ⟨1000, l_Mo_leastPeriod_2 a1 a2 σ K (has _ (List.mem_of_getElem? (i := 1) rfl)) (has _ (List.mem_of_getElem? (i := 2) rfl)) hσ hG v3 σ' (hL _ (List.mem_of_getElem? (i := 3) rfl)) hs n hn hQ⟩
        · cases hk
      · exact e_Mo_leastPeriod a1 a2 σ K (has _ (List.mem_of_getElem? (i := 1) rfl)) (has _ (List.mem_of_getElem? (i := 2) rfl)) hσ hG
    · exact hG2.elim
def S_Mo_rootOf : GS := fun as σ K => match as with
  | [some (.inr (.inr (12, 0))), some (.inl a1), some (.inl a2)] => (MoW σ ∧ 0 ≤ a1 ∧ a1 < a2 ∧ a2 ≤ (σ 40 0 0)) ∧ ∀ r, r ≤ a2 - a1 → leastIs (isRt (mW σ) a1 a2) 1 r → K (vI r) σ
  | _ => False
abbrev Lp_Mo_rootOf_2 (a1 : Int) (a2 : Int) (σ0 : SS) (n : Nat) (L : List AV) (σ : SS) : Prop := ∃ (v3 : Int), L = [vR 12 0, vI a1, vI a2, vI v3] ∧ n = (a2 - a1 - v3).toNat ∧ ((σ = σ0) ∧ (1 ≤ v3) ∧ (v3 ≤ a2 - a1) ∧ (∀ q, 1 ≤ q → q < v3 → ¬ isRt (mW σ0) a1 a2 q))
def Iv_Mo_rootOf (a1 : Int) (a2 : Int) (σ0 : SS) (k : Nat) : Option (List Nat × (Nat → List AV → SS → Prop)) := match k with
  | 2 => some ([], Lp_Mo_rootOf_2 a1 a2 σ0)
  | _ => none
def VE_Mo_rootOf (a1 : Int) (a2 : Int) (σ : SS) (K : AV → SS → Prop) : Prop :=
  (∃ n', Lp_Mo_rootOf_2 a1 a2 σ n' [vR 12 0, vI a1, vI a2, vI 1] σ)
def VL_Mo_rootOf_2 (a1 : Int) (a2 : Int) (σ0 : SS) (K : AV → SS → Prop) (v3 : Int) (σ : SS) (n : Nat) : Prop :=
  (InR (a2 - a1) ∧
  ((v3 ≠ 0 ∧ InR (Int.tmod (a2 - a1) v3)) ∧
  (((Int.tmod (a2 - a1) v3) ≠ 0 →
    (InR (v3 + 1) ∧
    (∃ n', n' < n ∧ Lp_Mo_rootOf_2 a1 a2 σ0 n' [vR 12 0, vI a1, vI a2, vI (v3 + 1)] σ))) ∧
  ((Int.tmod (a2 - a1) v3) = 0 →
    (S_Mo_isPeriod [vR 12 0, vI a1, vI a2, vI v3] σ (kI fun r1 σ1 =>
      ((r1 ≠ 0 →
        (K (vI v3) σ1)) ∧
      (r1 = 0 →
        (InR (v3 + 1) ∧
        (∃ n', n' < n ∧ Lp_Mo_rootOf_2 a1 a2 σ0 n' [vR 12 0, vI a1, vI a2, vI (v3 + 1)] σ1))))))))))
theorem l_Mo_rootOf_2 (a1 : Int) (a2 : Int) (σ0 : SS) (K : AV → SS → Prop) (ha1 : InR a1) (ha2 : InR a2) (hs0 : okS σ0) (hG : S_Mo_rootOf [vR 12 0, vI a1, vI a2] σ0 K) (v3 : Int) (σ : SS) (hv3 : InR v3) (hs : okS σ) (n : Nat) (hn : n = (a2 - a1 - v3).toNat) (hQ : (σ = σ0) ∧ (1 ≤ v3) ∧ (v3 ≤ a2 - a1) ∧ (∀ q, 1 ≤ q → q < v3 → ¬ isRt (mW σ0) a1 a2 q)) : VL_Mo_rootOf_2 a1 a2 σ0 K v3 σ n := by
  unfold VL_Mo_rootOf_2
  obtain ⟨⟨h0, h1⟩, hG⟩ := hG
  obtain ⟨rfl, q1, q2, q3⟩ := hQ
  have h3 := h0.1
  have ht1 := Int.tmod_nonneg v3 (a := a2 - a1) (by omega)
  have ht2 := Int.tmod_lt_of_pos (a2 - a1) (b := v3) (by omega)
  have hnext : ¬ isRt (mW σ) a1 a2 v3 → InR (v3 + 1) ∧ ∃ n', n' < n ∧ Lp_Mo_rootOf_2 a1 a2 σ n' [vR 12 0, vI a1, vI a2, vI (v3 + 1)] σ := by
    intro hno
    have hlt : v3 < a2 - a1 := by
      rcases (by omega : v3 = a2 - a1 ∨ v3 < a2 - a1) with z | z
      · exact absurd ⟨by rw [z, Int.tmod_self], by rw [z]; exact isP_end (Int.le_refl _)⟩ hno
      · exact z
    refine ⟨by omega, _, ?_, _, rfl, rfl, rfl, by omega, by omega, fun q g1 g2 => ?_⟩
    · omega
    · rcases (by omega : q < v3 ∨ q = v3) with z | z
      · exact q3 q g1 z
      · rw [z]; exact hno
  refine ⟨by omega, ⟨by omega, by omega⟩, fun h => hnext (fun z => h z.1), fun h => ⟨⟨h0, by omega, by omega, by omega, by omega⟩, fun h2 => ?_, fun h2 => ?_⟩⟩
  · intro _ _
    exact ⟨fun _ => hG v3 q2 ⟨q1, ⟨h, h2⟩, q3⟩, fun z => absurd z (by decide)⟩
  · intro _ _
    exact ⟨fun z => absurd rfl z, fun _ => hnext (fun z => h2 z.2)⟩
theorem e_Mo_rootOf (a1 : Int) (a2 : Int) (σ : SS) (K : AV → SS → Prop) (ha1 : InR a1) (ha2 : InR a2) (hs : okS σ) (hG : S_Mo_rootOf [vR 12 0, vI a1, vI a2] σ K) : VE_Mo_rootOf a1 a2 σ K := by
  unfold VE_Mo_rootOf
  obtain ⟨⟨hM, h1⟩, hG⟩ := hG
  exact ⟨_, _, rfl, rfl, rfl, by omega, by omega, fun q h1 h2 => absurd h1 (by omega)⟩
theorem H_Mo_rootOf {d : Nat} (hd : 5 ≤ d) : Holds d I_Mo_rootOf S_Mo_rootOf := by
  refine holds_of (d' := d - 1) (rt := 1) (cal := [(I_Mo_isPeriod, S_Mo_isPeriod)]) (C := C_Mo_rootOf) m_Mo_rootOf o_Mo_rootOf rfl rfl (by omega) ?_ ?_
  · intro x hx
    simp only [List.mem_cons, List.not_mem_nil, or_false] at hx
    subst hx
    exact H_Mo_isPeriod (by omega)
  · intro as σ K has hσ hG
    have hG2 := hG
    unfold S_Mo_rootOf at hG2
    split at hG2
    · next a1 a2 =>
      refine ⟨Nat.le_of_ble_eq_true rfl, (Iv_Mo_rootOf a1 a2 σ), ?_, 1000, ?_⟩
      · intro k n z L σ' hk hL hs hP
        unfold Iv_Mo_rootOf at hk
        split at hk
        · cases hk
          obtain ⟨v3, rfl, hn, hQ⟩ := hP
          exact ⟨1000, l_Mo_rootOf_2 a1 a2 σ K (has _ (List.mem_of_getElem? (i := 1) rfl)) (has _ (List.mem_of_getElem? (i := 2) rfl)) hσ hG v3 σ' (hL _ (List.mem_of_getElem? (i := 3) rfl)) hs n hn hQ⟩
        · cases hk
      · exact e_Mo_rootOf a1 a2 σ K (has _ (List.mem_of_getElem? (i := 1) rfl)) (has _ (List.mem_of_getElem? (i := 2) rfl)) hσ hG
    · exact hG2.elim
def S_Mo_isEarlier : GS := fun as σ K => match as with
  | [some (.inr (.inr (12, 0))), some (.inl a1), some (.inl a2)] => (MoW σ ∧ 0 ≤ a1 ∧ 0 ≤ a2 ∧ a1 + a2 ≤ (σ 40 0 0)) ∧ bS (isE (mW σ) a1 a2) K σ
  | _ => False
abbrev Lp_Mo_isEarlier_2 (a1 : Int) (a2 : Int) (σ0 : SS) (n : Nat) (L : List AV) (σ : SS) : Prop := ∃ (v3 : Int), L = [vR 12 0, vI a1, vI a2, vI v3] ∧ n = (a1 - v3).toNat ∧ ((σ = σ0) ∧ (0 ≤ v3) ∧ (v3 ≤ a1) ∧ (∀ o, 0 ≤ o → o < v3 → ¬ eqs (mW σ0) o a1 a2))
def Iv_Mo_isEarlier (a1 : Int) (a2 : Int) (σ0 : SS) (k : Nat) : Option (List Nat × (Nat → List AV → SS → Prop)) := match k with
  | 2 => some ([], Lp_Mo_isEarlier_2 a1 a2 σ0)
  | _ => none
def VE_Mo_isEarlier (a1 : Int) (a2 : Int) (σ : SS) (K : AV → SS → Prop) : Prop :=
  (∃ n', Lp_Mo_isEarlier_2 a1 a2 σ n' [vR 12 0, vI a1, vI a2, vI 0] σ)
def VL_Mo_isEarlier_2 (a1 : Int) (a2 : Int) (σ0 : SS) (K : AV → SS → Prop) (v3 : Int) (σ : SS) (n : Nat) : Prop :=
  ((a1 ≤ v3 →
    ((0 ≤ (0 : Int) ∧ (0 : Int) ≤ 1) ∧ K (vI 0) σ)) ∧
  (v3 < a1 →
    (S_Mo_areAlike [vR 12 0, vI v3, vI a1, vI a2] σ (kI fun r1 σ1 =>
      ((r1 = 0 →
        (InR (v3 + 1) ∧
        (∃ n', n' < n ∧ Lp_Mo_isEarlier_2 a1 a2 σ0 n' [vR 12 0, vI a1, vI a2, vI (v3 + 1)] σ1))) ∧
      (r1 ≠ 0 →
        ((0 ≤ (1 : Int) ∧ (1 : Int) ≤ 1) ∧ K (vI 1) σ1)))))))
theorem l_Mo_isEarlier_2 (a1 : Int) (a2 : Int) (σ0 : SS) (K : AV → SS → Prop) (ha1 : InR a1) (ha2 : InR a2) (hs0 : okS σ0) (hG : S_Mo_isEarlier [vR 12 0, vI a1, vI a2] σ0 K) (v3 : Int) (σ : SS) (hv3 : InR v3) (hs : okS σ) (n : Nat) (hn : n = (a1 - v3).toNat) (hQ : (σ = σ0) ∧ (0 ≤ v3) ∧ (v3 ≤ a1) ∧ (∀ o, 0 ≤ o → o < v3 → ¬ eqs (mW σ0) o a1 a2)) : VL_Mo_isEarlier_2 a1 a2 σ0 K v3 σ n := by
  unfold VL_Mo_isEarlier_2
  obtain ⟨⟨h0, h1⟩, hG⟩ := hG
  obtain ⟨rfl, q1, q2, q3⟩ := hQ
  have h3 := h0.1
  refine ⟨fun h => bS_n hG (fun ⟨o, g1, g2, g3⟩ => q3 o g1 (by omega) g3), fun h => ⟨by omega, fun h2 => ?_, fun h2 => ?_⟩⟩
  · intro _ _
    exact ⟨fun z => absurd z (by decide), fun _ => bS_y hG ⟨v3, q1, h, h2⟩⟩
  · intro _ _
    refine ⟨fun _ => ⟨by omega, _, ?_, _, rfl, rfl, rfl, by omega, by omega, fun o g1 g2 => ?_⟩, fun z => absurd rfl z⟩
    · omega
    · rcases (by omega : o < v3 ∨ o = v3) with z | z
      · exact q3 o g1 z
      · rw [z]; exact h2
theorem e_Mo_isEarlier (a1 : Int) (a2 : Int) (σ : SS) (K : AV → SS → Prop) (ha1 : InR a1) (ha2 : InR a2) (hs : okS σ) (hG : S_Mo_isEarlier [vR 12 0, vI a1, vI a2] σ K) : VE_Mo_isEarlier a1 a2 σ K := by
  unfold VE_Mo_isEarlier
  obtain ⟨⟨h0, h1⟩, hG⟩ := hG
  exact ⟨_, _, rfl, rfl, rfl, by omega, by omega, fun o h1 h2 => absurd h1 (by omega)⟩
theorem H_Mo_isEarlier {d : Nat} (hd : 4 ≤ d) : Holds d I_Mo_isEarlier S_Mo_isEarlier := by
  refine holds_of (d' := d - 1) (rt := 2) (cal := [(I_Mo_areAlike, S_Mo_areAlike)]) (C := C_Mo_isEarlier) m_Mo_isEarlier o_Mo_isEarlier rfl rfl (by omega) ?_ ?_
  · intro x hx
    simp only [List.mem_cons, List.not_mem_nil, or_false] at hx
    subst hx
    exact H_Mo_areAlike (by omega)
  · intro as σ K has hσ hG
    have hG2 := hG
    unfold S_Mo_isEarlier at hG2
    split at hG2
    · next a1 a2 =>
      refine ⟨Nat.le_of_ble_eq_true rfl, (Iv_Mo_isEarlier a1 a2 σ), ?_, 1000, ?_⟩
      · intro k n z L σ' hk hL hs hP
        unfold Iv_Mo_isEarlier at hk
        split at hk
        · cases hk
          obtain ⟨v3, rfl, hn, hQ⟩ := hP
          exact ⟨1000, l_Mo_isEarlier_2 a1 a2 σ K (has _ (List.mem_of_getElem? (i := 1) rfl)) (has _ (List.mem_of_getElem? (i := 2) rfl)) hσ hG v3 σ' (hL _ (List.mem_of_getElem? (i := 3) rfl)) hs n hn hQ⟩
        · cases hk
      · exact e_Mo_isEarlier a1 a2 σ K (has _ (List.mem_of_getElem? (i := 1) rfl)) (has _ (List.mem_of_getElem? (i := 2) rfl)) hσ hG
    · exact hG2.elim
